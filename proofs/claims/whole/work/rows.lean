section
/-! a small machine over the kit's rows: ints, one made object with its int arrays; calls by contract. 'm_wp' is its weakest precondition, evaluated by unfolding alone; 'm_con' makes a method's contract out of it. -/
abbrev mV : Type := Int32 ⊕ Nat
abbrev mC : Type := List mV ⊕ (Nat × (Nat → Int32))
abbrev mH : Type := List mC
abbrev mL : Type := List (Option mV)
abbrev mG : Type := Nat × mL × List mV × mH
abbrev mT : Type := List mV → mH → (Option Int32 → mH → Prop) → Prop
/-- an instruction: itself, the next pc, its target, its constant, whether a loop begins there -/
abbrev mE : Type := Jvm.ClassFile.Instr × Nat × Nat × Int32 × Bool
def m_lk {α : Type} : List (Nat × α) → Nat → Option α
  | [], _ => none
  | q :: t, i => bif Nat.beq q.1 i then some q.2 else m_lk t i
def m_gl : mL → Nat → Option mV
  | [], _ => none
  | x :: _, 0 => x
  | _ :: t, i + 1 => m_gl t i
def m_at {α : Type} : List α → Nat → Option α
  | [], _ => none
  | x :: _, 0 => some x
  | _ :: t, i + 1 => m_at t i
def m_pop : Nat → List mV → List mV → Option (List mV × List mV)
  | 0, acc, S => some (acc, S)
  | _ + 1, _, [] => none
  | k + 1, acc, v :: S => m_pop k (v :: acc) S
def m_ps (r : Option Int32) (S : List mV) : List mV := match r with
  | some x => .inl x :: S
  | none => S
def m_st (fld : List (Nat × Nat)) (fpt : List (Nat × Nat × Bool)) (kon : List (Nat × Int32)) (call : List (Nat × Bool × Nat × mT)) (rb : Nat) (R : Option Int32 → mH → Prop) (i : Jvm.ClassFile.Instr) (nx tg : Nat) (cv : Int32) (L : mL) (S : List mV) (h : mH) (K : Nat → mL → List mV → mH → Prop) : Prop :=
  match i with
  | .iconst _ => K nx L (.inl cv :: S) h
  | .bipush _ => K nx L (.inl cv :: S) h
  | .sipush _ => K nx L (.inl cv :: S) h
  | .ldc x => match m_lk kon x with
    | some v => K nx L (.inl v :: S) h
    | none => False
  | .ldc_w x => match m_lk kon x with
    | some v => K nx L (.inl v :: S) h
    | none => False
  | .iload_n j => match m_gl L j.val with
    | some (.inl x) => K nx L (.inl x :: S) h
    | _ => False
  | .iload j => match m_gl L j with
    | some (.inl x) => K nx L (.inl x :: S) h
    | _ => False
  | .aload_n j => match m_gl L j.val with
    | some (.inr x) => K nx L (.inr x :: S) h
    | _ => False
  | .aload j => match m_gl L j with
    | some (.inr x) => K nx L (.inr x :: S) h
    | _ => False
  | .istore_n j => match S with
    | .inl x :: S => K nx (L.set j.val (some (.inl x))) S h
    | _ => False
  | .istore j => match S with
    | .inl x :: S => K nx (L.set j (some (.inl x))) S h
    | _ => False
  | .iinc j _ => match m_gl L j with
    | some (.inl x) => K nx (L.set j (some (.inl (x + cv)))) S h
    | _ => False
  | .iadd => match S with
    | .inl y :: .inl x :: S => K nx L (.inl (x + y) :: S) h
    | _ => False
  | .isub => match S with
    | .inl y :: .inl x :: S => K nx L (.inl (x - y) :: S) h
    | _ => False
  | .imul => match S with
    | .inl y :: .inl x :: S => K nx L (.inl (x * y) :: S) h
    | _ => False
  | .iand => match S with
    | .inl y :: .inl x :: S => K nx L (.inl (x &&& y) :: S) h
    | _ => False
  | .ior => match S with
    | .inl y :: .inl x :: S => K nx L (.inl (x ||| y) :: S) h
    | _ => False
  | .ixor => match S with
    | .inl y :: .inl x :: S => K nx L (.inl (x ^^^ y) :: S) h
    | _ => False
  | .ishl => match S with
    | .inl y :: .inl x :: S => K nx L (.inl (x <<< (y &&& 31)) :: S) h
    | _ => False
  | .ishr => match S with
    | .inl y :: .inl x :: S => K nx L (.inl (x >>> (y &&& 31)) :: S) h
    | _ => False
  | .iushr => match S with
    | .inl y :: .inl x :: S => K nx L (.inl (x.toUInt32 >>> (y.toUInt32 &&& Int32.toUInt32 31)).toInt32 :: S) h
    | _ => False
  | .ineg => match S with
    | .inl x :: S => K nx L (.inl (-x) :: S) h
    | _ => False
  | .idiv => match S with
    | .inl y :: .inl x :: S => ¬ y = 0 ∧ K nx L (.inl (x / y) :: S) h
    | _ => False
  | .irem => match S with
    | .inl y :: .inl x :: S => ¬ y = 0 ∧ K nx L (.inl (x - x / y * y) :: S) h
    | _ => False
  | .dup => match S with
    | v :: S => K nx L (v :: v :: S) h
    | _ => False
  | .dup2 => match S with
    | v :: w :: S => K nx L (v :: w :: v :: w :: S) h
    | _ => False
  | .dup_x1 => match S with
    | v :: w :: S => K nx L (v :: w :: v :: S) h
    | _ => False
  | .dup_x2 => match S with
    | v :: w :: z :: S => K nx L (v :: w :: z :: v :: S) h
    | _ => False
  | .pop => match S with
    | _ :: S => K nx L S h
    | _ => False
  | .goto _ => K tg L S h
  | .ifCond .eq _ => match S with
    | .inl x :: S => (x = 0 → K tg L S h) ∧ (¬ x = 0 → K nx L S h)
    | _ => False
  | .ifCond .ne _ => match S with
    | .inl x :: S => (¬ x = 0 → K tg L S h) ∧ (x = 0 → K nx L S h)
    | _ => False
  | .ifCond .lt _ => match S with
    | .inl x :: S => (x < 0 → K tg L S h) ∧ (¬ x < 0 → K nx L S h)
    | _ => False
  | .ifCond .ge _ => match S with
    | .inl x :: S => (0 ≤ x → K tg L S h) ∧ (¬ 0 ≤ x → K nx L S h)
    | _ => False
  | .ifCond .gt _ => match S with
    | .inl x :: S => (0 < x → K tg L S h) ∧ (¬ 0 < x → K nx L S h)
    | _ => False
  | .ifCond .le _ => match S with
    | .inl x :: S => (x ≤ 0 → K tg L S h) ∧ (¬ x ≤ 0 → K nx L S h)
    | _ => False
  | .if_icmp .eq _ => match S with
    | .inl y :: .inl x :: S => (x = y → K tg L S h) ∧ (¬ x = y → K nx L S h)
    | _ => False
  | .if_icmp .ne _ => match S with
    | .inl y :: .inl x :: S => (¬ x = y → K tg L S h) ∧ (x = y → K nx L S h)
    | _ => False
  | .if_icmp .lt _ => match S with
    | .inl y :: .inl x :: S => (x < y → K tg L S h) ∧ (¬ x < y → K nx L S h)
    | _ => False
  | .if_icmp .ge _ => match S with
    | .inl y :: .inl x :: S => (y ≤ x → K tg L S h) ∧ (¬ y ≤ x → K nx L S h)
    | _ => False
  | .if_icmp .gt _ => match S with
    | .inl y :: .inl x :: S => (y < x → K tg L S h) ∧ (¬ y < x → K nx L S h)
    | _ => False
  | .if_icmp .le _ => match S with
    | .inl y :: .inl x :: S => (x ≤ y → K tg L S h) ∧ (¬ x ≤ y → K nx L S h)
    | _ => False
  | .getfield x => match S with
    | .inr j :: S => match m_at h j with
      | some (.inl fs) => match m_lk fld x with
        | some k => match m_at fs k with
          | some v => K nx L (v :: S) h
          | none => False
        | none => False
      | _ => False
    | _ => False
  | .putfield x => match S with
    | .inl v :: .inr j :: S => match m_at h j with
      | some (.inl fs) => match m_lk fpt x with
        | some (k, b) => match m_at fs k with
          | some _ => bif b then ((v = 0 ∨ v = 1) ∧ K nx L S (h.set j (.inl (fs.set k (.inl v))))) else K nx L S (h.set j (.inl (fs.set k (.inl v))))
          | none => False
        | none => False
      | _ => False
    | _ => False
  | .iaload => match S with
    | .inl i :: .inr j :: S => match m_at h j with
      | some (.inr (n, f)) => vp_in i n ∧ K nx L (.inl (f i.toNatClampNeg) :: S) h
      | _ => False
    | _ => False
  | .iastore => match S with
    | .inl x :: .inl i :: .inr j :: S => match m_at h j with
      | some (.inr (n, f)) => vp_in i n ∧ K nx L S (h.set j (.inr (n, upd f i.toNatClampNeg x)))
      | _ => False
    | _ => False
  | .invokestatic x => match m_lk call x with
    | some (true, na, T) => match m_pop na [] S with
      | some (as, rest) => bif Nat.ble rest.length 8 then T as h (fun r h' => K nx L (m_ps r rest) h') else False
      | none => False
    | _ => False
  | .invokevirtual x => match m_lk call x with
    | some (false, na, T) => match m_pop na [] S with
      | some (as, rest) => bif Nat.ble rest.length 8 then T as h (fun r h' => K nx L (m_ps r rest) h') else False
      | none => False
    | _ => False
  | .ireturn => match S with
    | [.inl v] => match rb with
      | 0 => R (some v) h
      | 1 => (v = 0 ∨ v = 1) ∧ R (some v) h
      | _ => False
    | _ => False
  | .return_ => match S with
    | [] => match rb with
      | 2 => R none h
      | _ => False
    | _ => False
  | _ => False
def m_wp (code : List (Nat × mE)) (fld : List (Nat × Nat)) (fpt : List (Nat × Nat × Bool)) (kon : List (Nat × Int32)) (call : List (Nat × Bool × Nat × mT)) (rb : Nat) (V : mG → Prop) (R : Option Int32 → mH → Prop) : Nat → Bool → Nat → mL → List mV → mH → Prop
  | 0, _, pc, L, S, h => V (pc, L, S, h)
  | n + 1, st, pc, L, S, h => match m_lk code pc with
    | none => False
    | some (i, nx, tg, cv, hd) => bif st && hd then V (pc, L, S, h) else m_st fld fpt kon call rb R i nx tg cv L S h (fun pc' L' S' h' => m_wp code fld fpt kon call rb V R n true pc' L' S' h')
/-- what a method's walk has to show: for every V that is closed under the walk, V at the entry -/
def m_cl (code : List (Nat × mE)) (fld : List (Nat × Nat)) (fpt : List (Nat × Nat × Bool)) (kon : List (Nat × Int32)) (call : List (Nat × Bool × Nat × mT)) (rb : Nat) (R : Option Int32 → mH → Prop) (V : mG → Prop) : Prop :=
  ∀ (n pc : Nat) (L : mL) (S : List mV) (h : mH), m_wp code fld fpt kon call rb V R n false pc L S h → V (pc, L, S, h)
def m_len : Jvm.ClassFile.Instr → Nat
  | .bipush _ => 2
  | .sipush _ => 3
  | .ldc _ => 2
  | .ldc_w _ => 3
  | .iload _ => 2
  | .aload _ => 2
  | .istore _ => 2
  | .iinc _ _ => 3
  | .goto _ => 3
  | .ifCond _ _ => 3
  | .if_icmp _ _ => 3
  | .getfield _ => 3
  | .putfield _ => 3
  | .invokestatic _ => 3
  | .invokevirtual _ => 3
  | _ => 1
def m_side (nL pc : Nat) (i : Jvm.ClassFile.Instr) (tg : Nat) (cv : Int32) : Bool := match i with
  | .iconst v => decide (Int32.ofInt v = cv)
  | .bipush v => decide ((Int8.ofInt v).toInt32 = cv)
  | .sipush v => decide ((Int16.ofInt v).toInt32 = cv)
  | .istore_n j => decide (j.val < nL)
  | .istore j => decide (j < nL)
  | .iinc j v => decide (Int32.ofInt v = cv) && decide (j < nL)
  | .goto o => decide ((pc : Int) + o = (tg : Int))
  | .ifCond _ o => decide ((pc : Int) + o = (tg : Int))
  | .if_icmp _ o => decide ((pc : Int) + o = (tg : Int))
  | _ => true
def m_ok (cc : ByteArray) (nL : Nat) (q : Nat × mE) : Bool := decide (decode cc q.1 = .ok (q.2.1, m_len q.2.1)) && (decide (q.2.2.1 = q.1 + m_len q.2.1) && m_side nL q.1 q.2.1 q.2.2.2.1 q.2.2.2.2.1)
theorem m_lk_mem {α : Type} {l : List (Nat × α)} {i : Nat} {a : α} (h : m_lk l i = some a) : (i, a) ∈ l := by
  induction l with
  | nil => cases h
  | cons q t ih =>
    obtain ⟨j, b⟩ := q
    unfold m_lk at h
    cases e : Nat.beq j i with
    | true =>
      rw [e] at h
      have hji : j = i := Nat.eq_of_beq_eq_true e
      subst hji
      cases h
      exact List.mem_cons_self
    | false =>
      rw [e] at h
      exact List.mem_cons_of_mem _ (ih h)
theorem m_at_eq {α : Type} (l : List α) (i : Nat) : m_at l i = l[i]? := by
  induction l generalizing i with
  | nil => rfl
  | cons x t ih => cases i with
    | zero => rfl
    | succ i => exact ih i
theorem m_pop_eq {k : Nat} {acc S as rest : List mV} (h : m_pop k acc S = some (as, rest)) : acc.reverse ++ S = as.reverse ++ rest ∧ as.length = k + acc.length := by
  induction k generalizing acc S with
  | zero => cases h; exact ⟨rfl, (Nat.zero_add _).symm⟩
  | succ k ih => cases S with
    | nil => cases h
    | cons v S =>
      obtain ⟨h1, h2⟩ := ih (acc := v :: acc) h
      refine ⟨?_, ?_⟩
      · rw [← h1]; simp
      · rw [h2]; simp; omega
-- the cells and the locals as the kit has them
def m_v (ad : Nat → Nat) : mV → Value
  | .inl x => .int x
  | .inr j => .ref (ad j)
def m_e (ci : Nat) (cA : ClassId) (ad : Nat → Nat) : mC → va_E
  | .inl fs => .inr (ci, fs.map (m_v ad))
  | .inr a => .inl (cA, a.1, .inl a.2)
def m_w (ci : Nat) (cA : ClassId) (ad : Nat → Nat) (h : mH) : va_W := h.mapIdx (fun j q => (ad j, m_e ci cA ad q))
theorem m_w_get {ci : Nat} {cA : ClassId} {ad : Nat → Nat} {h : mH} {j : Nat} {q : mC} (e : m_at h j = some q) : (m_w ci cA ad h)[j]? = some (ad j, m_e ci cA ad q) := by
  rw [m_at_eq] at e
  simp [m_w, e]
theorem m_w_set {ci : Nat} {cA : ClassId} {ad : Nat → Nat} {h : mH} {j : Nat} {q : mC} : (m_w ci cA ad h).set j (ad j, m_e ci cA ad q) = m_w ci cA ad (h.set j q) := by
  simp [m_w]
theorem m_cat (ad : Nat → Nat) (v : mV) : (m_v ad v).category = 1 := by cases v <;> rfl
def m_lv (ad : Nat → Nat) : Nat → mL → List (Nat × Value)
  | _, [] => []
  | i, none :: t => m_lv ad (i + 1) t
  | i, some v :: t => (i, m_v ad v) :: m_lv ad (i + 1) t
theorem m_lv_mem {ad : Nat → Nat} {q : Nat × Value} {L : mL} : ∀ {i : Nat}, q ∈ m_lv ad i L ↔ ∃ (k : Nat) (v : mV), q.1 = i + k ∧ m_gl L k = some v ∧ q.2 = m_v ad v := by
  induction L with
  | nil => intro i; simp [m_lv, m_gl]
  | cons x t ih =>
    intro i
    cases x with
    | none =>
      simp only [m_lv]
      rw [ih]
      constructor
      · rintro ⟨k, v, h1, h2, h3⟩
        exact ⟨k + 1, v, by omega, h2, h3⟩
      · rintro ⟨k, v, h1, h2, h3⟩
        cases k with
        | zero => cases h2
        | succ k => exact ⟨k, v, by omega, h2, h3⟩
    | some w =>
      simp only [m_lv, List.mem_cons]
      rw [ih]
      constructor
      · rintro (rfl | ⟨k, v, h1, h2, h3⟩)
        · exact ⟨0, w, rfl, rfl, rfl⟩
        · exact ⟨k + 1, v, by omega, h2, h3⟩
      · rintro ⟨k, v, h1, h2, h3⟩
        cases k with
        | zero =>
          left
          have : w = v := Option.some.inj h2
          subst this
          exact Prod.ext h1 h3
        | succ k => right; exact ⟨k, v, by omega, h2, h3⟩
theorem m_gl_set {L : mL} {i j : Nat} {w : mV} : m_gl (L.set i (some w)) j = if j = i ∧ i < L.length then some w else m_gl L j := by
  induction L generalizing i j with
  | nil => simp [m_gl]
  | cons x t ih =>
    cases i with
    | zero => cases j with
      | zero => simp [m_gl]
      | succ j => simp [m_gl]
    | succ i => cases j with
      | zero => simp [m_gl]
      | succ j =>
        simp only [List.set_cons_succ, m_gl, ih, List.length_cons]
        by_cases hc : j = i ∧ i < t.length
        · rw [if_pos hc, if_pos ⟨by omega, by omega⟩]
        · rw [if_neg hc, if_neg (by omega)]
theorem m_gl_lt {L : mL} {k : Nat} {v : mV} (h : m_gl L k = some v) : k < L.length := by
  induction L generalizing k with
  | nil => cases h
  | cons x t ih => cases k with
    | zero => simp
    | succ k =>
      have := ih h
      simp
      omega
theorem m_has {ad : Nat → Nat} {ls : Array Slot} {nL : Nat} {L : mL} (h : lv_has ls nL (m_lv ad 0 L)) {i : Nat} {v : mV} (e : m_gl L i = some v) : ls[i]? = some (.val (m_v ad v)) :=
  h.2.2 (i, m_v ad v) (m_lv_mem.mpr ⟨i, v, (Nat.zero_add i).symm, e, rfl⟩)
theorem m_lvsub {ls : Array Slot} {nL : Nat} {l l' : List (Nat × Value)} (h : lv_has ls nL l) (hs : ∀ q ∈ l', q ∈ l) : lv_has ls nL l' := ⟨h.1, h.2.1, fun q hq => h.2.2 q (hs q hq)⟩
theorem m_lvset {ad : Nat → Nat} {ls : Array Slot} {nL i : Nat} {L : mL} {w : mV} {u : Value} (hu : u = m_v ad w) (h : lv_has ls nL ((i, u) :: (m_lv ad 0 L).filter (fun q => !(q.1 == i) && !(q.1 + 1 == i && q.2.category == 2)))) : lv_has ls nL (m_lv ad 0 (L.set i (some w))) := by
  refine m_lvsub h (fun q hq => ?_)
  obtain ⟨k, v, h1, h2, h3⟩ := m_lv_mem.mp hq
  rw [m_gl_set] at h2
  have hk : q.1 = k := by omega
  by_cases hc : k = i ∧ i < L.length
  · rw [if_pos hc] at h2
    have : w = v := Option.some.inj h2
    subst this
    rw [List.mem_cons]
    left
    exact Prod.ext (by rw [hk, hc.1]) (by rw [h3, hu])
  · rw [if_neg hc] at h2
    by_cases hki : k = i
    · have hlt : i < L.length := by rw [← hki]; exact m_gl_lt h2
      exact absurd ⟨hki, hlt⟩ hc
    · rw [List.mem_cons]
      right
      rw [List.mem_filter]
      refine ⟨m_lv_mem.mpr ⟨k, v, h1, h2, h3⟩, ?_⟩
      have h4 : q.2.category = 1 := by rw [h3]; exact m_cat ad v
      simp [hk, hki, h4]
end
section
/-! the small machine is the machine: one step, then a walk, then a method's contract -/
section MS
variable {p : Program} {l : Launch} {e : Env} {R : Room} {s : State} {m : MethodId} {args : Array Value} {below : List Frame} {meth : Method} {c : Code} {cc : ByteArray} {nL : Nat} {Q : State → Prop}
variable {D : va_G} {cl : List vw_C} {cA : ClassId} {ci : Nat} {ad : Nat → Nat} {A : Nat → Prop} {H0 : Heap}
/-- the machine at a point of the small machine -/
def m_W (p : Program) (l : Launch) (e : Env) (R : Room) (s : State) (m : MethodId) (args : Array Value) (below : List Frame) (meth : Method) (c : Code) (nL : Nat) (Q : State → Prop) (D : va_G) (cl : List vw_C) (cA : ClassId) (ci : Nat) (ad : Nat → Nat) (A : Nat → Prop) (H0 : Heap) (g : mG) : Prop :=
  g.2.1.length = nL → ∀ (H : Heap) (locs : List Loc) (ls : Array Slot), va_P D cl (m_w ci cA ad g.2.2.2) H → va_D A (m_w ci cA ad g.2.2.2) → va_S A H0 H locs → lv_has ls nL (m_lv ad 0 g.2.1) → W p l e R s m args below meth c H locs 0 0 Q (F0 m g.1 ls (g.2.2.1.map (m_v ad)))
/-- a call at pool number idx does what T says -/
def m_OK (D : va_G) (cl : List vw_C) (cA : ClassId) (ci : Nat) (ad : Nat → Nat) (Ts : List Cond) (l : Launch) (own : String) (R : Room) (idx : Nat) (st : Bool) (na : Nat) (T : mT) : Prop :=
  ∀ (p : Program) (e : Env) (s : State) (m : MethodId) (args : Array Value) (below : List Frame) (meth : Method) (c : Code) (cc : ByteArray) (nL : Nat) (Q : State → Prop) (A : Nat → Prop) (H0 : Heap), CallFix p m c cc nL s args Ts own → va_K D cl [(cA, .int)] s → (∀ q, H0.size ≤ q → A q) →
  ∀ (pc : Nat) (ls : Array Slot) (rest as : List mV) (h : mH) (k : Option Int32 → mH → Prop) (H : Heap) (locs : List Loc), T as h k → as.length = na → decode cc pc = .ok (bif st then .invokestatic idx else .invokevirtual idx, 3) → ls.size = nL → rest.length ≤ 8 → va_P D cl (m_w ci cA ad h) H → va_D A (m_w ci cA ad h) → va_S A H0 H locs →
  (∀ (r : Option Int32) (h' : mH) (H1 : Heap) (locs1 : List Loc), k r h' → va_P D cl (m_w ci cA ad h') H1 → va_D A (m_w ci cA ad h') → va_S A H0 H1 locs1 → W p l e R s m args below meth c H1 locs1 0 0 Q (F0 m (pc + 3) ls ((m_ps r rest).map (m_v ad)))) →
  W p l e R s m args below meth c H locs 0 0 Q (F0 m pc ls ((as.reverse ++ rest).map (m_v ad)))
/-- what holds of the method's own tables -/
def m_Tb (s : State) (args : Array Value) (cl : List vw_C) (ci : Nat) (Ts : List Cond) (own C : String) (T : u_T) (N : Nat) (fld : List (Nat × Nat)) (fpt : List (Nat × Nat × Bool)) (kon : List (Nat × Int32)) : Prop :=
  cl[ci]? = some (C, T, N) ∧ (∀ w ∈ u_ws C T N, w ∈ Ts) ∧ (∀ a, a < N → ∀ b, b < N → a ≠ b → (T a).2.1 ≠ (T b).2.1) ∧ (∃ ty0 : Nat → FieldType, ∀ k, k < N → parseFieldDescriptor (T k).2.2.1 = some (ty0 k)) ∧
  (∀ q ∈ fld, q.2 < N ∧ (Cond.fieldLink own q.1 (T q.2).1 (T q.2).2.1 (T q.2).2.2.1).before args s = true) ∧
  (∀ q ∈ fpt, q.2.1 < N ∧ (Cond.fieldLink own q.1 (T q.2.1).1 (T q.2.1).2.1 (T q.2.1).2.2.1).before args s = true ∧ (T q.2.1).2.2.2 = false ∧ parseFieldDescriptor (T q.2.1).2.2.1 = some (bif q.2.2 then .boolean else .int)) ∧
  (∀ q ∈ kon, (Jvm.Cond.constant own q.1 q.2).before args s = true)
theorem m_fit1 {v : Int32} (h : v = 0 ∨ v = 1) : narrow .boolean (.int v) = .int v ∧ fits .boolean (.int v) = true := by
  rcases h with rfl | rfl <;> decide +kernel
theorem m_sum (ad : Nat → Nat) (rest : List mV) : ((rest.map (m_v ad)).map fun v => v.category).sum = rest.length := by
  induction rest with
  | nil => rfl
  | cons v t ih =>
    simp only [List.map_cons, List.sum_cons, List.length_cons, m_cat]
    rw [ih]
    omega
set_option maxHeartbeats 4000000 in
theorem m_step {fld : List (Nat × Nat)} {fpt : List (Nat × Nat × Bool)} {kon : List (Nat × Int32)} {call : List (Nat × Bool × Nat × mT)} {rb : Nat} {Rr : Option Int32 → mH → Prop} {Ts : List Cond} {own C : String} {T : u_T} {N : Nat}
    (S0 : CallFix p m c cc nL s args Ts own) (hK : va_K D cl [(cA, .int)] s) (hA : ∀ q, H0.size ≤ q → A q) (hTb : m_Tb s args cl ci Ts own C T N fld fpt kon)
    (hcall : ∀ (x : Nat) (st : Bool) (na : Nat) (T : mT), m_lk call x = some (st, na, T) → m_OK D cl cA ci ad Ts l own R x st na T)
    (hR : ∀ (r : Option Int32) (h : mH) (pc : Nat) (ls : Array Slot) (H : Heap) (locs : List Loc), Rr r h → (∀ v, r = some v → (rb = 0 ∨ rb = 1 ∧ (v = 0 ∨ v = 1)) ∧ decode cc pc = .ok (.ireturn, 1)) → (r = none → rb = 2 ∧ decode cc pc = .ok (.return_, 1)) → va_P D cl (m_w ci cA ad h) H → va_D A (m_w ci cA ad h) → va_S A H0 H locs → W p l e R s m args below meth c H locs 0 0 Q (F0 m pc ls ((m_ps r []).map (m_v ad))))
    {pc nx tg : Nat} {cv : Int32} {hd : Bool} {i : Jvm.ClassFile.Instr} (hi : m_ok cc nL (pc, i, nx, tg, cv, hd) = true)
    {L : mL} {S : List mV} {h : mH} {K : Nat → mL → List mV → mH → Prop} (hs : m_st fld fpt kon call rb Rr i nx tg cv L S h K)
    (hk : ∀ pc' L' S' h', K pc' L' S' h' → m_W p l e R s m args below meth c nL Q D cl cA ci ad A H0 (pc', L', S', h')) : m_W p l e R s m args below meth c nL Q D cl cA ci ad A H0 (pc, L, S, h) := by
  obtain ⟨hx, hb, hml, hown, hts⟩ := id S0
  obtain ⟨hc, hin, hnm, ⟨ty0, hty⟩, hfl, hfp, hkn⟩ := hTb
  unfold m_ok at hi
  rw [Bool.and_eq_true, Bool.and_eq_true, decide_eq_true_eq, decide_eq_true_eq] at hi
  obtain ⟨hdg, hnx, hsd⟩ := hi
  dsimp only at hdg hnx hsd
  subst hnx
  intro hL H locs ls hP hD hS hl
  dsimp only at hL hP hD hl ⊢
  unfold m_st at hs
  split at hs
  · exact lv_iconst hx hb hdg (of_decide_eq_true hsd) (hk _ _ _ _ hs hL _ _ _ hP hD hS hl)
  · exact lv_bipush hx hb hdg (of_decide_eq_true hsd) (hk _ _ _ _ hs hL _ _ _ hP hD hS hl)
  · exact lv_sipush hx hb hdg (of_decide_eq_true hsd) (hk _ _ _ _ hs hL _ _ _ hP hD hS hl)
  · split at hs
    · rename_i x _ v hv
      exact lv_ldc hx hb hown (hkn _ (m_lk_mem hv)) hdg (hk _ _ _ _ hs hL _ _ _ hP hD hS hl)
    · exact hs.elim
  · split at hs
    · rename_i x _ v hv
      exact lv_ldcw hx hb hown (hkn _ (m_lk_mem hv)) hdg (hk _ _ _ _ hs hL _ _ _ hP hD hS hl)
    · exact hs.elim
  · split at hs
    · rename_i j _ x hv
      exact lv_iload_n hx hb hdg rfl (m_has hl hv) (hk _ _ _ _ hs hL _ _ _ hP hD hS hl)
    · exact hs.elim
  · split at hs
    · rename_i j _ x hv
      exact lv_iload hx hb hdg (m_has hl hv) (hk _ _ _ _ hs hL _ _ _ hP hD hS hl)
    · exact hs.elim
  · split at hs
    · rename_i j _ x hv
      exact lv_aload_n hx hb hdg rfl (m_has hl hv) (hk _ _ _ _ hs hL _ _ _ hP hD hS hl)
    · exact hs.elim
  · split at hs
    · rename_i j _ x hv
      exact lv_aload hx hb hdg (m_has hl hv) (hk _ _ _ _ hs hL _ _ _ hP hD hS hl)
    · exact hs.elim
  · split at hs
    · exact lv_istore_n hx hb hdg rfl hl (of_decide_eq_true hsd) rfl (fun ls' hl' => hk _ _ _ _ hs (by dsimp only; rw [List.length_set]; exact hL) _ _ _ hP hD hS (m_lvset rfl hl'))
    · exact hs.elim
  · split at hs
    · exact lv_istore hx hb hdg hl (of_decide_eq_true hsd) rfl (fun ls' hl' => hk _ _ _ _ hs (by dsimp only; rw [List.length_set]; exact hL) _ _ _ hP hD hS (m_lvset rfl hl'))
    · exact hs.elim
  · split at hs
    · rename_i j _ _ x hv
      have h1 := Bool.and_eq_true_iff.mp hsd
      obtain ⟨kk, hkk⟩ := List.getElem?_of_mem (m_lv_mem (ad := ad) (q := (j, .int x)) (i := 0) |>.mpr ⟨j, .inl x, (Nat.zero_add j).symm, hv, rfl⟩)
      exact lv_iinc hx hb hdg hl hkk (by rw [of_decide_eq_true h1.1]) (of_decide_eq_true h1.2) rfl (fun ls' hl' => hk _ _ _ _ hs (by dsimp only; rw [List.length_set]; exact hL) _ _ _ hP hD hS (m_lvset rfl hl'))
    · exact hs.elim
  · split at hs
    · exact lv_iadd hx hb hdg (hk _ _ _ _ hs hL _ _ _ hP hD hS hl)
    · exact hs.elim
  · split at hs
    · exact lv_isub hx hb hdg (hk _ _ _ _ hs hL _ _ _ hP hD hS hl)
    · exact hs.elim
  · split at hs
    · exact lv_imul hx hb hdg (hk _ _ _ _ hs hL _ _ _ hP hD hS hl)
    · exact hs.elim
  · split at hs
    · exact lv_iand hx hb hdg (hk _ _ _ _ hs hL _ _ _ hP hD hS hl)
    · exact hs.elim
  · split at hs
    · exact lv_ior hx hb hdg (hk _ _ _ _ hs hL _ _ _ hP hD hS hl)
    · exact hs.elim
  · split at hs
    · exact lv_ixor hx hb hdg (hk _ _ _ _ hs hL _ _ _ hP hD hS hl)
    · exact hs.elim
  · split at hs
    · exact lv_ishl hx hb hdg (hk _ _ _ _ hs hL _ _ _ hP hD hS hl)
    · exact hs.elim
  · split at hs
    · exact lv_ishr hx hb hdg (hk _ _ _ _ hs hL _ _ _ hP hD hS hl)
    · exact hs.elim
  · split at hs
    · exact lv_iushr hx hb hdg rfl (hk _ _ _ _ hs hL _ _ _ hP hD hS hl)
    · exact hs.elim
  · split at hs
    · exact lv_ineg hx hb hdg (hk _ _ _ _ hs hL _ _ _ hP hD hS hl)
    · exact hs.elim
  · split at hs
    · exact lv_idiv hx hb hdg hs.1 (hk _ _ _ _ hs.2 hL _ _ _ hP hD hS hl)
    · exact hs.elim
  · split at hs
    · exact lv_irem hx hb hdg hs.1 (hk _ _ _ _ hs.2 hL _ _ _ hP hD hS hl)
    · exact hs.elim
  · split at hs
    · exact lv_dup hx hb hdg (m_cat ad _) (hk _ _ _ _ hs hL _ _ _ hP hD hS hl)
    · exact hs.elim
  · split at hs
    · exact lv_dup2_11 hx hb hdg (m_cat ad _) (m_cat ad _) (hk _ _ _ _ hs hL _ _ _ hP hD hS hl)
    · exact hs.elim
  · split at hs
    · exact lv_dup_x1 hx hb hdg (m_cat ad _) (m_cat ad _) (hk _ _ _ _ hs hL _ _ _ hP hD hS hl)
    · exact hs.elim
  · split at hs
    · exact lv_dup_x2 hx hb hdg (m_cat ad _) (m_cat ad _) (m_cat ad _) (hk _ _ _ _ hs hL _ _ _ hP hD hS hl)
    · exact hs.elim
  · split at hs
    · exact lv_pop hx hb hdg (m_cat ad _) (hk _ _ _ _ hs hL _ _ _ hP hD hS hl)
    · exact hs.elim
  · exact lv_goto hx hb hdg (of_decide_eq_true hsd) (hk _ _ _ _ hs hL _ _ _ hP hD hS hl)
  · split at hs
    · exact lv_if_eq hx hb hdg (of_decide_eq_true hsd) (fun z => hk _ _ _ _ (hs.1 z) hL _ _ _ hP hD hS hl) (fun z => hk _ _ _ _ (hs.2 z) hL _ _ _ hP hD hS hl)
    · exact hs.elim
  · split at hs
    · exact lv_if_ne hx hb hdg (of_decide_eq_true hsd) (fun z => hk _ _ _ _ (hs.1 z) hL _ _ _ hP hD hS hl) (fun z => hk _ _ _ _ (hs.2 z) hL _ _ _ hP hD hS hl)
    · exact hs.elim
  · split at hs
    · exact lv_if_lt hx hb hdg (of_decide_eq_true hsd) (fun z => hk _ _ _ _ (hs.1 z) hL _ _ _ hP hD hS hl) (fun z => hk _ _ _ _ (hs.2 z) hL _ _ _ hP hD hS hl)
    · exact hs.elim
  · split at hs
    · exact lv_if_ge hx hb hdg (of_decide_eq_true hsd) (fun z => hk _ _ _ _ (hs.1 z) hL _ _ _ hP hD hS hl) (fun z => hk _ _ _ _ (hs.2 z) hL _ _ _ hP hD hS hl)
    · exact hs.elim
  · split at hs
    · exact lv_if_gt hx hb hdg (of_decide_eq_true hsd) (fun z => hk _ _ _ _ (hs.1 z) hL _ _ _ hP hD hS hl) (fun z => hk _ _ _ _ (hs.2 z) hL _ _ _ hP hD hS hl)
    · exact hs.elim
  · split at hs
    · exact lv_if_le hx hb hdg (of_decide_eq_true hsd) (fun z => hk _ _ _ _ (hs.1 z) hL _ _ _ hP hD hS hl) (fun z => hk _ _ _ _ (hs.2 z) hL _ _ _ hP hD hS hl)
    · exact hs.elim
  · split at hs
    · exact lv_icmp_eq hx hb hdg (of_decide_eq_true hsd) (fun z => hk _ _ _ _ (hs.1 z) hL _ _ _ hP hD hS hl) (fun z => hk _ _ _ _ (hs.2 z) hL _ _ _ hP hD hS hl)
    · exact hs.elim
  · split at hs
    · exact lv_icmp_ne hx hb hdg (of_decide_eq_true hsd) (fun z => hk _ _ _ _ (hs.1 z) hL _ _ _ hP hD hS hl) (fun z => hk _ _ _ _ (hs.2 z) hL _ _ _ hP hD hS hl)
    · exact hs.elim
  · split at hs
    · exact lv_icmp_lt hx hb hdg (of_decide_eq_true hsd) (fun z => hk _ _ _ _ (hs.1 z) hL _ _ _ hP hD hS hl) (fun z => hk _ _ _ _ (hs.2 z) hL _ _ _ hP hD hS hl)
    · exact hs.elim
  · split at hs
    · exact lv_icmp_ge hx hb hdg (of_decide_eq_true hsd) (fun z => hk _ _ _ _ (hs.1 z) hL _ _ _ hP hD hS hl) (fun z => hk _ _ _ _ (hs.2 z) hL _ _ _ hP hD hS hl)
    · exact hs.elim
  · split at hs
    · exact lv_icmp_gt hx hb hdg (of_decide_eq_true hsd) (fun z => hk _ _ _ _ (hs.1 z) hL _ _ _ hP hD hS hl) (fun z => hk _ _ _ _ (hs.2 z) hL _ _ _ hP hD hS hl)
    · exact hs.elim
  · split at hs
    · exact lv_icmp_le hx hb hdg (of_decide_eq_true hsd) (fun z => hk _ _ _ _ (hs.1 z) hL _ _ _ hP hD hS hl) (fun z => hk _ _ _ _ (hs.2 z) hL _ _ _ hP hD hS hl)
    · exact hs.elim
  · split at hs
    · rename_i x _ j S'
      split at hs
      · rename_i fs hfs
        split at hs
        · rename_i k hfk
          split at hs
          · rename_i v hv
            obtain ⟨hkN, hlink⟩ := hfl _ (m_lk_mem hfk)
            exact va_get hx hb hts hin hown hK hP j (m_w_get hfs) hc k hkN hlink (fun _ z => z) (by rw [List.getElem?_map, ← m_at_eq, hv]; rfl) hdg (hk _ _ _ _ hs hL _ _ _ hP hD hS hl)
          · exact hs.elim
        · exact hs.elim
      · exact hs.elim
    · exact hs.elim
  · split at hs
    · rename_i x _ v j S'
      split at hs
      · rename_i fs hfs
        split at hs
        · rename_i k b hfk
          split at hs
          · rename_i v0 hv
            obtain ⟨hkN, hlink, hfin, hpd⟩ := hfp _ (m_lk_mem hfk)
            have hlt : k < (fs.map (m_v ad)).length := by
              rw [m_at_eq] at hv
              rw [List.length_map]
              exact (List.getElem?_eq_some_iff.mp hv).1
            have hset : (m_w ci cA ad h).set j (ad j, .inr (ci, (fs.map (m_v ad)).set k (m_v ad (.inl v)))) = m_w ci cA ad (h.set j (.inl (fs.set k (.inl v)))) := by
              rw [← m_w_set]
              simp [m_e, m_v, List.map_set]
            cases b with
            | true =>
              obtain ⟨hz, hs⟩ := hs
              refine va_put hx hb hts hin ty0 hty hnm hown hK hP hD hS j (m_w_get hfs) hc k hkN hlink (fun _ z => z) hfin hpd (m_fit1 hz).1 (m_fit1 hz).2 hlt hdg (fun H1 locs1 hP1 hD1 hS1 => ?_)
              rw [hset] at hP1 hD1
              exact hk _ _ _ _ hs hL _ _ _ hP1 hD1 hS1 hl
            | false =>
              refine va_put hx hb hts hin ty0 hty hnm hown hK hP hD hS j (m_w_get hfs) hc k hkN hlink (fun _ z => z) hfin hpd (vp_nar_int v) rfl hlt hdg (fun H1 locs1 hP1 hD1 hS1 => ?_)
              rw [hset] at hP1 hD1
              exact hk _ _ _ _ hs hL _ _ _ hP1 hD1 hS1 hl
          · exact hs.elim
        · exact hs.elim
      · exact hs.elim
    · exact hs.elim
  · split at hs
    · rename_i x j S'
      split at hs
      · rename_i n f hfs
        exact va_iald hx hb hK hP j 0 (m_w_get hfs) rfl hs.1 hdg (hk _ _ _ _ hs.2 hL _ _ _ hP hD hS hl)
      · exact hs.elim
    · exact hs.elim
  · split at hs
    · rename_i x i j S'
      split at hs
      · rename_i n f hfs
        have hset : (m_w ci cA ad h).set j (ad j, .inl (cA, n, .inl (upd f i.toNatClampNeg x))) = m_w ci cA ad (h.set j (.inr (n, upd f i.toNatClampNeg x))) := by
          rw [← m_w_set]
          rfl
        refine va_iast hx hb hK hP hD hS j 0 (m_w_get hfs) rfl hs.1 hdg (fun H1 locs1 hP1 hD1 hS1 => ?_)
        rw [hset] at hP1 hD1
        exact hk _ _ _ _ hs.2 hL _ _ _ hP1 hD1 hS1 hl
      · exact hs.elim
    · exact hs.elim
  · split at hs
    · rename_i x _ na T' hcl
      split at hs
      · rename_i as rest hpop
        cases hlen : Nat.ble rest.length 8 with
        | false => rw [hlen] at hs; exact hs.elim
        | true =>
          rw [hlen] at hs
          obtain ⟨e1, e2⟩ := m_pop_eq hpop
          have e1 : S = as.reverse ++ rest := e1
          subst e1
          exact hcall _ _ _ _ hcl p e s m args below meth c cc nL Q A H0 S0 hK hA pc ls rest as h _ H locs hs e2 hdg hl.1 (Nat.le_of_ble_eq_true hlen) hP hD hS (fun r h' H1 locs1 z hP1 hD1 hS1 => hk _ _ _ _ z hL _ _ _ hP1 hD1 hS1 hl)
      · exact hs.elim
    · exact hs.elim
  · split at hs
    · rename_i x _ na T' hcl
      split at hs
      · rename_i as rest hpop
        cases hlen : Nat.ble rest.length 8 with
        | false => rw [hlen] at hs; exact hs.elim
        | true =>
          rw [hlen] at hs
          obtain ⟨e1, e2⟩ := m_pop_eq hpop
          have e1 : S = as.reverse ++ rest := e1
          subst e1
          exact hcall _ _ _ _ hcl p e s m args below meth c cc nL Q A H0 S0 hK hA pc ls rest as h _ H locs hs e2 hdg hl.1 (Nat.le_of_ble_eq_true hlen) hP hD hS (fun r h' H1 locs1 z hP1 hD1 hS1 => hk _ _ _ _ z hL _ _ _ hP1 hD1 hS1 hl)
      · exact hs.elim
    · exact hs.elim
  · split at hs
    · split at hs
      · exact hR (some _) h pc ls H locs hs (fun v e => ⟨Or.inl rfl, hdg⟩) (fun e => by cases e) hP hD hS
      · exact hR (some _) h pc ls H locs hs.2 (fun v e => ⟨Or.inr ⟨rfl, by cases e; exact hs.1⟩, hdg⟩) (fun e => by cases e) hP hD hS
      · exact hs.elim
    · exact hs.elim
  · split at hs
    · split at hs
      · exact hR none h pc ls H locs hs (fun v e => by cases e) (fun _ => ⟨rfl, hdg⟩) hP hD hS
      · exact hs.elim
    · exact hs.elim
  · exact hs.elim
theorem m_walk {code : List (Nat × mE)} {fld : List (Nat × Nat)} {fpt : List (Nat × Nat × Bool)} {kon : List (Nat × Int32)} {call : List (Nat × Bool × Nat × mT)} {rb : Nat} {Rr : Option Int32 → mH → Prop} {Ts : List Cond} {own C : String} {T : u_T} {N : Nat}
    (S0 : CallFix p m c cc nL s args Ts own) (hK : va_K D cl [(cA, .int)] s) (hA : ∀ q, H0.size ≤ q → A q) (hTb : m_Tb s args cl ci Ts own C T N fld fpt kon)
    (hcall : ∀ (x : Nat) (st : Bool) (na : Nat) (T : mT), m_lk call x = some (st, na, T) → m_OK D cl cA ci ad Ts l own R x st na T)
    (hR : ∀ (r : Option Int32) (h : mH) (pc : Nat) (ls : Array Slot) (H : Heap) (locs : List Loc), Rr r h → (∀ v, r = some v → (rb = 0 ∨ rb = 1 ∧ (v = 0 ∨ v = 1)) ∧ decode cc pc = .ok (.ireturn, 1)) → (r = none → rb = 2 ∧ decode cc pc = .ok (.return_, 1)) → va_P D cl (m_w ci cA ad h) H → va_D A (m_w ci cA ad h) → va_S A H0 H locs → W p l e R s m args below meth c H locs 0 0 Q (F0 m pc ls ((m_ps r []).map (m_v ad))))
    (hcode : code.all (m_ok cc nL) = true) : m_cl code fld fpt kon call rb Rr (m_W p l e R s m args below meth c nL Q D cl cA ci ad A H0) := by
  have key : ∀ (n : Nat) (st : Bool) (pc : Nat) (L : mL) (S : List mV) (h : mH), m_wp code fld fpt kon call rb (m_W p l e R s m args below meth c nL Q D cl cA ci ad A H0) Rr n st pc L S h → m_W p l e R s m args below meth c nL Q D cl cA ci ad A H0 (pc, L, S, h) := by
    intro n
    induction n with
    | zero => intro st pc L S h hs; exact hs
    | succ n ih =>
      intro st pc L S h hs
      unfold m_wp at hs
      split at hs
      · exact hs.elim
      · rename_i i nx tg cv hd hlk
        cases hb : (st && hd) with
        | true => rw [hb] at hs; exact hs
        | false =>
          rw [hb] at hs
          exact m_step S0 hK hA hTb hcall hR (List.all_eq_true.mp hcode _ (m_lk_mem hlk)) hs (fun pc' L' S' h' z => ih true pc' L' S' h' z)
  intro n pc L S h hs
  exact key n false pc L S h hs
end MS
end
section
/-! a method's contract out of the small machine, and a call out of a contract -/
def m_rm (d : Nat) : Room := { frames := d, cells := 0, slots := 0, locals := 32 * d }
def m_B (D : va_G) (cl : List vw_C) (cA : ClassId) (ci : Nat) (ad : Nat → Nat) (A : Nat → Prop) (u : mH) (t : State) : Prop := va_P D cl (m_w ci cA ad u) t.heap ∧ va_K D cl [(cA, .int)] t ∧ va_D A (m_w ci cA ad u)
def m_Q (D : va_G) (cl : List vw_C) (cA : ClassId) (ci : Nat) (ad : Nat → Nat) (rb : Nat) (k : Option Int32 → mH → Prop) (A : Nat → Prop) : Array Value → State → Outcome → State → Prop := match rb with
  | 2 => va_Qv (fun u : mH => k none u) (m_B D cl cA ci ad A) A
  | _ => va_Qi (fun (r : Int32) (u : mH) => k (some r) u) (m_B D cl cA ci ad A) A
def m_Pc (D : va_G) (cl : List vw_C) (cA : ClassId) (ci : Nat) (ad : Nat → Nat) (sz : Nat) (as : List mV) (h : mH) : Array Value → State → Prop :=
  va_Pc (as.map (m_v ad)) (fun U => U.heap.size = sz ∧ va_P D cl (m_w ci cA ad h) U.heap ∧ va_K D cl [(cA, .int)] U ∧ va_D (fun _ => True) (m_w ci cA ad h))
def m_Con (cl : List vw_C) (ci : Nat) (Ts : List Cond) (y : MethodName) (bytes : ByteArray) (maxL : Nat) (ret : Option FieldType) (rb d : Nat) (T : mT) : Prop :=
  ∀ (l : Launch) (D : va_G) (cA : ClassId) (ad : Nat → Nat) (sz : Nat) (as : List mV) (h : mH) (k : Option Int32 → mH → Prop), T as h k → Met l y (Cond.code y bytes maxL ret :: Ts) (m_rm d) (m_Pc D cl cA ci ad sz as h) (m_Q D cl cA ci ad rb k (va_A (m_w ci cA ad h) sz)) 0 0 (va_A (m_w ci cA ad h) sz)
def m_en : Nat → List mV → mL
  | 0, _ => []
  | n + 1, [] => none :: m_en n []
  | n + 1, v :: t => some v :: m_en n t
theorem m_en_len (n : Nat) (as : List mV) : (m_en n as).length = n := by
  induction n generalizing as with
  | zero => rfl
  | succ n ih => cases as with
    | nil => simp [m_en, ih]
    | cons v t => simp [m_en, ih]
theorem m_en_nil (ad : Nat → Nat) (n : Nat) : ∀ i, m_lv ad i (m_en n []) = [] := by
  induction n with
  | zero => intro i; rfl
  | succ n ih => intro i; simp [m_en, m_lv, ih]
theorem m_en_sub (ad : Nat → Nat) (n : Nat) (as : List mV) : ∀ i, ∀ q ∈ m_lv ad i (m_en n as), q ∈ lv_args i (as.map (m_v ad)) := by
  induction n generalizing as with
  | zero => intro i q hq; cases hq
  | succ n ih => cases as with
    | nil => intro i q hq; rw [m_en_nil] at hq; cases hq
    | cons v t =>
      intro i q hq
      simp only [m_en, m_lv, List.mem_cons] at hq
      simp only [List.map_cons, lv_args, m_cat, List.mem_cons]
      rcases hq with rfl | hq
      · exact Or.inl rfl
      · exact Or.inr (ih t (i + 1) q hq)
theorem m_sl_len (ad : Nat → Nat) (as : List mV) : (lg_sl (as.map (m_v ad))).length = as.length := by
  induction as with
  | nil => rfl
  | cons v t ih =>
    have e : lg_sl ((v :: t).map (m_v ad)) = Slot.val (m_v ad v) :: lg_sl (t.map (m_v ad)) := by
      simp [lg_sl, m_cat]
    rw [e, List.length_cons, List.length_cons, ih]
theorem m_blind (D : va_G) (cl : List vw_C) (cA : ClassId) (ci : Nat) (ad : Nat → Nat) (sz : Nat) (as : List mV) (h : mH) : FrameBlind (m_Pc D cl cA ci ad sz as h) := by
  intro a U g mk q
  obtain ⟨q0, q1, qP, qK, qD⟩ := q
  exact ⟨q0, q1, qP, va_K.moved (u := U) (U := U.calling g mk a) (Vm.Alike.refl U.vm) qK, qD⟩
set_option maxHeartbeats 4000000 in
theorem m_con {cl : List vw_C} {ci : Nat} {Ts : List Cond} {y : MethodName} {bytes : ByteArray} {maxL : Nat} {ret : Option FieldType} {rb d : Nat} {Tm : mT} {code : List (Nat × mE)} {fld : List (Nat × Nat)} {fpt : List (Nat × Nat × Bool)} {kon : List (Nat × Int32)} {call : List (Nat × Bool × Nat × mT)} {C : String} {T : u_T} {N : Nat}
    (hpl : plainName y.cls = true) (hret : (rb = 0 ∧ ret = some .int) ∨ (rb = 1 ∧ ret = some .boolean) ∨ (rb = 2 ∧ ret = none)) (hcode : code.all (m_ok bytes maxL) = true)
    (hTb : ∀ (s : State) (args : Array Value), (∀ w ∈ Ts, w.before args s = true) → m_Tb s args cl ci Ts y.cls C T N fld fpt kon)
    (hcall : ∀ (l : Launch) (D : va_G) (cA : ClassId) (ad : Nat → Nat) (x : Nat) (st : Bool) (na : Nat) (T : mT), m_lk call x = some (st, na, T) → m_OK D cl cA ci ad Ts l y.cls (m_rm d) x st na T)
    (hlen : ∀ as h k, Tm as h k → as.length ≤ maxL)
    (body : ∀ as h k, Tm as h k → ∀ V, m_cl code fld fpt kon call rb k V → V (0, m_en maxL as, [], h)) : m_Con cl ci Ts y bytes maxL ret rb d Tm := by
  intro l D cA ad sz as h k hT
  refine Met.ofW (cc := bytes) (maxL := maxL) (ret := ret) hpl rfl ?_
  intro p e s m args below meth c s₁ B hml hv
  obtain ⟨rfl, hsz, hP, hK, hD0⟩ := hv
  have hx := B.exec
  have hb := B.bytes
  have hr := B.returns
  have hts0 := atoms_spec (ws := Cond.code y bytes maxL ret :: Ts) B.pre
  have hts : ∀ w ∈ Ts, w.before (as.map (m_v ad)).toArray s = true := fun w hw => hts0 w (List.mem_cons_of_mem _ hw)
  have hown : s.vm.findClass y.cls = some m.cls := findClass_of_methodNamed B.named
  have hlocks := B.notSynchronized
  subst hsz
  have hD := hD0.self (sz := s.heap.size)
  generalize hAe : va_A (m_w ci cA ad h) s.heap.size = A at hD ⊢
  have hA : ∀ q : Nat, s.heap.size ≤ q → A q := fun q h => by rw [← hAe]; exact Or.inr h
  have hS : va_S A s.heap s.heap [] := va_S.rf
  have hl := lv_entry (as.map (m_v ad)) (n := maxL) (by rw [m_sl_len]; exact hlen as h k hT)
  rw [lg_entry_eq]
  generalize (lg_sl (as.map (m_v ad)) ++ List.replicate (maxL - (lg_sl (as.map (m_v ad))).length) Slot.unset).toArray = ls at hl ⊢
  have hl2 : lv_has ls maxL (m_lv ad 0 (m_en maxL as)) := m_lvsub hl (m_en_sub ad maxL as 0)
  refine body as h k hT _ (m_walk (A := A) (H0 := s.heap) ⟨hx, hb, hml, hown, hts⟩ hK hA (hTb s _ hts) (hcall l D cA ad) ?_ hcode) (m_en_len maxL as) s.heap [] ls hP hD hS hl2
  intro r h' pc ls H locs hk h1 h2 hP1 hD1 hS1
  cases r with
  | some v =>
    obtain ⟨hz, hdg⟩ := h1 v rfl
    rcases hret with ⟨e1, e2⟩ | ⟨e1, e2⟩ | ⟨e1, e2⟩
    · subst e1; subst e2
      exact W.zret hx hb hr (vp_nar_int v) (fun t ht hW => ⟨⟨v, h', rfl, hk, by rw [ht]; exact hP1, va_K.moved hW.alike hK, hD1⟩, hS1.F ht⟩) hS1.2.2 hdg
    · subst e1; subst e2
      have hv : v = 0 ∨ v = 1 := by
        rcases hz with hz | hz
        · cases hz
        · exact hz.2
      exact W.zret hx hb hr (m_fit1 hv).1 (fun t ht hW => ⟨⟨v, h', rfl, hk, by rw [ht]; exact hP1, va_K.moved hW.alike hK, hD1⟩, hS1.F ht⟩) hS1.2.2 hdg
    · subst e1
      rcases hz with hz | hz
      · cases hz
      · cases hz.1
  | none =>
    obtain ⟨e0, hdg⟩ := h2 rfl
    rcases hret with ⟨e1, e2⟩ | ⟨e1, e2⟩ | ⟨e1, e2⟩
    · subst e1; cases e0
    · subst e1; cases e0
    · subst e1; subst e2
      exact W.vret hx hb hr (fun t ht hW => ⟨⟨h', rfl, hk, by rw [ht]; exact hP1, va_K.moved hW.alike hK, hD1⟩, hS1.F ht⟩) hS1.2.2 hdg
section MO
variable {cl : List vw_C} {ci : Nat} {Ts : List Cond} {y : MethodName} {bytes : ByteArray} {maxL : Nat} {ret : Option FieldType} {rb d : Nat} {T : mT} {D : va_G} {cA : ClassId} {ad : Nat → Nat} {l : Launch} {own : String} {R : Room} {idx na : Nat}
/-- behind a call, either way -/
theorem m_back {p : Program} {e : Env} {s : State} {m : MethodId} {args : Array Value} {below : List Frame} {meth : Method} {c : Code} {Q : State → Prop} {A : Nat → Prop} {H0 H : Heap} {locs : List Loc} {pc : Nat} {ls : Array Slot} {rest : List mV} {h : mH} {k : Option Int32 → mH → Prop} {st0 : List Value} {a : Array Value} (hrb : rb = 0 ∨ rb = 1 ∨ rb = 2)
    (hr : va_Run p l e R s m args below meth c H locs 0 0 0 0 (F0 m pc ls st0) (rest.map (m_v ad)) (m_Q D cl cA ci ad rb k (va_A (m_w ci cA ad h) H.size) a) (va_A (m_w ci cA ad h) H.size)) (hA : ∀ q, H0.size ≤ q → A q) (hD : va_D A (m_w ci cA ad h)) (hS : va_S A H0 H locs)
    (kk : ∀ (r : Option Int32) (h' : mH) (H1 : Heap) (locs1 : List Loc), k r h' → va_P D cl (m_w ci cA ad h') H1 → va_D A (m_w ci cA ad h') → va_S A H0 H1 locs1 → W p l e R s m args below meth c H1 locs1 0 0 Q (F0 m (pc + 3) ls ((m_ps r rest).map (m_v ad)))) :
    W p l e R s m args below meth c H locs 0 0 Q (F0 m pc ls st0) := by
  have hF : ∀ q, va_A (m_w ci cA ad h) H.size q → A q := by
    rintro q (⟨k2, e2, h2⟩ | h2)
    · exact hD.2 k2 (q, e2) h2
    · exact hA q (Nat.le_trans hS.1 h2)
  rcases hrb with rfl | rfl | rfl
  · exact va_calli (a := a) (A1 := va_A (m_w ci cA ad h) H.size) (post := fun (r : Int32) (u : mH) => k (some r) u) (B := m_B D cl cA ci ad (va_A (m_w ci cA ad h) H.size)) hr hS (fun q _ h => hF q h) hF (fun r u t H1 locs1 ht hvm hpost hB hsz hk hS1 => kk (some r) u H1 locs1 hpost (by rw [← ht]; exact hB.1) (hB.2.2.weaken (fun _ q _ hq => hF q.1 hq)) hS1)
  · exact va_calli (a := a) (A1 := va_A (m_w ci cA ad h) H.size) (post := fun (r : Int32) (u : mH) => k (some r) u) (B := m_B D cl cA ci ad (va_A (m_w ci cA ad h) H.size)) hr hS (fun q _ h => hF q h) hF (fun r u t H1 locs1 ht hvm hpost hB hsz hk hS1 => kk (some r) u H1 locs1 hpost (by rw [← ht]; exact hB.1) (hB.2.2.weaken (fun _ q _ hq => hF q.1 hq)) hS1)
  · exact va_callv (a := a) (A1 := va_A (m_w ci cA ad h) H.size) (post := fun (u : mH) => k none u) (B := m_B D cl cA ci ad (va_A (m_w ci cA ad h) H.size)) hr hS (fun q _ h => hF q h) hF (fun u t H1 locs1 ht hvm hpost hB hsz hk hS1 => kk none u H1 locs1 hpost (by rw [← ht]; exact hB.1) (hB.2.2.weaken (fun _ q _ hq => hF q.1 hq)) hS1)
theorem m_okV {C : String} {Tu : u_T} {N : Nat} (hcl : cl[ci]? = some (C, Tu, N)) (hC : m_Con cl ci Ts y bytes maxL ret rb d T) (hrb : rb = 0 ∨ rb = 1 ∨ rb = 2) (hgood : ∀ w ∈ Ts, ((w.onTables && w.keeps) = true ∨ ∃ ty, w = .arrayClass ty))
    (hws : ∀ w ∈ ([.methodLink own idx y, .instanceMethod y, .selects C y y, .initialized C, Cond.code y bytes maxL ret] : List Cond), w ∈ Ts) (hyc : y.cls = C ∧ y.cls ≠ "java/lang/invoke/MethodHandle" ∧ y.cls ≠ "java/lang/invoke/VarHandle" ∧ (parseMethodDescriptor y.desc).map (fun d => d.parameters.length) = some na) (hmx : maxL ≤ 13)
    (hR : d + 1 ≤ R.frames ∧ 32 * (d + 1) ≤ R.locals) (hrecv : ∀ as h k, T as h k → ∃ j as' fs, as = .inr j :: as' ∧ m_at h j = some (.inl fs)) : m_OK D cl cA ci ad Ts l own R idx false (na + 1) T := by
  intro p e s m args below meth c cc nL Q A H0 S0 hK hA pc ls rest as h k H locs hT has hdg hsz hrest hP hD hS kk
  obtain ⟨j, as', fs, rfl, hj⟩ := hrecv _ _ _ hT
  obtain ⟨hx, hb, hml, hown, hts⟩ := id S0
  have hG : GoodIn Ts (wsV own idx C y (Cond.code y bytes maxL ret :: Ts)) := by
    intro w hw
    have hin : w ∈ Ts := by
      unfold wsV at hw
      rcases List.mem_append.mp hw with h1 | h1
      · exact hws w (by simp only [List.mem_cons, List.not_mem_nil, or_false] at h1 ⊢; rcases h1 with h1 | h1 | h1 | h1 <;> simp [h1])
      · rcases List.mem_cons.mp h1 with h1 | h1
        · exact hws w (by simp [h1])
        · exact h1
    exact ⟨hin, hgood w hin⟩
  have hr := va_runV (As := as'.map (m_v ad)) (rest := rest.map (m_v ad)) (b := ad j) (C := C) (R := R) (e := e) (below := below) (meth := meth) (H := H) (locs := locs) (cells := 0) (slots := 0) (g := F0 m pc ls (((Sum.inr j :: as').reverse ++ rest).map (m_v ad))) S0 (hC l D cA ad H.size _ h k hT) (cwV na hts hG rfl rfl rfl hyc ⟨hR.1, by show 8 + (maxL + 11) + 32 * d ≤ R.locals; omega⟩)
    ⟨m_blind D cl cA ci ad H.size _ h, va_recv hK hP hcl (m_w_get hj), fun U hU hW => ⟨rfl, by rw [hU], by rw [hU]; exact hP, va_K.moved hW.alike hK, hD.weaken (fun _ _ _ _ => trivial)⟩⟩ rfl (by rw [List.length_map]; simpa using has) hsz (by simp [m_v]) (lv_room (by rw [m_sum]; exact hrest)) hdg ⟨Nat.zero_le _, Nat.zero_le _⟩
  exact m_back hrb hr hA hD hS kk
theorem m_okS (hC : m_Con cl ci Ts y bytes maxL ret rb d T) (hrb : rb = 0 ∨ rb = 1 ∨ rb = 2) (hgood : ∀ w ∈ Ts, ((w.onTables && w.keeps) = true ∨ ∃ ty, w = .arrayClass ty))
    (hws : ∀ w ∈ ([.methodLink own idx y, .static y, .initialized y.cls, Cond.code y bytes maxL ret] : List Cond), w ∈ Ts) (hyc : y.cls ≠ "java/lang/invoke/MethodHandle" ∧ y.cls ≠ "java/lang/invoke/VarHandle" ∧ (parseMethodDescriptor y.desc).map (fun d => d.parameters.length) = some na) (hmx : maxL ≤ 13)
    (hR : d + 1 ≤ R.frames ∧ 32 * (d + 1) ≤ R.locals) : m_OK D cl cA ci ad Ts l own R idx true na T := by
  intro p e s m args below meth c cc nL Q A H0 S0 hK hA pc ls rest as h k H locs hT has hdg hsz hrest hP hD hS kk
  obtain ⟨hx, hb, hml, hown, hts⟩ := id S0
  have hG : GoodIn Ts (va_wsS own idx y (Cond.code y bytes maxL ret :: Ts)) := by
    intro w hw
    have hin : w ∈ Ts := by
      unfold va_wsS at hw
      rcases List.mem_append.mp hw with h1 | h1
      · exact hws w (by simp only [List.mem_cons, List.not_mem_nil, or_false] at h1 ⊢; rcases h1 with h1 | h1 | h1 <;> simp [h1])
      · rcases List.mem_cons.mp h1 with h1 | h1
        · exact hws w (by simp [h1])
        · exact h1
    exact ⟨hin, hgood w hin⟩
  have hr := va_runS (As := as.map (m_v ad)) (rest := rest.map (m_v ad)) (R := R) (e := e) (below := below) (meth := meth) (H := H) (locs := locs) (cells := 0) (slots := 0) (g := F0 m pc ls ((as.reverse ++ rest).map (m_v ad))) S0 (hC l D cA ad H.size _ h k hT) (va_cwS na hts hG rfl rfl rfl hyc ⟨hR.1, by show 8 + (maxL + 11) + 32 * d ≤ R.locals; omega⟩)
    ⟨m_blind D cl cA ci ad H.size _ h, fun U hU hW => ⟨rfl, by rw [hU], by rw [hU]; exact hP, va_K.moved hW.alike hK, hD.weaken (fun _ _ _ _ => trivial)⟩⟩ rfl (by rw [List.length_map]; exact has) hsz (by simp) (lv_room (by rw [m_sum]; exact hrest)) hdg ⟨Nat.zero_le _, Nat.zero_le _⟩
  exact m_back hrb hr hA hD hS kk
end MO
end
