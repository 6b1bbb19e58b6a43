section
/-! a small machine over the kit's rows: ints, one made object with its int arrays; calls by contract. 'm_wp' is its weakest precondition, evaluated by unfolding alone; 'm_con' makes a method's contract out of it. -/
abbrev mV : Type := Int32 ⊕ Nat
abbrev mC : Type := List mV ⊕ (Nat × (Nat → Int32))
abbrev mH : Type := List mC
abbrev mL : Type := List (Option mV)
abbrev mG : Type := Nat × mL × List mV × mH
abbrev mT : Type := List mV → mH → (Option Int32 → mH → Prop) → Prop
/-- an instruction: itself, the next pc, its target, its constant, whether a loop begins there -/
abbrev mE : Type := Jvm.ClassFile.Instr × Nat × Nat × Int32 × Bool
def m_lk {α : Type} : List (Nat × α) → Nat → Option α
  | [], _ => none
  | q :: t, i => bif Nat.beq q.1 i then some q.2 else m_lk t i
def m_gl : mL → Nat → Option mV
  | [], _ => none
  | x :: _, 0 => x
  | _ :: t, i + 1 => m_gl t i
def m_at {α : Type} : List α → Nat → Option α
  | [], _ => none
  | x :: _, 0 => some x
  | _ :: t, i + 1 => m_at t i
def m_pop : Nat → List mV → List mV → Option (List mV × List mV)
  | 0, acc, S => some (acc, S)
  | _ + 1, _, [] => none
  | k + 1, acc, v :: S => m_pop k (v :: acc) S
def m_ps (r : Option Int32) (S : List mV) : List mV := match r with
  | some x => .inl x :: S
  | none => S
def m_st (fld : List (Nat × Nat)) (fpt : List (Nat × Nat × Bool)) (kon : List (Nat × Int32)) (call : List (Nat × Bool × Nat × mT)) (rb : Nat) (R : Option Int32 → mH → Prop) (i : Jvm.ClassFile.Instr) (nx tg : Nat) (cv : Int32) (L : mL) (S : List mV) (h : mH) (K : Nat → mL → List mV → mH → Prop) : Prop :=
  match i with
  | .iconst _ => K nx L (.inl cv :: S) h
  | .bipush _ => K nx L (.inl cv :: S) h
  | .sipush _ => K nx L (.inl cv :: S) h
  | .ldc x => match m_lk kon x with
    | some v => K nx L (.inl v :: S) h
    | none => False
  | .ldc_w x => match m_lk kon x with
    | some v => K nx L (.inl v :: S) h
    | none => False
  | .iload_n j => match m_gl L j.val with
    | some (.inl x) => K nx L (.inl x :: S) h
    | _ => False
  | .iload j => match m_gl L j with
    | some (.inl x) => K nx L (.inl x :: S) h
    | _ => False
  | .aload_n j => match m_gl L j.val with
    | some (.inr x) => K nx L (.inr x :: S) h
    | _ => False
  | .aload j => match m_gl L j with
    | some (.inr x) => K nx L (.inr x :: S) h
    | _ => False
  | .istore_n j => match S with
    | .inl x :: S => K nx (L.set j.val (some (.inl x))) S h
    | _ => False
  | .istore j => match S with
    | .inl x :: S => K nx (L.set j (some (.inl x))) S h
    | _ => False
  | .iinc j _ => match m_gl L j with
    | some (.inl x) => K nx (L.set j (some (.inl (x + cv)))) S h
    | _ => False
  | .iadd => match S with
    | .inl y :: .inl x :: S => K nx L (.inl (x + y) :: S) h
    | _ => False
  | .isub => match S with
    | .inl y :: .inl x :: S => K nx L (.inl (x - y) :: S) h
    | _ => False
  | .imul => match S with
    | .inl y :: .inl x :: S => K nx L (.inl (x * y) :: S) h
    | _ => False
  | .iand => match S with
    | .inl y :: .inl x :: S => K nx L (.inl (x &&& y) :: S) h
    | _ => False
  | .ior => match S with
    | .inl y :: .inl x :: S => K nx L (.inl (x ||| y) :: S) h
    | _ => False
  | .ixor => match S with
    | .inl y :: .inl x :: S => K nx L (.inl (x ^^^ y) :: S) h
    | _ => False
  | .ishl => match S with
    | .inl y :: .inl x :: S => K nx L (.inl (x <<< (y &&& 31)) :: S) h
    | _ => False
  | .ishr => match S with
    | .inl y :: .inl x :: S => K nx L (.inl (x >>> (y &&& 31)) :: S) h
    | _ => False
  | .iushr => match S with
    | .inl y :: .inl x :: S => K nx L (.inl (x.toUInt32 >>> (y.toUInt32 &&& Int32.toUInt32 31)).toInt32 :: S) h
    | _ => False
  | .ineg => match S with
    | .inl x :: S => K nx L (.inl (-x) :: S) h
    | _ => False
  | .idiv => match S with
    | .inl y :: .inl x :: S => ¬ y = 0 ∧ K nx L (.inl (x / y) :: S) h
    | _ => False
  | .irem => match S with
    | .inl y :: .inl x :: S => ¬ y = 0 ∧ K nx L (.inl (x - x / y * y) :: S) h
    | _ => False
  | .dup => match S with
    | v :: S => K nx L (v :: v :: S) h
    | _ => False
  | .dup2 => match S with
    | v :: w :: S => K nx L (v :: w :: v :: w :: S) h
    | _ => False
  | .dup_x1 => match S with
    | v :: w :: S => K nx L (v :: w :: v :: S) h
    | _ => False
  | .dup_x2 => match S with
    | v :: w :: z :: S => K nx L (v :: w :: z :: v :: S) h
    | _ => False
  | .pop => match S with
    | _ :: S => K nx L S h
    | _ => False
  | .goto _ => K tg L S h
  | .ifCond .eq _ => match S with
    | .inl x :: S => (x = 0 → K tg L S h) ∧ (¬ x = 0 → K nx L S h)
    | _ => False
  | .ifCond .ne _ => match S with
    | .inl x :: S => (¬ x = 0 → K tg L S h) ∧ (x = 0 → K nx L S h)
    | _ => False
  | .ifCond .lt _ => match S with
    | .inl x :: S => (x < 0 → K tg L S h) ∧ (¬ x < 0 → K nx L S h)
    | _ => False
  | .ifCond .ge _ => match S with
    | .inl x :: S => (0 ≤ x → K tg L S h) ∧ (¬ 0 ≤ x → K nx L S h)
    | _ => False
  | .ifCond .gt _ => match S with
    | .inl x :: S => (0 < x → K tg L S h) ∧ (¬ 0 < x → K nx L S h)
    | _ => False
  | .ifCond .le _ => match S with
    | .inl x :: S => (x ≤ 0 → K tg L S h) ∧ (¬ x ≤ 0 → K nx L S h)
    | _ => False
  | .if_icmp .eq _ => match S with
    | .inl y :: .inl x :: S => (x = y → K tg L S h) ∧ (¬ x = y → K nx L S h)
    | _ => False
  | .if_icmp .ne _ => match S with
    | .inl y :: .inl x :: S => (¬ x = y → K tg L S h) ∧ (x = y → K nx L S h)
    | _ => False
  | .if_icmp .lt _ => match S with
    | .inl y :: .inl x :: S => (x < y → K tg L S h) ∧ (¬ x < y → K nx L S h)
    | _ => False
  | .if_icmp .ge _ => match S with
    | .inl y :: .inl x :: S => (y ≤ x → K tg L S h) ∧ (¬ y ≤ x → K nx L S h)
    | _ => False
  | .if_icmp .gt _ => match S with
    | .inl y :: .inl x :: S => (y < x → K tg L S h) ∧ (¬ y < x → K nx L S h)
    | _ => False
  | .if_icmp .le _ => match S with
    | .inl y :: .inl x :: S => (x ≤ y → K tg L S h) ∧ (¬ x ≤ y → K nx L S h)
    | _ => False
  | .getfield x => match S with
    | .inr j :: S => match m_at h j with
      | some (.inl fs) => match m_lk fld x with
        | some k => match m_at fs k with
          | some v => K nx L (v :: S) h
          | none => False
        | none => False
      | _ => False
    | _ => False
  | .putfield x => match S with
    | .inl v :: .inr j :: S => match m_at h j with
      | some (.inl fs) => match m_lk fpt x with
        | some (k, b) => match m_at fs k with
          | some _ => bif b then ((v = 0 ∨ v = 1) ∧ K nx L S (h.set j (.inl (fs.set k (.inl v))))) else K nx L S (h.set j (.inl (fs.set k (.inl v))))
          | none => False
        | none => False
      | _ => False
    | _ => False
  | .iaload => match S with
    | .inl i :: .inr j :: S => match m_at h j with
      | some (.inr (n, f)) => vp_in i n ∧ K nx L (.inl (f i.toNatClampNeg) :: S) h
      | _ => False
    | _ => False
  | .iastore => match S with
    | .inl x :: .inl i :: .inr j :: S => match m_at h j with
      | some (.inr (n, f)) => vp_in i n ∧ K nx L S (h.set j (.inr (n, upd f i.toNatClampNeg x)))
      | _ => False
    | _ => False
  | .invokestatic x => match m_lk call x with
    | some (true, na, T) => match m_pop na [] S with
      | some (as, rest) => bif Nat.ble rest.length 8 then T as h (fun r h' => K nx L (m_ps r rest) h') else False
      | none => False
    | _ => False
  | .invokevirtual x => match m_lk call x with
    | some (false, na, T) => match m_pop na [] S with
      | some (as, rest) => bif Nat.ble rest.length 8 then T as h (fun r h' => K nx L (m_ps r rest) h') else False
      | none => False
    | _ => False
  | .ireturn => match S with
    | [.inl v] => match rb with
      | 0 => R (some v) h
      | 1 => (v = 0 ∨ v = 1) ∧ R (some v) h
      | _ => False
    | _ => False
  | .return_ => match S with
    | [] => match rb with
      | 2 => R none h
      | _ => False
    | _ => False
  | _ => False
def m_wp (code : List (Nat × mE)) (fld : List (Nat × Nat)) (fpt : List (Nat × Nat × Bool)) (kon : List (Nat × Int32)) (call : List (Nat × Bool × Nat × mT)) (rb : Nat) (V : mG → Prop) (R : Option Int32 → mH → Prop) : Nat → Bool → Nat → mL → List mV → mH → Prop
  | 0, _, pc, L, S, h => V (pc, L, S, h)
  | n + 1, st, pc, L, S, h => match m_lk code pc with
    | none => False
    | some (i, nx, tg, cv, hd) => bif st && hd then V (pc, L, S, h) else m_st fld fpt kon call rb R i nx tg cv L S h (fun pc' L' S' h' => m_wp code fld fpt kon call rb V R n true pc' L' S' h')
/-- what a method's walk has to show: for every V that is closed under the walk, V at the entry -/
def m_cl (code : List (Nat × mE)) (fld : List (Nat × Nat)) (fpt : List (Nat × Nat × Bool)) (kon : List (Nat × Int32)) (call : List (Nat × Bool × Nat × mT)) (rb : Nat) (R : Option Int32 → mH → Prop) (V : mG → Prop) : Prop :=
  ∀ (n pc : Nat) (L : mL) (S : List mV) (h : mH), m_wp code fld fpt kon call rb V R n false pc L S h → V (pc, L, S, h)
def m_len : Jvm.ClassFile.Instr → Nat
  | .bipush _ => 2
  | .sipush _ => 3
  | .ldc _ => 2
  | .ldc_w _ => 3
  | .iload _ => 2
  | .aload _ => 2
  | .istore _ => 2
  | .iinc _ _ => 3
  | .goto _ => 3
  | .ifCond _ _ => 3
  | .if_icmp _ _ => 3
  | .getfield _ => 3
  | .putfield _ => 3
  | .invokestatic _ => 3
  | .invokevirtual _ => 3
  | _ => 1
def m_side (nL pc : Nat) (i : Jvm.ClassFile.Instr) (tg : Nat) (cv : Int32) : Bool := match i with
  | .iconst v => decide (Int32.ofInt v = cv)
  | .bipush v => decide ((Int8.ofInt v).toInt32 = cv)
  | .sipush v => decide ((Int16.ofInt v).toInt32 = cv)
  | .istore_n j => decide (j.val < nL)
  | .istore j => decide (j < nL)
  | .iinc j v => decide (Int32.ofInt v = cv) && decide (j < nL)
  | .goto o => decide ((pc : Int) + o = (tg : Int))
  | .ifCond _ o => decide ((pc : Int) + o = (tg : Int))
  | .if_icmp _ o => decide ((pc : Int) + o = (tg : Int))
  | _ => true
def m_ok (cc : ByteArray) (nL : Nat) (q : Nat × mE) : Bool := decide (decode cc q.1 = .ok (q.2.1, m_len q.2.1)) && (decide (q.2.2.1 = q.1 + m_len q.2.1) && m_side nL q.1 q.2.1 q.2.2.2.1 q.2.2.2.2.1)
theorem m_lk_mem {α : Type} {l : List (Nat × α)} {i : Nat} {a : α} (h : m_lk l i = some a) : (i, a) ∈ l := by
  induction l with
  | nil => cases h
  | cons q t ih =>
    obtain ⟨j, b⟩ := q
    unfold m_lk at h
    cases e : Nat.beq j i with
    | true =>
      rw [e] at h
      have hji : j = i := Nat.eq_of_beq_eq_true e
      subst hji
      cases h
      exact List.mem_cons_self
    | false =>
      rw [e] at h
      exact List.mem_cons_of_mem _ (ih h)
theorem m_at_eq {α : Type} (l : List α) (i : Nat) : m_at l i = l[i]? := by
  induction l generalizing i with
  | nil => rfl
  | cons x t ih => cases i with
    | zero => rfl
    | succ i => exact ih i
theorem m_pop_eq {k : Nat} {acc S as rest : List mV} (h : m_pop k acc S = some (as, rest)) : acc.reverse ++ S = as.reverse ++ rest ∧ as.length = k + acc.length := by
  induction k generalizing acc S with
  | zero => cases h; exact ⟨rfl, (Nat.zero_add _).symm⟩
  | succ k ih => cases S with
    | nil => cases h
    | cons v S =>
      obtain ⟨h1, h2⟩ := ih (acc := v :: acc) h
      refine ⟨?_, ?_⟩
      · rw [← h1]; simp
      · rw [h2]; simp; omega
-- the cells and the locals as the kit has them
def m_v (ad : Nat → Nat) : mV → Value
  | .inl x => .int x
  | .inr j => .ref (ad j)
def m_e (ci : Nat) (cA : ClassId) (ad : Nat → Nat) : mC → va_E
  | .inl fs => .inr (ci, fs.map (m_v ad))
  | .inr a => .inl (cA, a.1, .inl a.2)
def m_w (ci : Nat) (cA : ClassId) (ad : Nat → Nat) (h : mH) : va_W := h.mapIdx (fun j q => (ad j, m_e ci cA ad q))
theorem m_w_get {ci : Nat} {cA : ClassId} {ad : Nat → Nat} {h : mH} {j : Nat} {q : mC} (e : m_at h j = some q) : (m_w ci cA ad h)[j]? = some (ad j, m_e ci cA ad q) := by
  rw [m_at_eq] at e
  simp [m_w, e]
theorem m_w_set {ci : Nat} {cA : ClassId} {ad : Nat → Nat} {h : mH} {j : Nat} {q : mC} : (m_w ci cA ad h).set j (ad j, m_e ci cA ad q) = m_w ci cA ad (h.set j q) := by
  simp [m_w]
theorem m_cat (ad : Nat → Nat) (v : mV) : (m_v ad v).category = 1 := by cases v <;> rfl
def m_lv (ad : Nat → Nat) : Nat → mL → List (Nat × Value)
  | _, [] => []
  | i, none :: t => m_lv ad (i + 1) t
  | i, some v :: t => (i, m_v ad v) :: m_lv ad (i + 1) t
theorem m_lv_mem {ad : Nat → Nat} {q : Nat × Value} {L : mL} : ∀ {i : Nat}, q ∈ m_lv ad i L ↔ ∃ (k : Nat) (v : mV), q.1 = i + k ∧ m_gl L k = some v ∧ q.2 = m_v ad v := by
  induction L with
  | nil => intro i; simp [m_lv, m_gl]
  | cons x t ih =>
    intro i
    cases x with
    | none =>
      simp only [m_lv]
      rw [ih]
      constructor
      · rintro ⟨k, v, h1, h2, h3⟩
        exact ⟨k + 1, v, by omega, h2, h3⟩
      · rintro ⟨k, v, h1, h2, h3⟩
        cases k with
        | zero => cases h2
        | succ k => exact ⟨k, v, by omega, h2, h3⟩
    | some w =>
      simp only [m_lv, List.mem_cons]
      rw [ih]
      constructor
      · rintro (rfl | ⟨k, v, h1, h2, h3⟩)
        · exact ⟨0, w, rfl, rfl, rfl⟩
        · exact ⟨k + 1, v, by omega, h2, h3⟩
      · rintro ⟨k, v, h1, h2, h3⟩
        cases k with
        | zero =>
          left
          have : w = v := Option.some.inj h2
          subst this
          exact Prod.ext h1 h3
        | succ k => right; exact ⟨k, v, by omega, h2, h3⟩
theorem m_gl_set {L : mL} {i j : Nat} {w : mV} : m_gl (L.set i (some w)) j = if j = i ∧ i < L.length then some w else m_gl L j := by
  induction L generalizing i j with
  | nil => simp [m_gl]
  | cons x t ih =>
    cases i with
    | zero => cases j with
      | zero => simp [m_gl]
      | succ j => simp [m_gl]
    | succ i => cases j with
      | zero => simp [m_gl]
      | succ j =>
        simp only [List.set_cons_succ, m_gl, ih, List.length_cons]
        by_cases hc : j = i ∧ i < t.length
        · rw [if_pos hc, if_pos ⟨by omega, by omega⟩]
        · rw [if_neg hc, if_neg (by omega)]
theorem m_gl_lt {L : mL} {k : Nat} {v : mV} (h : m_gl L k = some v) : k < L.length := by
  induction L generalizing k with
  | nil => cases h
  | cons x t ih => cases k with
    | zero => simp
    | succ k =>
      have := ih h
      simp
      omega
theorem m_has {ad : Nat → Nat} {ls : Array Slot} {nL : Nat} {L : mL} (h : lv_has ls nL (m_lv ad 0 L)) {i : Nat} {v : mV} (e : m_gl L i = some v) : ls[i]? = some (.val (m_v ad v)) :=
  h.2.2 (i, m_v ad v) (m_lv_mem.mpr ⟨i, v, (Nat.zero_add i).symm, e, rfl⟩)
theorem m_lvsub {ls : Array Slot} {nL : Nat} {l l' : List (Nat × Value)} (h : lv_has ls nL l) (hs : ∀ q ∈ l', q ∈ l) : lv_has ls nL l' := ⟨h.1, h.2.1, fun q hq => h.2.2 q (hs q hq)⟩
theorem m_lvset {ad : Nat → Nat} {ls : Array Slot} {nL i : Nat} {L : mL} {w : mV} {u : Value} (hu : u = m_v ad w) (h : lv_has ls nL ((i, u) :: (m_lv ad 0 L).filter (fun q => !(q.1 == i) && !(q.1 + 1 == i && q.2.category == 2)))) : lv_has ls nL (m_lv ad 0 (L.set i (some w))) := by
  refine m_lvsub h (fun q hq => ?_)
  obtain ⟨k, v, h1, h2, h3⟩ := m_lv_mem.mp hq
  rw [m_gl_set] at h2
  have hk : q.1 = k := by omega
  by_cases hc : k = i ∧ i < L.length
  · rw [if_pos hc] at h2
    have : w = v := Option.some.inj h2
    subst this
    rw [List.mem_cons]
    left
    exact Prod.ext (by rw [hk, hc.1]) (by rw [h3, hu])
  · rw [if_neg hc] at h2
    by_cases hki : k = i
    · have hlt : i < L.length := by rw [← hki]; exact m_gl_lt h2
      exact absurd ⟨hki, hlt⟩ hc
    · rw [List.mem_cons]
      right
      rw [List.mem_filter]
      refine ⟨m_lv_mem.mpr ⟨k, v, h1, h2, h3⟩, ?_⟩
      have h4 : q.2.category = 1 := by rw [h3]; exact m_cat ad v
      simp [hk, hki, h4]
end
section
/-! the small machine is the machine: one step, then a walk, then a method's contract -/
section MS
variable {p : Program} {l : Launch} {e : Env} {R : Room} {s : State} {m : MethodId} {args : Array Value} {below : List Frame} {meth : Method} {c : Code} {cc : ByteArray} {nL : Nat} {Q : State → Prop}
variable {D : va_G} {cl : List vw_C} {cA : ClassId} {ci : Nat} {ad : Nat → Nat} {A : Nat → Prop} {H0 : Heap}
/-- the machine at a point of the small machine -/
def m_W (p : Program) (l : Launch) (e : Env) (R : Room) (s : State) (m : MethodId) (args : Array Value) (below : List Frame) (meth : Method) (c : Code) (nL : Nat) (Q : State → Prop) (D : va_G) (cl : List vw_C) (cA : ClassId) (ci : Nat) (ad : Nat → Nat) (A : Nat → Prop) (H0 : Heap) (g : mG) : Prop :=
  g.2.1.length = nL → ∀ (H : Heap) (locs : List Loc) (ls : Array Slot), va_P D cl (m_w ci cA ad g.2.2.2) H → va_D A (m_w ci cA ad g.2.2.2) → va_S A H0 H locs → lv_has ls nL (m_lv ad 0 g.2.1) → W p l e R s m args below meth c H locs 0 0 Q (F0 m g.1 ls (g.2.2.1.map (m_v ad)))
/-- a call at pool number idx does what T says -/
def m_OK (D : va_G) (cl : List vw_C) (cA : ClassId) (ci : Nat) (ad : Nat → Nat) (Ts : List Cond) (l : Launch) (own : String) (R : Room) (idx : Nat) (st : Bool) (na : Nat) (T : mT) : Prop :=
  ∀ (p : Program) (e : Env) (s : State) (m : MethodId) (args : Array Value) (below : List Frame) (meth : Method) (c : Code) (cc : ByteArray) (nL : Nat) (Q : State → Prop) (A : Nat → Prop) (H0 : Heap), CallFix p m c cc nL s args Ts own → va_K D cl [(cA, .int)] s → (∀ q, H0.size ≤ q → A q) →
  ∀ (pc : Nat) (ls : Array Slot) (rest as : List mV) (h : mH) (k : Option Int32 → mH → Prop) (H : Heap) (locs : List Loc), T as h k → as.length = na → decode cc pc = .ok (bif st then .invokestatic idx else .invokevirtual idx, 3) → ls.size = nL → rest.length ≤ 8 → va_P D cl (m_w ci cA ad h) H → va_D A (m_w ci cA ad h) → va_S A H0 H locs →
  (∀ (r : Option Int32) (h' : mH) (H1 : Heap) (locs1 : List Loc), k r h' → va_P D cl (m_w ci cA ad h') H1 → va_D A (m_w ci cA ad h') → va_S A H0 H1 locs1 → W p l e R s m args below meth c H1 locs1 0 0 Q (F0 m (pc + 3) ls ((m_ps r rest).map (m_v ad)))) →
  W p l e R s m args below meth c H locs 0 0 Q (F0 m pc ls ((as.reverse ++ rest).map (m_v ad)))
/-- what holds of the method's own tables -/
def m_Tb (s : State) (args : Array Value) (cl : List vw_C) (ci : Nat) (Ts : List Cond) (own C : String) (T : u_T) (N : Nat) (fld : List (Nat × Nat)) (fpt : List (Nat × Nat × Bool)) (kon : List (Nat × Int32)) : Prop :=
  cl[ci]? = some (C, T, N) ∧ (∀ w ∈ u_ws C T N, w ∈ Ts) ∧ (∀ a, a < N → ∀ b, b < N → a ≠ b → (T a).2.1 ≠ (T b).2.1) ∧ (∃ ty0 : Nat → FieldType, ∀ k, k < N → parseFieldDescriptor (T k).2.2.1 = some (ty0 k)) ∧
  (∀ q ∈ fld, q.2 < N ∧ (Cond.fieldLink own q.1 (T q.2).1 (T q.2).2.1 (T q.2).2.2.1).before args s = true) ∧
  (∀ q ∈ fpt, q.2.1 < N ∧ (Cond.fieldLink own q.1 (T q.2.1).1 (T q.2.1).2.1 (T q.2.1).2.2.1).before args s = true ∧ (T q.2.1).2.2.2 = false ∧ parseFieldDescriptor (T q.2.1).2.2.1 = some (bif q.2.2 then .boolean else .int)) ∧
  (∀ q ∈ kon, (Jvm.Cond.constant own q.1 q.2).before args s = true)
theorem m_fit1 {v : Int32} (h : v = 0 ∨ v = 1) : narrow .boolean (.int v) = .int v ∧ fits .boolean (.int v) = true := by
  rcases h with rfl | rfl <;> decide +kernel
theorem m_sum (ad : Nat → Nat) (rest : List mV) : ((rest.map (m_v ad)).map fun v => v.category).sum = rest.length := by
  induction rest with
  | nil => rfl
  | cons v t ih =>
    simp only [List.map_cons, List.sum_cons, List.length_cons, m_cat]
    rw [ih]
    omega
set_option maxHeartbeats 4000000 in
theorem m_step {fld : List (Nat × Nat)} {fpt : List (Nat × Nat × Bool)} {kon : List (Nat × Int32)} {call : List (Nat × Bool × Nat × mT)} {rb : Nat} {Rr : Option Int32 → mH → Prop} {Ts : List Cond} {own C : String} {T : u_T} {N : Nat}
    (S0 : CallFix p m c cc nL s args Ts own) (hK : va_K D cl [(cA, .int)] s) (hA : ∀ q, H0.size ≤ q → A q) (hTb : m_Tb s args cl ci Ts own C T N fld fpt kon)
    (hcall : ∀ (x : Nat) (st : Bool) (na : Nat) (T : mT), m_lk call x = some (st, na, T) → m_OK D cl cA ci ad Ts l own R x st na T)
    (hR : ∀ (r : Option Int32) (h : mH) (pc : Nat) (ls : Array Slot) (H : Heap) (locs : List Loc), Rr r h → (∀ v, r = some v → (rb = 0 ∨ rb = 1 ∧ (v = 0 ∨ v = 1)) ∧ decode cc pc = .ok (.ireturn, 1)) → (r = none → rb = 2 ∧ decode cc pc = .ok (.return_, 1)) → va_P D cl (m_w ci cA ad h) H → va_D A (m_w ci cA ad h) → va_S A H0 H locs → W p l e R s m args below meth c H locs 0 0 Q (F0 m pc ls ((m_ps r []).map (m_v ad))))
    {pc nx tg : Nat} {cv : Int32} {hd : Bool} {i : Jvm.ClassFile.Instr} (hi : m_ok cc nL (pc, i, nx, tg, cv, hd) = true)
    {L : mL} {S : List mV} {h : mH} {K : Nat → mL → List mV → mH → Prop} (hs : m_st fld fpt kon call rb Rr i nx tg cv L S h K)
    (hk : ∀ pc' L' S' h', K pc' L' S' h' → m_W p l e R s m args below meth c nL Q D cl cA ci ad A H0 (pc', L', S', h')) : m_W p l e R s m args below meth c nL Q D cl cA ci ad A H0 (pc, L, S, h) := by
  obtain ⟨hx, hb, hml, hown, hts⟩ := id S0
  obtain ⟨hc, hin, hnm, ⟨ty0, hty⟩, hfl, hfp, hkn⟩ := hTb
  unfold m_ok at hi
  rw [Bool.and_eq_true, Bool.and_eq_true, decide_eq_true_eq, decide_eq_true_eq] at hi
  obtain ⟨hdg, hnx, hsd⟩ := hi
  dsimp only at hdg hnx hsd
  subst hnx
  intro hL H locs ls hP hD hS hl
  dsimp only at hL hP hD hl ⊢
  unfold m_st at hs
  split at hs
  · exact lv_iconst hx hb hdg (of_decide_eq_true hsd) (hk _ _ _ _ hs hL _ _ _ hP hD hS hl)
  · exact lv_bipush hx hb hdg (of_decide_eq_true hsd) (hk _ _ _ _ hs hL _ _ _ hP hD hS hl)
  · exact lv_sipush hx hb hdg (of_decide_eq_true hsd) (hk _ _ _ _ hs hL _ _ _ hP hD hS hl)
  · split at hs
    · rename_i x _ v hv
      exact lv_ldc hx hb hown (hkn _ (m_lk_mem hv)) hdg (hk _ _ _ _ hs hL _ _ _ hP hD hS hl)
    · exact hs.elim
  · split at hs
    · rename_i x _ v hv
      exact lv_ldcw hx hb hown (hkn _ (m_lk_mem hv)) hdg (hk _ _ _ _ hs hL _ _ _ hP hD hS hl)
    · exact hs.elim
  · split at hs
    · rename_i j _ x hv
      exact lv_iload_n hx hb hdg rfl (m_has hl hv) (hk _ _ _ _ hs hL _ _ _ hP hD hS hl)
    · exact hs.elim
  · split at hs
    · rename_i j _ x hv
      exact lv_iload hx hb hdg (m_has hl hv) (hk _ _ _ _ hs hL _ _ _ hP hD hS hl)
    · exact hs.elim
  · split at hs
    · rename_i j _ x hv
      exact lv_aload_n hx hb hdg rfl (m_has hl hv) (hk _ _ _ _ hs hL _ _ _ hP hD hS hl)
    · exact hs.elim
  · split at hs
    · rename_i j _ x hv
      exact lv_aload hx hb hdg (m_has hl hv) (hk _ _ _ _ hs hL _ _ _ hP hD hS hl)
    · exact hs.elim
  · split at hs
    · exact lv_istore_n hx hb hdg rfl hl (of_decide_eq_true hsd) rfl (fun ls' hl' => hk _ _ _ _ hs (by dsimp only; rw [List.length_set]; exact hL) _ _ _ hP hD hS (m_lvset rfl hl'))
    · exact hs.elim
  · split at hs
    · exact lv_istore hx hb hdg hl (of_decide_eq_true hsd) rfl (fun ls' hl' => hk _ _ _ _ hs (by dsimp only; rw [List.length_set]; exact hL) _ _ _ hP hD hS (m_lvset rfl hl'))
    · exact hs.elim
  · split at hs
    · rename_i j _ _ x hv
      have h1 := Bool.and_eq_true_iff.mp hsd
      obtain ⟨kk, hkk⟩ := List.getElem?_of_mem (m_lv_mem (ad := ad) (q := (j, .int x)) (i := 0) |>.mpr ⟨j, .inl x, (Nat.zero_add j).symm, hv, rfl⟩)
      exact lv_iinc hx hb hdg hl hkk (by rw [of_decide_eq_true h1.1]) (of_decide_eq_true h1.2) rfl (fun ls' hl' => hk _ _ _ _ hs (by dsimp only; rw [List.length_set]; exact hL) _ _ _ hP hD hS (m_lvset rfl hl'))
    · exact hs.elim
  · split at hs
    · exact lv_iadd hx hb hdg (hk _ _ _ _ hs hL _ _ _ hP hD hS hl)
    · exact hs.elim
  · split at hs
    · exact lv_isub hx hb hdg (hk _ _ _ _ hs hL _ _ _ hP hD hS hl)
    · exact hs.elim
  · split at hs
    · exact lv_imul hx hb hdg (hk _ _ _ _ hs hL _ _ _ hP hD hS hl)
    · exact hs.elim
  · split at hs
    · exact lv_iand hx hb hdg (hk _ _ _ _ hs hL _ _ _ hP hD hS hl)
    · exact hs.elim
  · split at hs
    · exact lv_ior hx hb hdg (hk _ _ _ _ hs hL _ _ _ hP hD hS hl)
    · exact hs.elim
  · split at hs
    · exact lv_ixor hx hb hdg (hk _ _ _ _ hs hL _ _ _ hP hD hS hl)
    · exact hs.elim
  · split at hs
    · exact lv_ishl hx hb hdg (hk _ _ _ _ hs hL _ _ _ hP hD hS hl)
    · exact hs.elim
  · split at hs
    · exact lv_ishr hx hb hdg (hk _ _ _ _ hs hL _ _ _ hP hD hS hl)
    · exact hs.elim
  · split at hs
    · exact lv_iushr hx hb hdg rfl (hk _ _ _ _ hs hL _ _ _ hP hD hS hl)
    · exact hs.elim
  · split at hs
    · exact lv_ineg hx hb hdg (hk _ _ _ _ hs hL _ _ _ hP hD hS hl)
    · exact hs.elim
  · split at hs
    · exact lv_idiv hx hb hdg hs.1 (hk _ _ _ _ hs.2 hL _ _ _ hP hD hS hl)
    · exact hs.elim
  · split at hs
    · exact lv_irem hx hb hdg hs.1 (hk _ _ _ _ hs.2 hL _ _ _ hP hD hS hl)
    · exact hs.elim
  · split at hs
    · exact lv_dup hx hb hdg (m_cat ad _) (hk _ _ _ _ hs hL _ _ _ hP hD hS hl)
    · exact hs.elim
  · split at hs
    · exact lv_dup2_11 hx hb hdg (m_cat ad _) (m_cat ad _) (hk _ _ _ _ hs hL _ _ _ hP hD hS hl)
    · exact hs.elim
  · split at hs
    · exact lv_dup_x1 hx hb hdg (m_cat ad _) (m_cat ad _) (hk _ _ _ _ hs hL _ _ _ hP hD hS hl)
    · exact hs.elim
  · split at hs
    · exact lv_dup_x2 hx hb hdg (m_cat ad _) (m_cat ad _) (m_cat ad _) (hk _ _ _ _ hs hL _ _ _ hP hD hS hl)
    · exact hs.elim
  · split at hs
    · exact lv_pop hx hb hdg (m_cat ad _) (hk _ _ _ _ hs hL _ _ _ hP hD hS hl)
    · exact hs.elim
  · exact lv_goto hx hb hdg (of_decide_eq_true hsd) (hk _ _ _ _ hs hL _ _ _ hP hD hS hl)
  · split at hs
    · exact lv_if_eq hx hb hdg (of_decide_eq_true hsd) (fun z => hk _ _ _ _ (hs.1 z) hL _ _ _ hP hD hS hl) (fun z => hk _ _ _ _ (hs.2 z) hL _ _ _ hP hD hS hl)
    · exact hs.elim
  · split at hs
    · exact lv_if_ne hx hb hdg (of_decide_eq_true hsd) (fun z => hk _ _ _ _ (hs.1 z) hL _ _ _ hP hD hS hl) (fun z => hk _ _ _ _ (hs.2 z) hL _ _ _ hP hD hS hl)
    · exact hs.elim
  · split at hs
    · exact lv_if_lt hx hb hdg (of_decide_eq_true hsd) (fun z => hk _ _ _ _ (hs.1 z) hL _ _ _ hP hD hS hl) (fun z => hk _ _ _ _ (hs.2 z) hL _ _ _ hP hD hS hl)
    · exact hs.elim
  · split at hs
    · exact lv_if_ge hx hb hdg (of_decide_eq_true hsd) (fun z => hk _ _ _ _ (hs.1 z) hL _ _ _ hP hD hS hl) (fun z => hk _ _ _ _ (hs.2 z) hL _ _ _ hP hD hS hl)
    · exact hs.elim
  · split at hs
    · exact lv_if_gt hx hb hdg (of_decide_eq_true hsd) (fun z => hk _ _ _ _ (hs.1 z) hL _ _ _ hP hD hS hl) (fun z => hk _ _ _ _ (hs.2 z) hL _ _ _ hP hD hS hl)
    · exact hs.elim
  · split at hs
    · exact lv_if_le hx hb hdg (of_decide_eq_true hsd) (fun z => hk _ _ _ _ (hs.1 z) hL _ _ _ hP hD hS hl) (fun z => hk _ _ _ _ (hs.2 z) hL _ _ _ hP hD hS hl)
    · exact hs.elim
  · split at hs
    · exact lv_icmp_eq hx hb hdg (of_decide_eq_true hsd) (fun z => hk _ _ _ _ (hs.1 z) hL _ _ _ hP hD hS hl) (fun z => hk _ _ _ _ (hs.2 z) hL _ _ _ hP hD hS hl)
    · exact hs.elim
  · split at hs
    · exact lv_icmp_ne hx hb hdg (of_decide_eq_true hsd) (fun z => hk _ _ _ _ (hs.1 z) hL _ _ _ hP hD hS hl) (fun z => hk _ _ _ _ (hs.2 z) hL _ _ _ hP hD hS hl)
    · exact hs.elim
  · split at hs
    · exact lv_icmp_lt hx hb hdg (of_decide_eq_true hsd) (fun z => hk _ _ _ _ (hs.1 z) hL _ _ _ hP hD hS hl) (fun z => hk _ _ _ _ (hs.2 z) hL _ _ _ hP hD hS hl)
    · exact hs.elim
  · split at hs
    · exact lv_icmp_ge hx hb hdg (of_decide_eq_true hsd) (fun z => hk _ _ _ _ (hs.1 z) hL _ _ _ hP hD hS hl) (fun z => hk _ _ _ _ (hs.2 z) hL _ _ _ hP hD hS hl)
    · exact hs.elim
  · split at hs
    · exact lv_icmp_gt hx hb hdg (of_decide_eq_true hsd) (fun z => hk _ _ _ _ (hs.1 z) hL _ _ _ hP hD hS hl) (fun z => hk _ _ _ _ (hs.2 z) hL _ _ _ hP hD hS hl)
    · exact hs.elim
  · split at hs
    · exact lv_icmp_le hx hb hdg (of_decide_eq_true hsd) (fun z => hk _ _ _ _ (hs.1 z) hL _ _ _ hP hD hS hl) (fun z => hk _ _ _ _ (hs.2 z) hL _ _ _ hP hD hS hl)
    · exact hs.elim
  · split at hs
    · rename_i x _ j S'
      split at hs
      · rename_i fs hfs
        split at hs
        · rename_i k hfk
          split at hs
          · rename_i v hv
            obtain ⟨hkN, hlink⟩ := hfl _ (m_lk_mem hfk)
            exact va_get hx hb hts hin hown hK hP j (m_w_get hfs) hc k hkN hlink (fun _ z => z) (by rw [List.getElem?_map, ← m_at_eq, hv]; rfl) hdg (hk _ _ _ _ hs hL _ _ _ hP hD hS hl)
          · exact hs.elim
        · exact hs.elim
      · exact hs.elim
    · exact hs.elim
  · split at hs
    · rename_i x _ v j S'
      split at hs
      · rename_i fs hfs
        split at hs
        · rename_i k b hfk
          split at hs
          · rename_i v0 hv
            obtain ⟨hkN, hlink, hfin, hpd⟩ := hfp _ (m_lk_mem hfk)
            have hlt : k < (fs.map (m_v ad)).length := by
              rw [m_at_eq] at hv
              rw [List.length_map]
              exact (List.getElem?_eq_some_iff.mp hv).1
            have hset : (m_w ci cA ad h).set j (ad j, .inr (ci, (fs.map (m_v ad)).set k (m_v ad (.inl v)))) = m_w ci cA ad (h.set j (.inl (fs.set k (.inl v)))) := by
              rw [← m_w_set]
              simp [m_e, m_v, List.map_set]
            cases b with
            | true =>
              obtain ⟨hz, hs⟩ := hs
              refine va_put hx hb hts hin ty0 hty hnm hown hK hP hD hS j (m_w_get hfs) hc k hkN hlink (fun _ z => z) hfin hpd (m_fit1 hz).1 (m_fit1 hz).2 hlt hdg (fun H1 locs1 hP1 hD1 hS1 => ?_)
              rw [hset] at hP1 hD1
              exact hk _ _ _ _ hs hL _ _ _ hP1 hD1 hS1 hl
            | false =>
              refine va_put hx hb hts hin ty0 hty hnm hown hK hP hD hS j (m_w_get hfs) hc k hkN hlink (fun _ z => z) hfin hpd (vp_nar_int v) rfl hlt hdg (fun H1 locs1 hP1 hD1 hS1 => ?_)
              rw [hset] at hP1 hD1
              exact hk _ _ _ _ hs hL _ _ _ hP1 hD1 hS1 hl
          · exact hs.elim
        · exact hs.elim
      · exact hs.elim
    · exact hs.elim
  · split at hs
    · rename_i x j S'
      split at hs
      · rename_i n f hfs
        exact va_iald hx hb hK hP j 0 (m_w_get hfs) rfl hs.1 hdg (hk _ _ _ _ hs.2 hL _ _ _ hP hD hS hl)
      · exact hs.elim
    · exact hs.elim
  · split at hs
    · rename_i x i j S'
      split at hs
      · rename_i n f hfs
        have hset : (m_w ci cA ad h).set j (ad j, .inl (cA, n, .inl (upd f i.toNatClampNeg x))) = m_w ci cA ad (h.set j (.inr (n, upd f i.toNatClampNeg x))) := by
          rw [← m_w_set]
          rfl
        refine va_iast hx hb hK hP hD hS j 0 (m_w_get hfs) rfl hs.1 hdg (fun H1 locs1 hP1 hD1 hS1 => ?_)
        rw [hset] at hP1 hD1
        exact hk _ _ _ _ hs.2 hL _ _ _ hP1 hD1 hS1 hl
      · exact hs.elim
    · exact hs.elim
  · split at hs
    · rename_i x _ na T' hcl
      split at hs
      · rename_i as rest hpop
        cases hlen : Nat.ble rest.length 8 with
        | false => rw [hlen] at hs; exact hs.elim
        | true =>
          rw [hlen] at hs
          obtain ⟨e1, e2⟩ := m_pop_eq hpop
          have e1 : S = as.reverse ++ rest := e1
          subst e1
          exact hcall _ _ _ _ hcl p e s m args below meth c cc nL Q A H0 S0 hK hA pc ls rest as h _ H locs hs e2 hdg hl.1 (Nat.le_of_ble_eq_true hlen) hP hD hS (fun r h' H1 locs1 z hP1 hD1 hS1 => hk _ _ _ _ z hL _ _ _ hP1 hD1 hS1 hl)
      · exact hs.elim
    · exact hs.elim
  · split at hs
    · rename_i x _ na T' hcl
      split at hs
      · rename_i as rest hpop
        cases hlen : Nat.ble rest.length 8 with
        | false => rw [hlen] at hs; exact hs.elim
        | true =>
          rw [hlen] at hs
          obtain ⟨e1, e2⟩ := m_pop_eq hpop
          have e1 : S = as.reverse ++ rest := e1
          subst e1
          exact hcall _ _ _ _ hcl p e s m args below meth c cc nL Q A H0 S0 hK hA pc ls rest as h _ H locs hs e2 hdg hl.1 (Nat.le_of_ble_eq_true hlen) hP hD hS (fun r h' H1 locs1 z hP1 hD1 hS1 => hk _ _ _ _ z hL _ _ _ hP1 hD1 hS1 hl)
      · exact hs.elim
    · exact hs.elim
  · split at hs
    · split at hs
      · exact hR (some _) h pc ls H locs hs (fun v e => ⟨Or.inl rfl, hdg⟩) (fun e => by cases e) hP hD hS
      · exact hR (some _) h pc ls H locs hs.2 (fun v e => ⟨Or.inr ⟨rfl, by cases e; exact hs.1⟩, hdg⟩) (fun e => by cases e) hP hD hS
      · exact hs.elim
    · exact hs.elim
  · split at hs
    · split at hs
      · exact hR none h pc ls H locs hs (fun v e => by cases e) (fun _ => ⟨rfl, hdg⟩) hP hD hS
      · exact hs.elim
    · exact hs.elim
  · exact hs.elim
theorem m_walk {code : List (Nat × mE)} {fld : List (Nat × Nat)} {fpt : List (Nat × Nat × Bool)} {kon : List (Nat × Int32)} {call : List (Nat × Bool × Nat × mT)} {rb : Nat} {Rr : Option Int32 → mH → Prop} {Ts : List Cond} {own C : String} {T : u_T} {N : Nat}
    (S0 : CallFix p m c cc nL s args Ts own) (hK : va_K D cl [(cA, .int)] s) (hA : ∀ q, H0.size ≤ q → A q) (hTb : m_Tb s args cl ci Ts own C T N fld fpt kon)
    (hcall : ∀ (x : Nat) (st : Bool) (na : Nat) (T : mT), m_lk call x = some (st, na, T) → m_OK D cl cA ci ad Ts l own R x st na T)
    (hR : ∀ (r : Option Int32) (h : mH) (pc : Nat) (ls : Array Slot) (H : Heap) (locs : List Loc), Rr r h → (∀ v, r = some v → (rb = 0 ∨ rb = 1 ∧ (v = 0 ∨ v = 1)) ∧ decode cc pc = .ok (.ireturn, 1)) → (r = none → rb = 2 ∧ decode cc pc = .ok (.return_, 1)) → va_P D cl (m_w ci cA ad h) H → va_D A (m_w ci cA ad h) → va_S A H0 H locs → W p l e R s m args below meth c H locs 0 0 Q (F0 m pc ls ((m_ps r []).map (m_v ad))))
    (hcode : code.all (m_ok cc nL) = true) : m_cl code fld fpt kon call rb Rr (m_W p l e R s m args below meth c nL Q D cl cA ci ad A H0) := by
  have key : ∀ (n : Nat) (st : Bool) (pc : Nat) (L : mL) (S : List mV) (h : mH), m_wp code fld fpt kon call rb (m_W p l e R s m args below meth c nL Q D cl cA ci ad A H0) Rr n st pc L S h → m_W p l e R s m args below meth c nL Q D cl cA ci ad A H0 (pc, L, S, h) := by
    intro n
    induction n with
    | zero => intro st pc L S h hs; exact hs
    | succ n ih =>
      intro st pc L S h hs
      unfold m_wp at hs
      split at hs
      · exact hs.elim
      · rename_i i nx tg cv hd hlk
        cases hb : (st && hd) with
        | true => rw [hb] at hs; exact hs
        | false =>
          rw [hb] at hs
          exact m_step S0 hK hA hTb hcall hR (List.all_eq_true.mp hcode _ (m_lk_mem hlk)) hs (fun pc' L' S' h' z => ih true pc' L' S' h' z)
  intro n pc L S h hs
  exact key n false pc L S h hs
end MS
end
section
/-! a method's contract out of the small machine, and a call out of a contract -/
def m_rm (d : Nat) : Room := { frames := d, cells := 0, slots := 0, locals := 32 * d }
def m_B (D : va_G) (cl : List vw_C) (cA : ClassId) (ci : Nat) (ad : Nat → Nat) (A : Nat → Prop) (u : mH) (t : State) : Prop := va_P D cl (m_w ci cA ad u) t.heap ∧ va_K D cl [(cA, .int)] t ∧ va_D A (m_w ci cA ad u)
def m_Q (D : va_G) (cl : List vw_C) (cA : ClassId) (ci : Nat) (ad : Nat → Nat) (rb : Nat) (k : Option Int32 → mH → Prop) (A : Nat → Prop) : Array Value → State → Outcome → State → Prop := match rb with
  | 2 => va_Qv (fun u : mH => k none u) (m_B D cl cA ci ad A) A
  | _ => va_Qi (fun (r : Int32) (u : mH) => k (some r) u) (m_B D cl cA ci ad A) A
def m_Pc (D : va_G) (cl : List vw_C) (cA : ClassId) (ci : Nat) (ad : Nat → Nat) (sz : Nat) (as : List mV) (h : mH) : Array Value → State → Prop :=
  va_Pc (as.map (m_v ad)) (fun U => U.heap.size = sz ∧ va_P D cl (m_w ci cA ad h) U.heap ∧ va_K D cl [(cA, .int)] U ∧ va_D (fun _ => True) (m_w ci cA ad h))
def m_Con (cl : List vw_C) (ci : Nat) (Ts : List Cond) (y : MethodName) (bytes : ByteArray) (maxL : Nat) (ret : Option FieldType) (rb d : Nat) (T : mT) : Prop :=
  ∀ (l : Launch) (D : va_G) (cA : ClassId) (ad : Nat → Nat) (sz : Nat) (as : List mV) (h : mH) (k : Option Int32 → mH → Prop), T as h k → Met l y (Cond.code y bytes maxL ret :: Ts) (m_rm d) (m_Pc D cl cA ci ad sz as h) (m_Q D cl cA ci ad rb k (va_A (m_w ci cA ad h) sz)) 0 0 (va_A (m_w ci cA ad h) sz)
def m_en : Nat → List mV → mL
  | 0, _ => []
  | n + 1, [] => none :: m_en n []
  | n + 1, v :: t => some v :: m_en n t
theorem m_en_len (n : Nat) (as : List mV) : (m_en n as).length = n := by
  induction n generalizing as with
  | zero => rfl
  | succ n ih => cases as with
    | nil => simp [m_en, ih]
    | cons v t => simp [m_en, ih]
theorem m_en_nil (ad : Nat → Nat) (n : Nat) : ∀ i, m_lv ad i (m_en n []) = [] := by
  induction n with
  | zero => intro i; rfl
  | succ n ih => intro i; simp [m_en, m_lv, ih]
theorem m_en_sub (ad : Nat → Nat) (n : Nat) (as : List mV) : ∀ i, ∀ q ∈ m_lv ad i (m_en n as), q ∈ lv_args i (as.map (m_v ad)) := by
  induction n generalizing as with
  | zero => intro i q hq; cases hq
  | succ n ih => cases as with
    | nil => intro i q hq; rw [m_en_nil] at hq; cases hq
    | cons v t =>
      intro i q hq
      simp only [m_en, m_lv, List.mem_cons] at hq
      simp only [List.map_cons, lv_args, m_cat, List.mem_cons]
      rcases hq with rfl | hq
      · exact Or.inl rfl
      · exact Or.inr (ih t (i + 1) q hq)
theorem m_sl_len (ad : Nat → Nat) (as : List mV) : (lg_sl (as.map (m_v ad))).length = as.length := by
  induction as with
  | nil => rfl
  | cons v t ih =>
    have e : lg_sl ((v :: t).map (m_v ad)) = Slot.val (m_v ad v) :: lg_sl (t.map (m_v ad)) := by
      simp [lg_sl, m_cat]
    rw [e, List.length_cons, List.length_cons, ih]
theorem m_blind (D : va_G) (cl : List vw_C) (cA : ClassId) (ci : Nat) (ad : Nat → Nat) (sz : Nat) (as : List mV) (h : mH) : FrameBlind (m_Pc D cl cA ci ad sz as h) := by
  intro a U g mk q
  obtain ⟨q0, q1, qP, qK, qD⟩ := q
  exact ⟨q0, q1, qP, va_K.moved (u := U) (U := U.calling g mk a) (Vm.Alike.refl U.vm) qK, qD⟩
set_option maxHeartbeats 4000000 in
theorem m_con {cl : List vw_C} {ci : Nat} {Ts : List Cond} {y : MethodName} {bytes : ByteArray} {maxL : Nat} {ret : Option FieldType} {rb d : Nat} {Tm : mT} {code : List (Nat × mE)} {fld : List (Nat × Nat)} {fpt : List (Nat × Nat × Bool)} {kon : List (Nat × Int32)} {call : List (Nat × Bool × Nat × mT)} {C : String} {T : u_T} {N : Nat}
    (hpl : plainName y.cls = true) (hret : (rb = 0 ∧ ret = some .int) ∨ (rb = 1 ∧ ret = some .boolean) ∨ (rb = 2 ∧ ret = none)) (hcode : code.all (m_ok bytes maxL) = true)
    (hTb : ∀ (s : State) (args : Array Value), (∀ w ∈ Ts, w.before args s = true) → m_Tb s args cl ci Ts y.cls C T N fld fpt kon)
    (hcall : ∀ (l : Launch) (D : va_G) (cA : ClassId) (ad : Nat → Nat) (x : Nat) (st : Bool) (na : Nat) (T : mT), m_lk call x = some (st, na, T) → m_OK D cl cA ci ad Ts l y.cls (m_rm d) x st na T)
    (hlen : ∀ as h k, Tm as h k → as.length ≤ maxL)
    (body : ∀ as h k, Tm as h k → ∀ V, m_cl code fld fpt kon call rb k V → V (0, m_en maxL as, [], h)) : m_Con cl ci Ts y bytes maxL ret rb d Tm := by
  intro l D cA ad sz as h k hT
  refine Met.ofW (cc := bytes) (maxL := maxL) (ret := ret) hpl rfl ?_
  intro p e s m args below meth c s₁ B hml hv
  obtain ⟨rfl, hsz, hP, hK, hD0⟩ := hv
  have hx := B.exec
  have hb := B.bytes
  have hr := B.returns
  have hts0 := atoms_spec (ws := Cond.code y bytes maxL ret :: Ts) B.pre
  have hts : ∀ w ∈ Ts, w.before (as.map (m_v ad)).toArray s = true := fun w hw => hts0 w (List.mem_cons_of_mem _ hw)
  have hown : s.vm.findClass y.cls = some m.cls := findClass_of_methodNamed B.named
  have hlocks := B.notSynchronized
  subst hsz
  have hD := hD0.self (sz := s.heap.size)
  generalize hAe : va_A (m_w ci cA ad h) s.heap.size = A at hD ⊢
  have hA : ∀ q : Nat, s.heap.size ≤ q → A q := fun q h => by rw [← hAe]; exact Or.inr h
  have hS : va_S A s.heap s.heap [] := va_S.rf
  have hl := lv_entry (as.map (m_v ad)) (n := maxL) (by rw [m_sl_len]; exact hlen as h k hT)
  rw [lg_entry_eq]
  generalize (lg_sl (as.map (m_v ad)) ++ List.replicate (maxL - (lg_sl (as.map (m_v ad))).length) Slot.unset).toArray = ls at hl ⊢
  have hl2 : lv_has ls maxL (m_lv ad 0 (m_en maxL as)) := m_lvsub hl (m_en_sub ad maxL as 0)
  refine body as h k hT _ (m_walk (A := A) (H0 := s.heap) ⟨hx, hb, hml, hown, hts⟩ hK hA (hTb s _ hts) (hcall l D cA ad) ?_ hcode) (m_en_len maxL as) s.heap [] ls hP hD hS hl2
  intro r h' pc ls H locs hk h1 h2 hP1 hD1 hS1
  cases r with
  | some v =>
    obtain ⟨hz, hdg⟩ := h1 v rfl
    rcases hret with ⟨e1, e2⟩ | ⟨e1, e2⟩ | ⟨e1, e2⟩
    · subst e1; subst e2
      exact W.zret hx hb hr (vp_nar_int v) (fun t ht hW => ⟨⟨v, h', rfl, hk, by rw [ht]; exact hP1, va_K.moved hW.alike hK, hD1⟩, hS1.F ht⟩) hS1.2.2 hdg
    · subst e1; subst e2
      have hv : v = 0 ∨ v = 1 := by
        rcases hz with hz | hz
        · cases hz
        · exact hz.2
      exact W.zret hx hb hr (m_fit1 hv).1 (fun t ht hW => ⟨⟨v, h', rfl, hk, by rw [ht]; exact hP1, va_K.moved hW.alike hK, hD1⟩, hS1.F ht⟩) hS1.2.2 hdg
    · subst e1
      rcases hz with hz | hz
      · cases hz
      · cases hz.1
  | none =>
    obtain ⟨e0, hdg⟩ := h2 rfl
    rcases hret with ⟨e1, e2⟩ | ⟨e1, e2⟩ | ⟨e1, e2⟩
    · subst e1; cases e0
    · subst e1; cases e0
    · subst e1; subst e2
      exact W.vret hx hb hr (fun t ht hW => ⟨⟨h', rfl, hk, by rw [ht]; exact hP1, va_K.moved hW.alike hK, hD1⟩, hS1.F ht⟩) hS1.2.2 hdg
section MO
variable {cl : List vw_C} {ci : Nat} {Ts : List Cond} {y : MethodName} {bytes : ByteArray} {maxL : Nat} {ret : Option FieldType} {rb d : Nat} {T : mT} {D : va_G} {cA : ClassId} {ad : Nat → Nat} {l : Launch} {own : String} {R : Room} {idx na : Nat}
/-- behind a call, either way -/
theorem m_back {p : Program} {e : Env} {s : State} {m : MethodId} {args : Array Value} {below : List Frame} {meth : Method} {c : Code} {Q : State → Prop} {A : Nat → Prop} {H0 H : Heap} {locs : List Loc} {pc : Nat} {ls : Array Slot} {rest : List mV} {h : mH} {k : Option Int32 → mH → Prop} {st0 : List Value} {a : Array Value} (hrb : rb = 0 ∨ rb = 1 ∨ rb = 2)
    (hr : va_Run p l e R s m args below meth c H locs 0 0 0 0 (F0 m pc ls st0) (rest.map (m_v ad)) (m_Q D cl cA ci ad rb k (va_A (m_w ci cA ad h) H.size) a) (va_A (m_w ci cA ad h) H.size)) (hA : ∀ q, H0.size ≤ q → A q) (hD : va_D A (m_w ci cA ad h)) (hS : va_S A H0 H locs)
    (kk : ∀ (r : Option Int32) (h' : mH) (H1 : Heap) (locs1 : List Loc), k r h' → va_P D cl (m_w ci cA ad h') H1 → va_D A (m_w ci cA ad h') → va_S A H0 H1 locs1 → W p l e R s m args below meth c H1 locs1 0 0 Q (F0 m (pc + 3) ls ((m_ps r rest).map (m_v ad)))) :
    W p l e R s m args below meth c H locs 0 0 Q (F0 m pc ls st0) := by
  have hF : ∀ q, va_A (m_w ci cA ad h) H.size q → A q := by
    rintro q (⟨k2, e2, h2⟩ | h2)
    · exact hD.2 k2 (q, e2) h2
    · exact hA q (Nat.le_trans hS.1 h2)
  rcases hrb with rfl | rfl | rfl
  · exact va_calli (a := a) (A1 := va_A (m_w ci cA ad h) H.size) (post := fun (r : Int32) (u : mH) => k (some r) u) (B := m_B D cl cA ci ad (va_A (m_w ci cA ad h) H.size)) hr hS (fun q _ h => hF q h) hF (fun r u t H1 locs1 ht hvm hpost hB hsz hk hS1 => kk (some r) u H1 locs1 hpost (by rw [← ht]; exact hB.1) (hB.2.2.weaken (fun _ q _ hq => hF q.1 hq)) hS1)
  · exact va_calli (a := a) (A1 := va_A (m_w ci cA ad h) H.size) (post := fun (r : Int32) (u : mH) => k (some r) u) (B := m_B D cl cA ci ad (va_A (m_w ci cA ad h) H.size)) hr hS (fun q _ h => hF q h) hF (fun r u t H1 locs1 ht hvm hpost hB hsz hk hS1 => kk (some r) u H1 locs1 hpost (by rw [← ht]; exact hB.1) (hB.2.2.weaken (fun _ q _ hq => hF q.1 hq)) hS1)
  · exact va_callv (a := a) (A1 := va_A (m_w ci cA ad h) H.size) (post := fun (u : mH) => k none u) (B := m_B D cl cA ci ad (va_A (m_w ci cA ad h) H.size)) hr hS (fun q _ h => hF q h) hF (fun u t H1 locs1 ht hvm hpost hB hsz hk hS1 => kk none u H1 locs1 hpost (by rw [← ht]; exact hB.1) (hB.2.2.weaken (fun _ q _ hq => hF q.1 hq)) hS1)
theorem m_okV {C : String} {Tu : u_T} {N : Nat} (hcl : cl[ci]? = some (C, Tu, N)) (hC : m_Con cl ci Ts y bytes maxL ret rb d T) (hrb : rb = 0 ∨ rb = 1 ∨ rb = 2) (hgood : ∀ w ∈ Ts, ((w.onTables && w.keeps) = true ∨ ∃ ty, w = .arrayClass ty))
    (hws : ∀ w ∈ ([.methodLink own idx y, .instanceMethod y, .selects C y y, .initialized C, Cond.code y bytes maxL ret] : List Cond), w ∈ Ts) (hyc : y.cls = C ∧ y.cls ≠ "java/lang/invoke/MethodHandle" ∧ y.cls ≠ "java/lang/invoke/VarHandle" ∧ (parseMethodDescriptor y.desc).map (fun d => d.parameters.length) = some na) (hmx : maxL ≤ 13)
    (hR : d + 1 ≤ R.frames ∧ 32 * (d + 1) ≤ R.locals) (hrecv : ∀ as h k, T as h k → ∃ j as' fs, as = .inr j :: as' ∧ m_at h j = some (.inl fs)) : m_OK D cl cA ci ad Ts l own R idx false (na + 1) T := by
  intro p e s m args below meth c cc nL Q A H0 S0 hK hA pc ls rest as h k H locs hT has hdg hsz hrest hP hD hS kk
  obtain ⟨j, as', fs, rfl, hj⟩ := hrecv _ _ _ hT
  obtain ⟨hx, hb, hml, hown, hts⟩ := id S0
  have hG : GoodIn Ts (wsV own idx C y (Cond.code y bytes maxL ret :: Ts)) := by
    intro w hw
    have hin : w ∈ Ts := by
      unfold wsV at hw
      rcases List.mem_append.mp hw with h1 | h1
      · exact hws w (by simp only [List.mem_cons, List.not_mem_nil, or_false] at h1 ⊢; rcases h1 with h1 | h1 | h1 | h1 <;> simp [h1])
      · rcases List.mem_cons.mp h1 with h1 | h1
        · exact hws w (by simp [h1])
        · exact h1
    exact ⟨hin, hgood w hin⟩
  have hr := va_runV (As := as'.map (m_v ad)) (rest := rest.map (m_v ad)) (b := ad j) (C := C) (R := R) (e := e) (below := below) (meth := meth) (H := H) (locs := locs) (cells := 0) (slots := 0) (g := F0 m pc ls (((Sum.inr j :: as').reverse ++ rest).map (m_v ad))) S0 (hC l D cA ad H.size _ h k hT) (cwV na hts hG rfl rfl rfl hyc ⟨hR.1, by show 8 + (maxL + 11) + 32 * d ≤ R.locals; omega⟩)
    ⟨m_blind D cl cA ci ad H.size _ h, va_recv hK hP hcl (m_w_get hj), fun U hU hW => ⟨rfl, by rw [hU], by rw [hU]; exact hP, va_K.moved hW.alike hK, hD.weaken (fun _ _ _ _ => trivial)⟩⟩ rfl (by rw [List.length_map]; simpa using has) hsz (by simp [m_v]) (lv_room (by rw [m_sum]; exact hrest)) hdg ⟨Nat.zero_le _, Nat.zero_le _⟩
  exact m_back hrb hr hA hD hS kk
theorem m_okS (hC : m_Con cl ci Ts y bytes maxL ret rb d T) (hrb : rb = 0 ∨ rb = 1 ∨ rb = 2) (hgood : ∀ w ∈ Ts, ((w.onTables && w.keeps) = true ∨ ∃ ty, w = .arrayClass ty))
    (hws : ∀ w ∈ ([.methodLink own idx y, .static y, .initialized y.cls, Cond.code y bytes maxL ret] : List Cond), w ∈ Ts) (hyc : y.cls ≠ "java/lang/invoke/MethodHandle" ∧ y.cls ≠ "java/lang/invoke/VarHandle" ∧ (parseMethodDescriptor y.desc).map (fun d => d.parameters.length) = some na) (hmx : maxL ≤ 13)
    (hR : d + 1 ≤ R.frames ∧ 32 * (d + 1) ≤ R.locals) : m_OK D cl cA ci ad Ts l own R idx true na T := by
  intro p e s m args below meth c cc nL Q A H0 S0 hK hA pc ls rest as h k H locs hT has hdg hsz hrest hP hD hS kk
  obtain ⟨hx, hb, hml, hown, hts⟩ := id S0
  have hG : GoodIn Ts (va_wsS own idx y (Cond.code y bytes maxL ret :: Ts)) := by
    intro w hw
    have hin : w ∈ Ts := by
      unfold va_wsS at hw
      rcases List.mem_append.mp hw with h1 | h1
      · exact hws w (by simp only [List.mem_cons, List.not_mem_nil, or_false] at h1 ⊢; rcases h1 with h1 | h1 | h1 <;> simp [h1])
      · rcases List.mem_cons.mp h1 with h1 | h1
        · exact hws w (by simp [h1])
        · exact h1
    exact ⟨hin, hgood w hin⟩
  have hr := va_runS (As := as.map (m_v ad)) (rest := rest.map (m_v ad)) (R := R) (e := e) (below := below) (meth := meth) (H := H) (locs := locs) (cells := 0) (slots := 0) (g := F0 m pc ls ((as.reverse ++ rest).map (m_v ad))) S0 (hC l D cA ad H.size _ h k hT) (va_cwS na hts hG rfl rfl rfl hyc ⟨hR.1, by show 8 + (maxL + 11) + 32 * d ≤ R.locals; omega⟩)
    ⟨m_blind D cl cA ci ad H.size _ h, fun U hU hW => ⟨rfl, by rw [hU], by rw [hU]; exact hP, va_K.moved hW.alike hK, hD.weaken (fun _ _ _ _ => trivial)⟩⟩ rfl (by rw [List.length_map]; exact has) hsz (by simp) (lv_room (by rw [m_sum]; exact hrest)) hdg ⟨Nat.zero_le _, Nat.zero_le _⟩
  exact m_back hrb hr hA hD hS kk
end MO
end
section
/-! sums, counts, bits -/
def sm (g : Nat → Nat) : Nat → Nat
  | 0 => 0
  | n + 1 => sm g n + g n
theorem sm_congr {g g' : Nat → Nat} {n : Nat} (h : ∀ i, i < n → g i = g' i) : sm g n = sm g' n := by
  induction n with
  | zero => rfl
  | succ n ih =>
    show sm g n + g n = sm g' n + g' n
    rw [ih (fun i hi => h i (by omega)), h n (by omega)]
theorem sm_le {g g' : Nat → Nat} {n : Nat} (h : ∀ i, i < n → g i ≤ g' i) : sm g n ≤ sm g' n := by
  induction n with
  | zero => exact Nat.le_refl _
  | succ n ih =>
    have h1 := ih (fun i hi => h i (by omega))
    have h2 := h n (by omega)
    show sm g n + g n ≤ sm g' n + g' n
    omega
theorem sm_add (g g' : Nat → Nat) (n : Nat) : sm (fun i => g i + g' i) n = sm g n + sm g' n := by
  induction n with
  | zero => rfl
  | succ n ih =>
    show sm (fun i => g i + g' i) n + (g n + g' n) = sm g n + g n + (sm g' n + g' n)
    rw [ih]; omega
theorem sm_mul (c : Nat) (g : Nat → Nat) (n : Nat) : sm (fun i => c * g i) n = c * sm g n := by
  induction n with
  | zero => rfl
  | succ n ih =>
    show sm (fun i => c * g i) n + c * g n = c * (sm g n + g n)
    rw [ih, Nat.mul_add]
theorem sm_zero (n : Nat) : sm (fun _ => 0) n = 0 := by
  induction n with
  | zero => rfl
  | succ n ih => exact ih
theorem sm_zero' {g : Nat → Nat} {n : Nat} (h : ∀ i, i < n → g i = 0) : sm g n = 0 := (sm_congr h).trans (sm_zero n)
theorem sm_swap (g : Nat → Nat → Nat) (n m : Nat) : sm (fun i => sm (g i) m) n = sm (fun j => sm (fun i => g i j) n) m := by
  induction n with
  | zero => exact (sm_zero m).symm
  | succ n ih =>
    show sm (fun i => sm (g i) m) n + sm (g n) m = sm (fun j => sm (fun i => g i j) n + g n j) m
    rw [ih, ← sm_add]
theorem sm_const (c n : Nat) : sm (fun _ => c) n = n * c := by
  induction n with
  | zero => simp [sm]
  | succ n ih =>
    show sm (fun _ => c) n + c = (n + 1) * c
    rw [ih, Nat.succ_mul]
theorem sm_bound {g : Nat → Nat} {n c : Nat} (h : ∀ i, i < n → g i ≤ c) : sm g n ≤ n * c := by
  rw [← sm_const]; exact sm_le h
/-- one place changed -/
theorem sm_one {g g' : Nat → Nat} {n v : Nat} (hv : v < n) (h : ∀ i, i < n → i ≠ v → g i = g' i) : sm g n + g' v = sm g' n + g v := by
  induction n with
  | zero => omega
  | succ n ih =>
    show sm g n + g n + g' v = sm g' n + g' n + g v
    by_cases hn : v = n
    · subst hn
      rw [sm_congr (g := g) (g' := g') (fun i hi => h i (by omega) (by omega))]
      omega
    · have h1 := ih (by omega) (fun i hi => h i (by omega))
      have h2 := h n (by omega) (fun z => hn z.symm)
      omega
theorem sm_ge {g : Nat → Nat} {n v : Nat} (hv : v < n) : g v ≤ sm g n := by
  induction n with
  | zero => omega
  | succ n ih =>
    show g v ≤ sm g n + g n
    by_cases hn : v = n
    · subst hn; omega
    · have := ih (by omega); omega
theorem sm_ext {g : Nat → Nat} {n m : Nat} (h : n ≤ m) (hz : ∀ i, n ≤ i → i < m → g i = 0) : sm g m = sm g n := by
  induction m with
  | zero => have : n = 0 := by omega
            subst this; rfl
  | succ m ih =>
    by_cases hm : n = m + 1
    · rw [hm]
    · show sm g m + g m = sm g n
      rw [ih (by omega) (fun i h1 h2 => hz i h1 (by omega)), hz m (by omega) (by omega)]
      rfl
def cn (p : Nat → Bool) (n : Nat) : Nat := sm (fun i => (p i).toNat) n
theorem cn_congr {p q : Nat → Bool} {n : Nat} (h : ∀ i, i < n → p i = q i) : cn p n = cn q n := sm_congr (fun i hi => by rw [h i hi])
theorem cn_le {p q : Nat → Bool} {n : Nat} (h : ∀ i, i < n → p i = true → q i = true) : cn p n ≤ cn q n := sm_le (fun i hi => by
  cases hp : p i with
  | false => exact Nat.zero_le _
  | true => rw [h i hi hp]; exact Nat.le_refl _)
theorem cn_n (p : Nat → Bool) (n : Nat) : cn p n ≤ n := by
  have := sm_bound (g := fun i => (p i).toNat) (n := n) (c := 1) (fun i _ => by cases p i <;> decide)
  show sm _ n ≤ n
  omega
theorem cn_lt {p q : Nat → Bool} {n v : Nat} (h : ∀ i, i < n → p i = true → q i = true) (hv : v < n) (h1 : p v = false) (h2 : q v = true) : cn p n < cn q n := by
  have e := sm_one (g := fun i => (p i).toNat) (g' := fun i => if i = v then 1 else (p i).toNat) hv (fun i _ hi => by simp [hi])
  have e2 : sm (fun i => if i = v then 1 else (p i).toNat) n ≤ cn q n := sm_le (fun i hi => by
    by_cases hiv : i = v
    · subst hiv; simp [h2]
    · simp only [hiv, if_false]
      cases hp : p i with
      | false => exact Nat.zero_le _
      | true => rw [h i hi hp]; exact Nat.le_refl _)
  simp only [h1, if_true, Bool.toNat_false] at e
  show sm _ n < cn q n
  omega
theorem cn_eq {p q : Nat → Bool} {n : Nat} (h : ∀ i, i < n → p i = true → q i = true) (he : cn q n ≤ cn p n) : ∀ i, i < n → p i = q i := by
  intro i hi
  cases hp : p i with
  | true => rw [h i hi hp]
  | false =>
    cases hq : q i with
    | false => rfl
    | true => have := cn_lt h hi hp hq; omega
theorem cn_0 {p : Nat → Bool} {n : Nat} (h : cn p n = 0) : ∀ i, i < n → p i = false := by
  intro i hi
  have := sm_ge (g := fun i => (p i).toNat) hi
  cases hp : p i with
  | false => rfl
  | true =>
    simp only [hp, Bool.toNat_true] at this
    have h2 : sm (fun i => (p i).toNat) n = 0 := h
    omega
theorem cn_pos {p : Nat → Bool} {n i : Nat} (hi : i < n) (h : p i = true) : 0 < cn p n := by
  rcases Nat.eq_zero_or_pos (cn p n) with h0 | h0
  · have := cn_0 h0 i hi; rw [h] at this; cases this
  · exact h0
theorem cn_or (p q : Nat → Bool) (n : Nat) : cn (fun i => p i || q i) n + cn (fun i => p i && q i) n = cn p n + cn q n := by
  show sm _ n + sm _ n = sm _ n + sm _ n
  rw [← sm_add, ← sm_add]
  exact sm_congr (fun i _ => by dsimp only; cases p i <;> cases q i <;> rfl)
/-- how many of the twelve bits are set -/
def pop (S : Nat) : Nat := cn S.testBit 12
theorem tb_hi {S n i : Nat} (h : S < 2 ^ n) (hi : n ≤ i) : S.testBit i = false := Nat.testBit_lt_two_pow (Nat.lt_of_lt_of_le h (Nat.pow_le_pow_right (by decide) hi))
theorem tb_ext {S T n : Nat} (h1 : S < 2 ^ n) (h2 : T < 2 ^ n) (h : ∀ i, i < n → S.testBit i = T.testBit i) : S = T := by
  apply Nat.eq_of_testBit_eq
  intro i
  by_cases hi : i < n
  · exact h i hi
  · rw [tb_hi h1 (by omega), tb_hi h2 (by omega)]
theorem pop_n {S n : Nat} (h : S < 2 ^ n) (hn : n ≤ 12) : pop S = cn S.testBit n := sm_ext hn (fun i h1 _ => by rw [tb_hi h h1]; rfl)
theorem pop_and {S T n : Nat} (h : S < 2 ^ n) (hn : n ≤ 12) : pop (S &&& T) = cn (fun i => S.testBit i && T.testBit i) n := by
  rw [pop_n (n := n) (Nat.lt_of_le_of_lt Nat.and_le_left h) hn]
  exact cn_congr (fun i _ => Nat.testBit_and ..)
theorem pop_le {S n : Nat} (h : S < 2 ^ n) (hn : n ≤ 12) : pop S ≤ n := by rw [pop_n h hn]; exact cn_n _ _
theorem p12 {n : Nat} (hn : n ≤ 12) : 2 ^ n ≤ 4096 := Nat.pow_le_pow_right (by decide) hn
/-- a set without some -/
def sd (S T : Nat) : Nat := S ^^^ (S &&& T)
theorem tb_sd (S T i : Nat) : (sd S T).testBit i = (S.testBit i && !T.testBit i) := by
  simp only [sd, Nat.testBit_xor, Nat.testBit_and]
  cases S.testBit i <;> cases T.testBit i <;> rfl
theorem sd_lt {S T n : Nat} (h : S < 2 ^ n) : sd S T < 2 ^ n := Nat.xor_lt_two_pow h (Nat.lt_of_le_of_lt Nat.and_le_left h)
theorem tb_pow (v i : Nat) : (2 ^ v).testBit i = decide (v = i) := Nat.testBit_two_pow
theorem tb_all (n i : Nat) : (2 ^ n - 1).testBit i = decide (i < n) := Nat.testBit_two_pow_sub_one n i
end
section
/-! graphs as rows of bits; cores -/
def mk (p : Nat → Bool) : Nat → Nat
  | 0 => 0
  | n + 1 => mk p n ||| (bif p n then 2 ^ n else 0)
theorem mk_lt (p : Nat → Bool) (n : Nat) : mk p n < 2 ^ n := by
  induction n with
  | zero => exact Nat.one_pos
  | succ n ih =>
    have h1 : 2 ^ n < 2 ^ (n + 1) := Nat.pow_lt_pow_right (by decide) (Nat.lt_succ_self n)
    refine Nat.or_lt_two_pow (Nat.lt_trans ih h1) ?_
    cases p n with
    | true => exact h1
    | false => exact Nat.lt_of_le_of_lt (Nat.zero_le _) h1
theorem tb_mk (p : Nat → Bool) (n i : Nat) : (mk p n).testBit i = (decide (i < n) && p i) := by
  induction n with
  | zero => simp [mk]
  | succ n ih =>
    have e : (bif p n then 2 ^ n else 0).testBit i = (decide (i = n) && p i) := by
      by_cases hi : i = n
      · subst hi
        cases p i with
        | true => simp [tb_pow]
        | false => simp
      · cases p n with
        | true => simp [tb_pow, hi]; exact fun z => hi z.symm
        | false => simp [hi]
    rw [mk, Nat.testBit_or, ih, e]
    by_cases h1 : i < n
    · simp [h1, Nat.lt_succ_of_lt h1, Nat.ne_of_lt h1]
    · by_cases h2 : i = n
      · subst h2; simp
      · have h3 : ¬ i < n + 1 := by omega
        simp [h1, h2, h3]
def sub (S T : Nat) : Prop := ∀ i, S.testBit i = true → T.testBit i = true
/-- twelve nodes at most; of each the bits of those that it is joined with -/
def Gr (n : Nat) (f : Nat → Nat) : Prop := n ≤ 12 ∧ (∀ v, v < n → f v < 2 ^ n) ∧ (∀ v, v < n → (f v).testBit v = false) ∧ ∀ u v, u < n → v < n → (f u).testBit v = (f v).testBit u
def dg (f : Nat → Nat) (S v : Nat) : Nat := pop (f v &&& S)
section GR
variable {n : Nat} {f : Nat → Nat}
theorem dg_n (hG : Gr n f) {S v : Nat} (hv : v < n) : dg f S v = cn (fun i => (f v).testBit i && S.testBit i) n := pop_and (hG.2.1 v hv) hG.1
theorem dg_mono (hG : Gr n f) {S T v : Nat} (hv : v < n) (h : sub S T) : dg f S v ≤ dg f T v := by
  rw [dg_n hG hv, dg_n hG hv]
  refine cn_le (fun i _ hi => ?_)
  simp only [Bool.and_eq_true] at hi ⊢
  exact ⟨hi.1, h i hi.2⟩
theorem dg_le (hG : Gr n f) {S v : Nat} (hv : v < n) : dg f S v ≤ n := by
  rw [dg_n hG hv]; exact cn_n _ _
theorem dg_lt (hG : Gr n f) {S v : Nat} (hv : v < n) : dg f S v < n := by
  rw [dg_n hG hv]
  have h1 := cn_lt (p := fun i => (f v).testBit i && S.testBit i) (q := fun _ => true) (n := n) (v := v) (fun _ _ _ => rfl) hv (by rw [hG.2.2.1 v hv]; rfl) rfl
  have h2 := cn_n (fun _ => true) n
  omega
/-- those of S whose degree within S is of a kind -/
def lo (n : Nat) (f : Nat → Nat) (S : Nat) (c : Nat → Bool) : Nat := mk (fun v => S.testBit v && c (dg f S v)) n
def cld (n : Nat) (f : Nat → Nat) (K X : Nat) : Prop := ∀ v, v < n → X.testBit v = true → K ≤ dg f X v
def isCore (n : Nat) (f : Nat → Nat) (K S : Nat) : Prop := S < 2 ^ n ∧ cld n f K S ∧ ∀ X, X < 2 ^ n → cld n f K X → sub X S
theorem core_one {K S T : Nat} (h1 : isCore n f K S) (h2 : isCore n f K T) : S = T := by
  refine tb_ext h1.1 h2.1 (fun i _ => ?_)
  have a := h2.2.2 S h1.1 h1.2.1 i
  have b := h1.2.2 T h2.1 h2.2.1 i
  cases hs : S.testBit i with
  | true => rw [a hs]
  | false =>
    cases ht : T.testBit i with
    | false => rfl
    | true => rw [b ht] at hs; cases hs
theorem cld_keep (hG : Gr n f) {K X S v : Nat} (hX : cld n f K X) (hs : sub X S) (hv : v < n) (h : X.testBit v = true) : K ≤ dg f S v := Nat.le_trans (hX v hv h) (dg_mono hG hv hs)
def rd (n : Nat) (f : Nat → Nat) (K S : Nat) : Nat := sd S (lo n f S (fun d => decide (d < K)))
def coreC (n : Nat) (f : Nat → Nat) (K : Nat) : Nat → Nat
  | 0 => 2 ^ n - 1
  | r + 1 => rd n f K (coreC n f K r)
theorem pw_pos (n : Nat) : 2 ^ n - 1 < 2 ^ n := by
  have : 0 < 2 ^ n := Nat.pow_pos (by decide)
  omega
theorem coreC_lt (K r : Nat) : coreC n f K r < 2 ^ n := by
  induction r with
  | zero => exact pw_pos n
  | succ r ih => exact sd_lt ih
theorem tb_rd (K S i : Nat) : (rd n f K S).testBit i = (S.testBit i && !(decide (i < n) && decide (dg f S i < K))) := by
  rw [rd, tb_sd, lo, tb_mk]
  cases S.testBit i <;> simp
theorem coreC_top (hG : Gr n f) {K X : Nat} (hX : X < 2 ^ n) (h : cld n f K X) (r : Nat) : sub X (coreC n f K r) := by
  induction r with
  | zero =>
    intro i hi
    show (2 ^ n - 1).testBit i = true
    rw [tb_all, decide_eq_true_eq]
    rcases Nat.lt_or_ge i n with h1 | h1
    · exact h1
    · rw [tb_hi hX h1] at hi; cases hi
  | succ r ih =>
    intro i hi
    show (rd n f K (coreC n f K r)).testBit i = true
    rw [tb_rd, ih i hi]
    by_cases h1 : i < n
    · have := cld_keep hG h ih h1 hi
      simp; exact Or.inr this
    · simp [h1]
theorem coreC_end (hG : Gr n f) (K r : Nat) : cld n f K (coreC n f K r) ∨ pop (coreC n f K r) + r ≤ n := by
  induction r with
  | zero =>
    right
    have := pop_le (pw_pos n) hG.1
    exact this
  | succ r ih =>
    by_cases hc : cld n f K (coreC n f K r)
    · left
      have e : coreC n f K (r + 1) = coreC n f K r := by
        refine tb_ext (coreC_lt K (r + 1)) (coreC_lt K r) (fun i hi => ?_)
        show (rd n f K (coreC n f K r)).testBit i = _
        rw [tb_rd]
        cases hs : (coreC n f K r).testBit i with
        | false => rfl
        | true =>
          have := hc i hi hs
          simp [hi]; exact this
      rw [e]; exact hc
    · rcases ih with h | h
      · exact absurd h hc
      · right
        have hne : ∃ v, v < n ∧ (coreC n f K r).testBit v = true ∧ dg f (coreC n f K r) v < K := by
          apply Classical.byContradiction
          intro hn
          apply hc
          intro v hv hb
          apply Nat.le_of_not_lt
          intro hlt
          exact hn ⟨v, hv, hb, hlt⟩
        obtain ⟨v, hv, hb, hlt⟩ := hne
        have e1 : pop (coreC n f K (r + 1)) < pop (coreC n f K r) := by
          rw [pop_n (coreC_lt K (r + 1)) hG.1, pop_n (coreC_lt K r) hG.1]
          refine cn_lt (v := v) (fun i _ hi => ?_) hv ?_ hb
          · have hi : (rd n f K (coreC n f K r)).testBit i = true := hi
            rw [tb_rd, Bool.and_eq_true] at hi
            exact hi.1
          · show (rd n f K (coreC n f K r)).testBit v = false
            rw [tb_rd, hb]
            simp [hv, hlt]
        omega
theorem coreC_is (hG : Gr n f) (K : Nat) : isCore n f K (coreC n f K n) := by
  refine ⟨coreC_lt K n, ?_, fun X hX h => coreC_top hG hX h n⟩
  rcases coreC_end hG K n with h | h
  · exact h
  · intro v hv hb
    have h0 : pop (coreC n f K n) = 0 := by omega
    rw [pop_n (coreC_lt K n) hG.1] at h0
    rw [cn_0 h0 v hv] at hb
    cases hb
end GR
end
section
/-! edges within a set; the densest -/
theorem sm_sym {a : Nat → Nat → Nat} (h1 : ∀ u v, a u v = a v u) (h2 : ∀ v, a v v = 0) (n : Nat) : sm (fun v => sm (a v) n) n = 2 * sm (fun v => sm (a v) v) n := by
  induction n with
  | zero => rfl
  | succ n ih =>
    show sm (fun v => sm (a v) n + a v n) n + (sm (a n) n + a n n) = 2 * (sm (fun v => sm (a v) v) n + sm (a n) n)
    rw [sm_add, ih, h2, sm_congr (g := fun v => a v n) (g' := a n) (fun i _ => h1 i n)]
    omega
/-- twice the edges within a set, as both programs count them -/
def e2 (n : Nat) (f : Nat → Nat) (S : Nat) : Nat := sm (fun v => bif S.testBit v then dg f S v else 0) n
def ea (f : Nat → Nat) (S v u : Nat) : Nat := (S.testBit v && S.testBit u && (f v).testBit u).toNat
/-- the edges within a set -/
def e1 (n : Nat) (f : Nat → Nat) (S : Nat) : Nat := sm (fun v => sm (ea f S v) v) n
section DN
variable {n : Nat} {f : Nat → Nat}
theorem e2_ea (hG : Gr n f) (S : Nat) : e2 n f S = sm (fun v => sm (ea f S v) n) n := by
  refine sm_congr (fun v hv => ?_)
  cases hs : S.testBit v with
  | false => exact (sm_zero' (fun u _ => by simp [ea, hs])).symm
  | true =>
    show dg f S v = _
    rw [dg_n hG hv]
    refine sm_congr (fun u _ => ?_)
    simp only [ea, hs, Bool.true_and]
    rw [Bool.and_comm]
theorem ea_m (hG : Gr n f) (S : Nat) {u v : Nat} (hu : u < n) (hv : v < n) : ea f S u v = ea f S v u := by
  unfold ea
  rw [hG.2.2.2 u v hu hv, Bool.and_comm (S.testBit u)]
theorem e2_e1 (hG : Gr n f) (S : Nat) : e2 n f S = 2 * e1 n f S := by
  rw [e2_ea hG]
  have h := sm_sym (a := fun v u => bif decide (v < n) && decide (u < n) then ea f S v u else 0) (fun u v => by
    by_cases hu : u < n
    · by_cases hv : v < n
      · simp [hu, hv, ea_m hG S hu hv]
      · simp [hu, hv]
    · by_cases hv : v < n
      · simp [hu, hv]
      · simp [hu, hv]) (fun v => by
    by_cases hv : v < n
    · simp [hv, ea, hG.2.2.1 v hv]
    · simp [hv]) n
  rw [sm_congr (g := fun v => sm (ea f S v) n) (g' := fun v => sm (fun u => bif decide (v < n) && decide (u < n) then ea f S v u else 0) n) (fun v hv => sm_congr (fun u hu => by simp [hv, hu])), h]
  congr 1
  exact sm_congr (fun v hv => sm_congr (fun u hu => by simp [hv, show u < n by omega]))
theorem e1_half (hG : Gr n f) (S : Nat) : e2 n f S / 2 = e1 n f S := by rw [e2_e1 hG]; omega
theorem e1_super (A B : Nat) : e1 n f A + e1 n f B ≤ e1 n f (A ||| B) + e1 n f (A &&& B) := by
  unfold e1
  rw [← sm_add, ← sm_add]
  refine sm_le (fun v _ => ?_)
  rw [← sm_add, ← sm_add]
  refine sm_le (fun u _ => ?_)
  unfold ea
  simp only [Nat.testBit_or, Nat.testBit_and]
  cases A.testBit v <;> cases B.testBit v <;> cases A.testBit u <;> cases B.testBit u <;> cases (f v).testBit u <;> decide
theorem pop_or {A B : Nat} : pop (A ||| B) + pop (A &&& B) = pop A + pop B := by
  have := cn_or A.testBit B.testBit 12
  unfold pop
  rw [← this]
  congr 1
  · exact cn_congr (fun i _ => Nat.testBit_or ..)
  · exact cn_congr (fun i _ => Nat.testBit_and ..)
theorem e1_0 : e1 n f 0 = 0 := sm_zero' (fun v _ => sm_zero' (fun u _ => by simp [ea]))
theorem pop_0 : pop 0 = 0 := sm_zero' (fun i _ => by simp)
theorem pop_pos {S : Nat} (h : S < 2 ^ n) (hn : n ≤ 12) (h0 : S ≠ 0) : 0 < pop S := by
  rcases Nat.eq_zero_or_pos (pop S) with h1 | h1
  · exfalso
    apply h0
    refine tb_ext h (Nat.pow_pos (by decide)) (fun i hi => ?_)
    rw [pop_n h hn] at h1
    rw [cn_0 h1 i hi]; simp
  · exact h1
/-- e1 X / pop X at most e1 S / pop S -/
def le1 (n : Nat) (f : Nat → Nat) (X S : Nat) : Prop := e1 n f X * pop S ≤ e1 n f S * pop X
theorem fr_tr {a p b q c r : Nat} (h1 : a * q ≤ b * p) (h2 : b * r ≤ c * q) (hq : 0 < q) : a * r ≤ c * p := by
  have h3 : a * q * r ≤ b * p * r := Nat.mul_le_mul_right r h1
  have h4 : b * r * p ≤ c * q * p := Nat.mul_le_mul_right p h2
  have h5 : q * (a * r) ≤ q * (c * p) := by
    have e1 : q * (a * r) = a * q * r := by rw [Nat.mul_comm a q, Nat.mul_assoc]
    have e2 : q * (c * p) = c * q * p := by rw [Nat.mul_comm c q, Nat.mul_assoc]
    have e3 : b * p * r = b * r * p := Nat.mul_right_comm b p r
    omega
  exact Nat.le_of_mul_le_mul_left h5 hq
theorem le1_tr {X S T : Nat} (h1 : le1 n f X S) (h2 : le1 n f S T) (hs : 0 < pop S) : le1 n f X T := fr_tr h1 h2 hs
/-- THE DENSEST -/
def isDen (n : Nat) (f : Nat → Nat) (S : Nat) : Prop := S < 2 ^ n ∧ S ≠ 0 ∧ (∀ X, X < 2 ^ n → X ≠ 0 → le1 n f X S) ∧ ∀ X, X < 2 ^ n → X ≠ 0 → le1 n f S X → sub X S
theorem sub_eq {S T : Nat} (h1 : sub S T) (h2 : sub T S) : S = T := by
  apply Nat.eq_of_testBit_eq
  intro i
  cases hs : S.testBit i with
  | true => rw [h1 i hs]
  | false =>
    cases ht : T.testBit i with
    | false => rfl
    | true => rw [h2 i ht] at hs; cases hs
theorem den_one {S T : Nat} (h1 : isDen n f S) (h2 : isDen n f T) : S = T :=
  sub_eq (h2.2.2.2 S h1.1 h1.2.1 (h1.2.2.1 T h2.1 h2.2.1)) (h1.2.2.2 T h2.1 h2.2.1 (h2.2.2.1 S h1.1 h1.2.1))
/-- the union of two that are alike is no thinner, if what they share isn't denser -/
theorem le1_or {A B : Nat} (hA : 0 < pop A) (hB : 0 < pop B) (h1 : le1 n f A B) (h3 : e1 n f (A &&& B) * pop A ≤ e1 n f A * pop (A &&& B)) : le1 n f A (A ||| B) := by
  have hs := e1_super (n := n) (f := f) A B
  have hp := pop_or (A := A) (B := B)
  show e1 n f A * pop (A ||| B) ≤ e1 n f (A ||| B) * pop A
  have h1 : e1 n f A * pop B ≤ e1 n f B * pop A := h1
  generalize e1 n f A = a at *
  generalize e1 n f B = b at *
  generalize e1 n f (A ||| B) = u at *
  generalize e1 n f (A &&& B) = i at *
  generalize pop A = pa at *
  generalize pop B = pb at *
  generalize pop (A ||| B) = pu at *
  generalize pop (A &&& B) = pi at *
  have k1 : (a + b) * pa ≤ (u + i) * pa := Nat.mul_le_mul_right pa hs
  have k2 : a * (pu + pi) = a * (pa + pb) := by rw [hp]
  rw [Nat.add_mul, Nat.add_mul] at k1
  rw [Nat.mul_add, Nat.mul_add] at k2
  omega
end DN
end
section
/-! a node changes its side: edges within, edges out; the walk over all sets -/
theorem sm_pick {g : Nat → Nat} {n v : Nat} (hv : v < n) : sm (fun x => bif decide (x = v) then g x else 0) n = g v := by
  have h := sm_one (g := fun x => bif decide (x = v) then g x else 0) (g' := fun _ => 0) hv (fun i _ hi => by simp [hi])
  rw [sm_zero] at h
  simp at h
  exact h
def tg (S v : Nat) : Nat := S ^^^ 2 ^ v
theorem tb_tg (S v i : Nat) : (tg S v).testBit i = (S.testBit i ^^ decide (v = i)) := by rw [tg, Nat.testBit_xor, tb_pow]
theorem tg_lt {S v n : Nat} (h : S < 2 ^ n) (hv : v < n) : tg S v < 2 ^ n := Nat.xor_lt_two_pow h (Nat.pow_lt_pow_right (by decide) hv)
theorem tg_tg (S v : Nat) : tg (tg S v) v = S := by
  apply Nat.eq_of_testBit_eq
  intro i
  rw [tb_tg, tb_tg]
  cases S.testBit i <;> cases decide (v = i) <;> rfl
def ct (n : Nat) (f : Nat → Nat) (S : Nat) : Nat := sm (fun v => bif S.testBit v then pop (sd (f v) S) else 0) n
def ca (f : Nat → Nat) (S v u : Nat) : Nat := (S.testBit v && !S.testBit u && (f v).testBit u).toNat
section CT
variable {n : Nat} {f : Nat → Nat}
theorem pop_sd {S T : Nat} (h : S < 2 ^ n) (hn : n ≤ 12) : pop (sd S T) = cn (fun i => S.testBit i && !T.testBit i) n := by
  rw [pop_n (sd_lt h) hn]
  exact cn_congr (fun i _ => tb_sd S T i)
theorem ct_ca (hG : Gr n f) (S : Nat) : ct n f S = sm (fun v => sm (ca f S v) n) n := by
  refine sm_congr (fun v hv => ?_)
  cases hs : S.testBit v with
  | false => exact (sm_zero' (fun u _ => by simp [ca, hs])).symm
  | true =>
    show pop (sd (f v) S) = _
    rw [pop_sd (hG.2.1 v hv) hG.1]
    refine sm_congr (fun u _ => ?_)
    simp only [ca, hs, Bool.true_and]
    rw [Bool.and_comm]
theorem ct_not (hG : Gr n f) {S : Nat} (hS : S < 2 ^ n) : ct n f (sd (2 ^ n - 1) S) = ct n f S := by
  rw [ct_ca hG, ct_ca hG, sm_swap]
  refine sm_congr (fun v hv => sm_congr (fun u hu => ?_))
  unfold ca
  rw [tb_sd, tb_sd, tb_all, tb_all, hG.2.2.2 u v hu hv]
  simp [hu, hv]
  cases S.testBit u <;> cases S.testBit v <;> cases (f v).testBit u <;> rfl
theorem dg_tg (hG : Gr n f) {S v : Nat} (hv : v < n) : dg f (tg S v) v = dg f S v := by
  rw [dg_n hG hv, dg_n hG hv]
  refine cn_congr (fun i _ => ?_)
  rw [tb_tg]
  by_cases hi : v = i
  · subst hi; rw [hG.2.2.1 v hv]; rfl
  · simp [hi]
theorem dg_row (hG : Gr n f) {S v : Nat} (hv : v < n) : sm (fun x => (S.testBit x && (f x).testBit v).toNat) n = dg f S v := by
  rw [dg_n hG hv]
  refine sm_congr (fun x hx => ?_)
  rw [hG.2.2.2 x v hx hv, Bool.and_comm]
theorem e2_tg (hG : Gr n f) {S v : Nat} (hv : v < n) (h : S.testBit v = false) : e2 n f (tg S v) = e2 n f S + 2 * dg f S v := by
  rw [e2_ea hG, e2_ea hG]
  have key : ∀ x, x < n → ∀ y, y < n → ea f (tg S v) x y = ea f S x y + (bif decide (x = v) then (S.testBit y && (f y).testBit v).toNat else 0) + (bif decide (y = v) then (S.testBit x && (f x).testBit v).toNat else 0) := by
    intro x hx y hy
    unfold ea
    rw [tb_tg, tb_tg]
    by_cases h1 : x = v
    · subst h1
      by_cases h2 : y = x
      · subst h2; simp [h, hG.2.2.1 y hy]
      · have h3 : ¬ x = y := fun z => h2 z.symm
        rw [hG.2.2.2 x y hx hy]
        simp [h, h2, h3]
    · have h3 : ¬ v = x := fun z => h1 z.symm
      by_cases h2 : y = v
      · subst h2; simp [h, h1, h3]
      · have h4 : ¬ v = y := fun z => h2 z.symm
        simp [h1, h2, h3, h4]
  rw [sm_congr (fun x hx => sm_congr (fun y hy => key x hx y hy))]
  rw [sm_congr (g' := fun x => sm (ea f S x) n + (bif decide (x = v) then dg f S v else 0) + (S.testBit x && (f x).testBit v).toNat) (fun x hx => by
    rw [sm_add, sm_add, sm_pick hv]
    congr 2
    by_cases h1 : x = v
    · simp only [h1, decide_true, cond_true]; exact dg_row hG hv
    · simp only [h1, decide_false, cond_false]; exact sm_zero n)]
  rw [sm_add, sm_add, dg_row hG hv, sm_pick (g := fun _ => dg f S v) hv]
  omega
theorem e1_in (hG : Gr n f) {S v : Nat} (hv : v < n) (h : S.testBit v = false) : e1 n f (tg S v) = e1 n f S + dg f S v := by
  have := e2_tg hG hv h
  rw [e2_e1 hG, e2_e1 hG] at this
  omega
theorem e1_out (hG : Gr n f) {S v : Nat} (hv : v < n) (h : S.testBit v = true) : e1 n f S = e1 n f (tg S v) + dg f S v := by
  have := e1_in hG (S := tg S v) hv (by rw [tb_tg, h]; simp)
  rw [tg_tg, dg_tg hG hv] at this
  exact this
theorem dg_out (hG : Gr n f) {S v : Nat} (hv : v < n) : dg f S v + sm (fun y => (!S.testBit y && (f v).testBit y).toNat) n = pop (f v) := by
  rw [dg_n hG hv, pop_n (hG.2.1 v hv) hG.1]
  show sm _ n + sm _ n = sm _ n
  rw [← sm_add]
  refine sm_congr (fun y _ => ?_)
  dsimp only
  cases S.testBit y <;> cases (f v).testBit y <;> rfl
theorem ct_in (hG : Gr n f) {S v : Nat} (hv : v < n) (h : S.testBit v = false) : ct n f (tg S v) + 2 * dg f S v = ct n f S + pop (f v) := by
  rw [ct_ca hG, ct_ca hG]
  have key : ∀ x, x < n → ∀ y, y < n → ca f (tg S v) x y + (bif decide (y = v) then (S.testBit x && (f x).testBit v).toNat else 0) = ca f S x y + (bif decide (x = v) then (!S.testBit y && (f v).testBit y).toNat else 0) := by
    intro x hx y hy
    unfold ca
    rw [tb_tg, tb_tg]
    by_cases h1 : x = v
    · subst h1
      by_cases h2 : y = x
      · subst h2; simp [h, hG.2.2.1 y hy]
      · have h3 : ¬ x = y := fun z => h2 z.symm
        simp [h, h2, h3]
    · have h3 : ¬ v = x := fun z => h1 z.symm
      by_cases h2 : y = v
      · subst h2; simp [h, h1, h3]
      · have h4 : ¬ v = y := fun z => h2 z.symm
        simp [h1, h2, h3, h4]
  have s1 : sm (fun x => sm (ca f (tg S v) x) n) n + dg f S v = sm (fun x => sm (ca f S x) n) n + sm (fun y => (!S.testBit y && (f v).testBit y).toNat) n := by
    rw [← dg_row hG hv (S := S), ← sm_pick (g := fun _ => sm (fun y => (!S.testBit y && (f v).testBit y).toNat) n) hv, ← sm_add, ← sm_add]
    refine sm_congr (fun x hx => ?_)
    have k := sm_congr (fun y hy => key x hx y hy)
    rw [sm_add, sm_add, sm_pick hv] at k
    rw [k]
    congr 1
    by_cases h1 : x = v
    · simp only [h1, decide_true, cond_true]
    · simp only [h1, decide_false, cond_false]; exact sm_zero n
  have s2 := dg_out hG hv (S := S)
  omega
theorem ct_out (hG : Gr n f) {S v : Nat} (hv : v < n) (h : S.testBit v = true) : ct n f (tg S v) + pop (f v) = ct n f S + 2 * dg f S v := by
  have := ct_in hG (S := tg S v) hv (by rw [tb_tg, h]; simp)
  rw [tg_tg, dg_tg hG hv] at this
  omega
theorem ct_0 : ct n f 0 = 0 := sm_zero' (fun v _ => by simp)
end CT
/-- the least bit of a number below 4096 -/
def lsb (s : Nat) : Nat := bif s.testBit 0 then 0 else bif s.testBit 1 then 1 else bif s.testBit 2 then 2 else bif s.testBit 3 then 3 else bif s.testBit 4 then 4 else bif s.testBit 5 then 5 else bif s.testBit 6 then 6 else bif s.testBit 7 then 7 else bif s.testBit 8 then 8 else bif s.testBit 9 then 9 else bif s.testBit 10 then 10 else 11
def gray (s : Nat) : Nat := s ^^^ (s >>> 1)
def ginv (s : Nat) : Nat := s ^^^ (s >>> 1) ^^^ (s >>> 2) ^^^ (s >>> 3) ^^^ (s >>> 4) ^^^ (s >>> 5) ^^^ (s >>> 6) ^^^ (s >>> 7) ^^^ (s >>> 8) ^^^ (s >>> 9) ^^^ (s >>> 10) ^^^ (s >>> 11)
theorem gray_all : ((List.range 4096).all fun s => (s == 0 || (gray s == gray (s - 1) ^^^ 2 ^ lsb s && decide (2 ^ lsb s ≤ s) && s.testBit (lsb s))) && gray (ginv s) == s && (s == 0 || decide (0 < ginv s)) && (List.range 13).all fun n => decide (s < 2 ^ n → ginv s < 2 ^ n)) = true := by decide +kernel
theorem gray_at {s : Nat} (hs : s < 4096) : (s = 0 ∨ (gray s = tg (gray (s - 1)) (lsb s) ∧ 2 ^ lsb s ≤ s ∧ s.testBit (lsb s) = true)) ∧ gray (ginv s) = s ∧ (s = 0 ∨ 0 < ginv s) ∧ ∀ n, n ≤ 12 → s < 2 ^ n → ginv s < 2 ^ n := by
  have h := List.all_eq_true.mp gray_all s (List.mem_range.mpr hs)
  simp only [Bool.and_eq_true, Bool.or_eq_true, beq_iff_eq, decide_eq_true_eq, List.all_eq_true, List.mem_range] at h
  obtain ⟨⟨⟨h1, h2⟩, h3⟩, h4⟩ := h
  refine ⟨?_, h2, h3, fun n hn => h4 n (by omega)⟩
  rcases h1 with h1 | ⟨⟨h1, h5⟩, h6⟩
  · exact Or.inl h1
  · exact Or.inr ⟨h1, h5, h6⟩
theorem gray_0 : gray 0 = 0 := by decide
theorem gray_lt {s n : Nat} (h : s < 2 ^ n) : gray s < 2 ^ n := Nat.xor_lt_two_pow h (Nat.lt_of_le_of_lt (by rw [Nat.shiftRight_eq_div_pow]; exact Nat.div_le_self _ _) h)
theorem lsb_lt {s n : Nat} (hs : s < 2 ^ n) (h0 : s ≠ 0) (hn : n ≤ 12) : lsb s < n := by
  have h := (gray_at (Nat.lt_of_lt_of_le hs (p12 hn))).1
  rcases h with h | ⟨-, h, -⟩
  · exact absurd h h0
  · exact (Nat.pow_lt_pow_iff_right (by decide)).mp (Nat.lt_of_le_of_lt h hs)
end
section
/-! both ways of finding the densest find it; Euclid's way within fifty divisions -/
section DM
variable {n : Nat} {f : Nat → Nat}
def dmI (n : Nat) (f : Nat → Nat) (m b : Nat) : Prop := b < 2 ^ n ∧ b ≠ 0 ∧ ∀ X, 0 < X → X ≤ m → le1 n f X b ∧ (le1 n f b X → sub X b)
theorem sub_rf (S : Nat) : sub S S := fun _ h => h
theorem sub_or_l (A B : Nat) : sub A (A ||| B) := fun i h => by rw [Nat.testBit_or, h]; rfl
theorem sub_or_r (A B : Nat) : sub B (A ||| B) := fun i h => by rw [Nat.testBit_or, h]; simp
theorem sub_tr {A B C : Nat} (h1 : sub A B) (h2 : sub B C) : sub A C := fun i h => h2 i (h1 i h)
theorem le1_rf (S : Nat) : le1 n f S S := Nat.le_refl _
theorem dm_gt (hn : n ≤ 12) {m b : Nat} (h : dmI n f m b) (hs : m + 1 < 2 ^ n) (hx : e1 n f b * pop (m + 1) < e1 n f (m + 1) * pop b) : dmI n f (m + 1) (m + 1) := by
  obtain ⟨hb, hb0, hI⟩ := h
  have pb := pop_pos hb hn hb0
  refine ⟨hs, by omega, fun X h1 h2 => ?_⟩
  by_cases hX : X = m + 1
  · subst hX; exact ⟨le1_rf _, fun _ => sub_rf _⟩
  · obtain ⟨i1, i2⟩ := hI X h1 (by omega)
    refine ⟨le1_tr i1 (Nat.le_of_lt hx) pb, fun h3 => ?_⟩
    have pX := pop_pos (n := n) (S := X) (by omega) hn (by omega)
    have h4 : le1 n f (m + 1) b := le1_tr h3 i1 pX
    unfold le1 at h4
    omega
theorem dm_lt {m b : Nat} (h : dmI n f m b) (hx : e1 n f (m + 1) * pop b < e1 n f b * pop (m + 1)) : dmI n f (m + 1) b := by
  obtain ⟨hb, hb0, hI⟩ := h
  refine ⟨hb, hb0, fun X h1 h2 => ?_⟩
  by_cases hX : X = m + 1
  · subst hX
    refine ⟨Nat.le_of_lt hx, fun h3 => ?_⟩
    unfold le1 at h3
    omega
  · exact hI X h1 (by omega)
theorem and_sub {A B : Nat} (h : A &&& B = B) : sub B A := fun i hi => by
  rw [← h, Nat.testBit_and, Bool.and_eq_true] at hi
  exact hi.1
theorem dm_eq (hn : n ≤ 12) {m b : Nat} (h : dmI n f m b) (hs : m + 1 < 2 ^ n) (hx : e1 n f (m + 1) * pop b = e1 n f b * pop (m + 1)) : dmI n f (m + 1) (b ||| (m + 1)) := by
  obtain ⟨hb, hb0, hI⟩ := h
  have pb := pop_pos hb hn hb0
  have ps := pop_pos hs hn (by omega)
  have h3 : e1 n f (b &&& (m + 1)) * pop b ≤ e1 n f b * pop (b &&& (m + 1)) := by
    by_cases h0 : b &&& (m + 1) = 0
    · rw [h0, e1_0, pop_0]; omega
    · by_cases h1 : b &&& (m + 1) = m + 1
      · rw [h1]; exact Nat.le_of_eq hx
      · have h2 : b &&& (m + 1) ≤ m + 1 := Nat.and_le_right
        exact (hI _ (by omega) (by omega)).1
  have hu : le1 n f b (b ||| (m + 1)) := le1_or pb ps (Nat.le_of_eq hx.symm) h3
  refine ⟨Nat.or_lt_two_pow hb hs, fun h0 => hb0 (Nat.or_eq_zero_iff.mp h0).1, fun X h1 h2 => ?_⟩
  have pX := pop_pos (n := n) (S := X) (by omega) hn (by omega)
  by_cases hX : X = m + 1
  · subst hX
    exact ⟨le1_tr (Nat.le_of_eq hx) hu pb, fun _ => sub_or_r _ _⟩
  · obtain ⟨i1, i2⟩ := hI X h1 (by omega)
    refine ⟨le1_tr i1 hu pb, fun h4 => sub_tr (i2 ?_) (sub_or_l _ _)⟩
    exact le1_tr hu h4 (pop_pos (Nat.or_lt_two_pow hb hs) hn (fun h0 => hb0 (Nat.or_eq_zero_iff.mp h0).1))
theorem dm_end {b : Nat} (h : dmI n f (2 ^ n - 1) b) : isDen n f b := by
  obtain ⟨hb, hb0, hI⟩ := h
  exact ⟨hb, hb0, fun X h1 h2 => (hI X (by omega) (by omega)).1, fun X h1 h2 => (hI X (by omega) (by omega)).2⟩
/-- the walk of one node at a step: b is the best of those seen -/
def dcI (n : Nat) (f : Nat → Nat) (m b : Nat) : Prop := b < 2 ^ n ∧ b ≠ 0 ∧ ∀ i, 0 < i → i ≤ m → le1 n f (gray i) b ∧ (le1 n f b (gray i) → pop (gray i) ≤ pop b)
theorem gray_ne {s : Nat} (hs : s < 4096) (h : 0 < s) : gray s ≠ 0 := by
  intro h0
  have h1 := (gray_at hs).1
  rcases h1 with h1 | ⟨h1, h2, h3⟩
  · omega
  · have h4 : s ^^^ (s >>> 1) = 0 := h0
    have h5 : s = s >>> 1 := by
      apply Nat.eq_of_testBit_eq
      intro i
      have : (s ^^^ (s >>> 1)).testBit i = false := by rw [h4]; simp
      rw [Nat.testBit_xor] at this
      revert this
      cases s.testBit i <;> cases (s >>> 1).testBit i <;> simp
    rw [Nat.shiftRight_eq_div_pow] at h5
    omega
theorem dc_new (hn : n ≤ 12) {m b : Nat} (h : dcI n f m b) (hs : m + 1 < 2 ^ n) (hx : e1 n f b * pop (gray (m + 1)) < e1 n f (gray (m + 1)) * pop b ∨ (e1 n f (gray (m + 1)) * pop b = e1 n f b * pop (gray (m + 1)) ∧ pop b < pop (gray (m + 1)))) : dcI n f (m + 1) (gray (m + 1)) := by
  obtain ⟨hb, hb0, hI⟩ := h
  have pb := pop_pos hb hn hb0
  have h4 := p12 hn
  refine ⟨gray_lt hs, gray_ne (by omega) (by omega), fun i h1 h2 => ?_⟩
  by_cases hi : i = m + 1
  · subst hi; exact ⟨le1_rf _, fun _ => Nat.le_refl _⟩
  · obtain ⟨i1, i2⟩ := hI i h1 (by omega)
    have hle : le1 n f b (gray (m + 1)) := by
      unfold le1
      rcases hx with hx | ⟨hx, -⟩ <;> omega
    refine ⟨le1_tr i1 hle pb, fun h3 => ?_⟩
    have pX : 0 < pop (gray i) := pop_pos (n := n) (gray_lt (by omega)) hn (gray_ne (by omega) h1)
    have h5 : le1 n f (gray (m + 1)) b := le1_tr h3 i1 pX
    have h6 : le1 n f b (gray i) := le1_tr hle h3 (pop_pos (n := n) (gray_lt hs) hn (gray_ne (by omega) (by omega)))
    have h7 := i2 h6
    unfold le1 at h5
    rcases hx with hx | ⟨hx, h8⟩ <;> omega
theorem dc_old {m b : Nat} (h : dcI n f m b) (hx : ¬ (e1 n f b * pop (gray (m + 1)) < e1 n f (gray (m + 1)) * pop b ∨ (e1 n f (gray (m + 1)) * pop b = e1 n f b * pop (gray (m + 1)) ∧ pop b < pop (gray (m + 1))))) : dcI n f (m + 1) b := by
  obtain ⟨hb, hb0, hI⟩ := h
  refine ⟨hb, hb0, fun i h1 h2 => ?_⟩
  by_cases hi : i = m + 1
  · subst hi
    refine ⟨?_, fun h3 => ?_⟩
    · unfold le1; omega
    · unfold le1 at h3; omega
  · exact hI i h1 (by omega)
theorem dc_first (hn : n ≤ 12) (hs : 1 < 2 ^ n) : dcI n f 1 (gray 1) := by
  refine ⟨gray_lt hs, by decide, fun i h1 h2 => ?_⟩
  have : i = 1 := by omega
  subst this
  exact ⟨le1_rf _, fun _ => Nat.le_refl _⟩
theorem dc_end (hn : n ≤ 12) {b : Nat} (h : dcI n f (2 ^ n - 1) b) : isDen n f b := by
  obtain ⟨hb, hb0, hI⟩ := h
  have h4 := p12 hn
  have all : ∀ X, X < 2 ^ n → X ≠ 0 → le1 n f X b ∧ (le1 n f b X → pop X ≤ pop b) := by
    intro X hX hX0
    obtain ⟨-, g1, g2, g3⟩ := gray_at (s := X) (by omega)
    have g4 := g3 n hn hX
    have := hI (ginv X) (by omega) (by omega)
    rw [g1] at this
    exact this
  have pb := pop_pos hb hn hb0
  refine ⟨hb, hb0, fun X h1 h2 => (all X h1 h2).1, fun X h1 h2 h3 => ?_⟩
  have pX := pop_pos h1 hn h2
  have hU : b ||| X < 2 ^ n := Nat.or_lt_two_pow hb h1
  have hU0 : b ||| X ≠ 0 := fun h0 => hb0 (Nat.or_eq_zero_iff.mp h0).1
  have h5 : e1 n f (b &&& X) * pop b ≤ e1 n f b * pop (b &&& X) := by
    by_cases h0 : b &&& X = 0
    · rw [h0, e1_0, pop_0]; omega
    · exact (all _ (Nat.lt_of_le_of_lt Nat.and_le_left hb) h0).1
  have h6 := (all _ hU hU0).2 (le1_or pb pX h3 h5)
  have h7 : ∀ i, i < n → b.testBit i = (b ||| X).testBit i := by
    refine cn_eq (fun i _ hi => sub_or_l b X i hi) ?_
    rw [← pop_n hU hn, ← pop_n hb hn]
    exact h6
  intro i hi
  rcases Nat.lt_or_ge i n with h8 | h8
  · rw [h7 i h8]; exact sub_or_r b X i hi
  · rw [tb_hi h1 h8] at hi; cases hi
end DM
def eu : Nat → Nat × Nat → Nat × Nat
  | 0, q => q
  | s + 1, (a, b) => if b = 0 then (a, b) else eu s (b, a % b)
theorem eu_end (j : Nat) : ∀ (s a b : Nat), b < 2 ^ j → 2 * j ≤ s → eu s (a, b) = (Nat.gcd a b, 0) := by
  induction j with
  | zero =>
    intro s a b hb hs
    have h0 : b = 0 := by omega
    subst h0
    cases s with
    | zero => simp [eu]
    | succ s => simp [eu]
  | succ j ih =>
    intro s a b hb hs
    obtain ⟨s, rfl⟩ : ∃ t, s = t + 2 := ⟨s - 2, by omega⟩
    by_cases h0 : b = 0
    · subst h0; simp [eu]
    · have hr : a % b < b := Nat.mod_lt _ (by omega)
      by_cases h1 : a % b = 0
      · have e : eu (s + 2) (a, b) = (b, 0) := by
          simp only [eu, if_neg h0, h1]
          simp
        rw [e, Nat.gcd_comm, Nat.gcd_rec, h1, Nat.gcd_zero_left]
      · have hq : b % (a % b) < a % b := Nat.mod_lt _ (by omega)
        have hd : b % (a % b) + a % b ≤ b := by
          have h2 := Nat.div_add_mod b (a % b)
          have h3 : 1 ≤ b / (a % b) := (Nat.one_le_div_iff (by omega)).mpr (by omega)
          have h4 : a % b * 1 ≤ a % b * (b / (a % b)) := Nat.mul_le_mul_left _ h3
          omega
        have hp : 2 ^ (j + 1) = 2 * 2 ^ j := by rw [Nat.pow_succ, Nat.mul_comm]
        have e : eu (s + 2) (a, b) = eu s (a % b, b % (a % b)) := by
          simp only [eu, if_neg h0, if_neg h1]
        rw [e, ih s _ _ (by omega) (by omega)]
        congr 1
        rw [Nat.gcd_comm a b, Nat.gcd_rec b a, Nat.gcd_comm (a % b) b, Nat.gcd_comm (a % b), ← Nat.gcd_rec]
        exact Nat.gcd_comm _ _
end
section
/-! edges by their triangles -/
section TR
variable {n : Nat} {f : Nat → Nat}
def Fam (n : Nat) (f t : Nat → Nat) : Prop := (∀ v, v < n → sub (t v) (f v)) ∧ ∀ u v, u < n → v < n → (t u).testBit v = (t v).testBit u
def clT (n s : Nat) (t : Nat → Nat) : Prop := ∀ a b, a < n → b < n → (t a).testBit b = true → s ≤ pop (t a &&& t b)
def topT (n : Nat) (f : Nat → Nat) (s : Nat) (t : Nat → Nat) : Prop := Fam n f t ∧ ∀ t', Fam n f t' → clT n s t' → ∀ v, v < n → sub (t' v) (t v)
def isTr (n : Nat) (f : Nat → Nat) (s : Nat) (t : Nat → Nat) : Prop := topT n f s t ∧ clT n s t
def mem (n : Nat) (f : Nat → Nat) (s a b : Nat) : Prop := ∃ t', Fam n f t' ∧ clT n s t' ∧ (t' a).testBit b = true
theorem tr_mem {s a b : Nat} {t : Nat → Nat} (h : isTr n f s t) (ha : a < n) : (t a).testBit b = true ↔ mem n f s a b := by
  constructor
  · intro hb; exact ⟨t, h.1.1, h.2, hb⟩
  · rintro ⟨t', h1, h2, h3⟩
    exact h.1.2 t' h1 h2 a ha b h3
theorem fam_lt (hG : Gr n f) {t : Nat → Nat} (h : Fam n f t) {v : Nat} (hv : v < n) : t v < 2 ^ n := by
  have h1 := hG.2.1 v hv
  apply Nat.lt_pow_two_of_testBit
  intro i hi
  cases ht : (t v).testBit i with
  | false => rfl
  | true =>
    have := h.1 v hv i ht
    rw [tb_hi h1 hi] at this
    cases this
theorem pop_sub {A B m : Nat} (hA : A < 2 ^ m) (hB : B < 2 ^ m) (hm : m ≤ 12) (h : sub A B) : pop A ≤ pop B := by
  rw [pop_n hA hm, pop_n hB hm]
  exact cn_le (fun i _ hi => h i hi)
theorem sub_and {A B C D : Nat} (h1 : sub A C) (h2 : sub B D) : sub (A &&& B) (C &&& D) := fun i hi => by
  rw [Nat.testBit_and, Bool.and_eq_true] at hi ⊢
  exact ⟨h1 i hi.1, h2 i hi.2⟩
theorem and_lt {A B m : Nat} (hA : A < 2 ^ m) : A &&& B < 2 ^ m := Nat.lt_of_le_of_lt Nat.and_le_left hA
def rmE (t : Nat → Nat) (a b : Nat) : Nat → Nat := fun v => if v = a then sd (t a) (2 ^ b) else if v = b then sd (t b) (2 ^ a) else t v
theorem tb_rmE {t : Nat → Nat} {a b : Nat} (hab : a ≠ b) (v i : Nat) : (rmE t a b v).testBit i = ((t v).testBit i && !((decide (v = a) && decide (i = b)) || (decide (v = b) && decide (i = a)))) := by
  unfold rmE
  by_cases h1 : v = a
  · subst h1
    rw [if_pos rfl, tb_sd, tb_pow]
    have : ¬ v = b := hab
    simp [this, eq_comm]
  · rw [if_neg h1]
    by_cases h2 : v = b
    · subst h2
      rw [if_pos rfl, tb_sd, tb_pow]
      simp [h1, eq_comm]
    · rw [if_neg h2]; simp [h1, h2]
theorem top_rm (hG : Gr n f) {s a b : Nat} {t : Nat → Nat} (h : topT n f s t) (ha : a < n) (hb : b < n) (hab : a ≠ b) (hlt : pop (t a &&& t b) < s) : topT n f s (rmE t a b) := by
  obtain ⟨⟨h1, h2⟩, h3⟩ := h
  refine ⟨⟨fun v hv i hi => ?_, fun u v hu hv => ?_⟩, fun t' hF hc v hv i hi => ?_⟩
  · rw [tb_rmE hab, Bool.and_eq_true] at hi
    exact h1 v hv i hi.1
  · rw [tb_rmE hab, tb_rmE hab, h2 u v hu hv]
    congr 2
    rw [Bool.or_comm, Bool.and_comm (decide (u = b)), Bool.and_comm (decide (u = a))]
  · rw [tb_rmE hab, h3 t' hF hc v hv i hi]
    have hno : ¬ (t' a).testBit b = true := by
      intro hz
      have k1 := hc a b ha hb hz
      have k2 : pop (t' a &&& t' b) ≤ pop (t a &&& t b) := pop_sub (and_lt (fam_lt hG hF ha)) (and_lt (fam_lt hG ⟨h1, h2⟩ ha)) hG.1 (sub_and (h3 t' hF hc a ha) (h3 t' hF hc b hb))
      omega
    simp only [Bool.true_and, Bool.not_eq_true']
    cases hq : ((decide (v = a) && decide (i = b)) || (decide (v = b) && decide (i = a))) with
    | false => rfl
    | true =>
      exfalso
      simp only [Bool.or_eq_true, Bool.and_eq_true, decide_eq_true_eq] at hq
      rcases hq with ⟨rfl, rfl⟩ | ⟨rfl, rfl⟩
      · exact hno hi
      · exact hno (by rw [hF.2 i v ha hb]; exact hi)
def mt (n : Nat) (t : Nat → Nat) : Nat := sm (fun v => pop (t v)) n
theorem pop_rm {A b m : Nat} (hA : A < 2 ^ m) (hm : m ≤ 12) (hb : A.testBit b = true) : pop (sd A (2 ^ b)) + 1 = pop A := by
  have hbm : b < m := by
    rcases Nat.lt_or_ge b m with h | h
    · exact h
    · rw [tb_hi hA h] at hb; cases hb
  rw [pop_sd hA hm, pop_n hA hm]
  have e := sm_one (g := fun i => (A.testBit i && !(2 ^ b).testBit i).toNat) (g' := fun i => (A.testBit i).toNat) hbm (fun i _ hi => by
    have hz : ¬ b = i := fun z => hi z.symm
    simp [tb_pow, hz])
  simp only [tb_pow, hb, decide_true, Bool.not_true, Bool.and_false, Bool.toNat_false, Bool.toNat_true] at e
  show sm _ m + 1 = sm _ m
  simp only [tb_pow]
  exact e
theorem mt_rm (hG : Gr n f) {a b : Nat} {t : Nat → Nat} (h : Fam n f t) (ha : a < n) (hb : b < n) (hab : a ≠ b) (hz : (t a).testBit b = true) : mt n (rmE t a b) + 2 = mt n t := by
  have e1 := sm_one (g := fun v => pop (rmE t a b v)) (g' := fun v => if v = a then pop (t a) else pop (rmE t a b v)) ha (fun i _ hi => by simp [hi])
  have e2 := sm_one (g := fun v => if v = a then pop (t a) else pop (rmE t a b v)) (g' := fun v => pop (t v)) hb (fun i _ hi => by
    by_cases hia : i = a
    · subst hia; simp
    · simp only [hia, if_false, rmE, hi])
  have k1 := pop_rm (fam_lt hG h ha) hG.1 hz
  have k2 := pop_rm (fam_lt hG h hb) hG.1 (b := a) (by rw [h.2 b a hb ha]; exact hz)
  have hba : ¬ b = a := fun z => hab z.symm
  simp only [if_true, rmE, hba, if_false] at e1 e2
  show sm (fun v => pop (rmE t a b v)) n + 2 = sm (fun v => pop (t v)) n
  simp only [rmE] at *
  omega
theorem mt_le (hG : Gr n f) {t : Nat → Nat} (h : Fam n f t) : mt n t ≤ n * (n - 1) := by
  refine sm_bound (fun v hv => ?_)
  rw [pop_n (fam_lt hG h hv) hG.1]
  have k := cn_lt (p := (t v).testBit) (q := fun _ => true) (n := n) (v := v) (fun _ _ _ => rfl) hv (by
    cases ht : (t v).testBit v with
    | false => rfl
    | true => have := h.1 v hv v ht; rw [hG.2.2.1 v hv] at this; cases this) rfl
  have k2 := cn_n (fun _ => true) n
  omega
theorem mt_0 (hG : Gr n f) {t : Nat → Nat} (h : Fam n f t) (h0 : mt n t = 0) (s : Nat) : clT n s t := by
  intro a b ha hb hz
  have k := sm_ge (g := fun v => pop (t v)) ha
  have k2 : sm (fun v => pop (t v)) n = 0 := h0
  have k3 : pop (t a) = 0 := by omega
  rw [pop_n (fam_lt hG h ha) hG.1] at k3
  rw [cn_0 k3 b hb] at hz
  cases hz
theorem top_f (hG : Gr n f) (s : Nat) : topT n f s f := ⟨⟨fun _ _ _ h => h, hG.2.2.2⟩, fun t' h _ v hv => h.1 v hv⟩
theorem top_s {s : Nat} {t : Nat → Nat} (h : topT n f s t) : topT n f (s + 1) t := ⟨h.1, fun t' h1 h2 => h.2 t' h1 (fun a b ha hb hz => by have := h2 a b ha hb hz; omega)⟩
theorem mem_s {s a b : Nat} (h : mem n f (s + 1) a b) : mem n f s a b := by
  obtain ⟨t', h1, h2, h3⟩ := h
  exact ⟨t', h1, fun x y hx hy hz => by have := h2 x y hx hy hz; omega, h3⟩
theorem mem_n (hG : Gr n f) {s a b : Nat} (ha : a < n) (hb : b < n) (h : mem n f s a b) : s + 2 ≤ n := by
  obtain ⟨t', h1, h2, h3⟩ := h
  have k := h2 a b ha hb h3
  have na : ∀ v, v < n → (t' v).testBit v = false := fun v hv => by
    cases ht : (t' v).testBit v with
    | false => rfl
    | true => have := h1.1 v hv v ht; rw [hG.2.2.1 v hv] at this; cases this
  have hab : a ≠ b := fun z => by subst z; rw [na a ha] at h3; cases h3
  rw [pop_and (fam_lt hG h1 ha) hG.1] at k
  have k1 := cn_lt (p := fun i => (t' a).testBit i && (t' b).testBit i) (q := fun i => !decide (i = a)) (n := n) (v := b) (fun i _ hi => by
    by_cases hia : i = a
    · subst hia; rw [na i ha] at hi; simp at hi
    · simp [hia]) hb (by rw [na b hb]; simp) (by simp; exact fun z => hab z.symm)
  have k2 := cn_lt (p := fun i => !decide (i = a)) (q := fun _ => true) (n := n) (v := a) (fun _ _ _ => rfl) ha (by simp) rfl
  have k3 := cn_n (fun _ => true) n
  omega
/-- THE TRUSS NUMBER -/
def isTN (n : Nat) (f : Nat → Nat) (a b r : Nat) : Prop := 2 ≤ r ∧ (2 < r → mem n f (r - 2) a b) ∧ ¬ mem n f (r - 1) a b
theorem mem_le {s s' a b : Nat} (h : mem n f s a b) (hs : s' ≤ s) : mem n f s' a b := by
  obtain ⟨t', h1, h2, h3⟩ := h
  exact ⟨t', h1, fun x y hx hy hz => Nat.le_trans hs (h2 x y hx hy hz), h3⟩
theorem tn_one {a b r r' : Nat} (h : isTN n f a b r) (h' : isTN n f a b r') : r = r' := by
  obtain ⟨h1, h2, h3⟩ := h
  obtain ⟨g1, g2, g3⟩ := h'
  rcases Nat.lt_trichotomy r r' with h | h | h
  · exact absurd (mem_le (g2 (by omega)) (by omega)) h3
  · exact h
  · exact absurd (mem_le (h2 (by omega)) (by omega)) g3
end TR
end
section
/-! triangles: counted at each corner, and counted once -/
theorem sm_tri {a : Nat → Nat → Nat → Nat} (h1 : ∀ u v w, a u v w = a v u w) (h2 : ∀ u v w, a u v w = a u w v) (h3 : ∀ u w, a u u w = 0) (n : Nat) :
    sm (fun v => sm (fun x => sm (a v x) x) n) n = 3 * sm (fun z => sm (fun y => sm (a z y) y) z) n := by
  induction n with
  | zero => rfl
  | succ n ih =>
    show sm (fun v => sm (fun x => sm (a v x) x) n + sm (a v n) n) n + (sm (fun x => sm (a n x) x) n + sm (a n n) n) = 3 * (sm (fun z => sm (fun y => sm (a z y) y) z) n + sm (fun y => sm (a n y) y) n)
    rw [sm_add, ih]
    have e1 : sm (fun v => sm (a v n) n) n = sm (fun v => sm (a n v) n) n := sm_congr (fun v _ => sm_congr (fun y _ => h1 v n y))
    have e2 : sm (fun v => sm (a n v) n) n = 2 * sm (fun v => sm (a n v) v) n := sm_sym (fun u v => h2 n u v) (fun v => by rw [h1 n v v, h2 v n v, h3 v n]) n
    have e3 : sm (a n n) n = 0 := sm_zero' (fun y _ => h3 n y)
    rw [e1, e2, e3]
    omega
def tri (f : Nat → Nat) (a b c : Nat) : Bool := (f a).testBit b && (f a).testBit c && (f b).testBit c
/-- how many triangles, as the walk over a < b < c finds them -/
def tI (f : Nat → Nat) (a b c : Nat) : Nat := (decide (a < b) && decide (b < c) && tri f a b c).toNat
def tc (n : Nat) (f : Nat → Nat) : Nat := sm (fun a => sm (fun b => sm (tI f a b) n) n) n
section TI
variable {n : Nat} {f : Nat → Nat}
theorem sm_cut {g : Nat → Nat} {m k : Nat} (h : k ≤ m) : sm (fun x => bif decide (x < k) then g x else 0) m = sm g k := by
  rw [sm_ext h (fun i h1 _ => by simp [Nat.not_lt.mpr h1])]
  exact sm_congr (fun i hi => by simp [hi])
theorem tri_3 (hG : Gr n f) : sm (fun v => e1 n f (f v)) n = 3 * tc n f := by
  have key := sm_tri (a := fun v x y => (decide (v < n) && decide (x < n) && decide (y < n) && ((f v).testBit x && (f v).testBit y && (f x).testBit y)).toNat)
    (fun u v w => by
      by_cases h1 : u < n
      · by_cases h2 : v < n
        · by_cases h3 : w < n
          · simp only [h1, h2, h3, decide_true, Bool.true_and]
            rw [hG.2.2.2 u v h1 h2]
            cases (f v).testBit u <;> cases (f u).testBit w <;> cases (f v).testBit w <;> rfl
          · simp [h3]
        · simp [h2]
      · simp [h1])
    (fun u v w => by
      by_cases h1 : u < n
      · by_cases h2 : v < n
        · by_cases h3 : w < n
          · simp only [h1, h2, h3, decide_true, Bool.true_and]
            rw [hG.2.2.2 v w h2 h3]
            cases (f u).testBit v <;> cases (f u).testBit w <;> cases (f w).testBit v <;> rfl
          · simp [h3]
        · simp [h2]
      · simp [h1])
    (fun u w => by
      by_cases h1 : u < n
      · simp [hG.2.2.1 u h1]
      · simp [h1]) n
  have l : sm (fun v => e1 n f (f v)) n = sm (fun v => sm (fun x => sm (fun y => (decide (v < n) && decide (x < n) && decide (y < n) && ((f v).testBit x && (f v).testBit y && (f x).testBit y)).toNat) x) n) n := by
    refine sm_congr (fun v hv => ?_)
    unfold e1
    refine sm_congr (fun x hx => sm_congr (fun y hy => ?_))
    unfold ea
    simp [hv, hx, show y < n by omega]
  rw [l, key]
  congr 1
  -- largest first, to smallest first
  have r1 : sm (fun z => sm (fun y => sm (fun x => (decide (z < n) && decide (y < n) && decide (x < n) && ((f z).testBit y && (f z).testBit x && (f y).testBit x)).toNat) y) z) n = sm (fun z => sm (fun y => sm (fun x => tI f x y z) n) n) n := by
    refine sm_congr (fun z hz => ?_)
    rw [← sm_cut (g := fun y => sm (fun x => (decide (z < n) && decide (y < n) && decide (x < n) && ((f z).testBit y && (f z).testBit x && (f y).testBit x)).toNat) y) (Nat.le_of_lt hz)]
    refine sm_congr (fun y hy => ?_)
    by_cases h1 : y < z
    · simp only [h1, decide_true, cond_true]
      rw [← sm_cut (g := fun x => (decide (z < n) && decide (y < n) && decide (x < n) && ((f z).testBit y && (f z).testBit x && (f y).testBit x)).toNat) (Nat.le_of_lt hy)]
      refine sm_congr (fun x hx => ?_)
      unfold tI tri
      by_cases h2 : x < y
      · simp only [h1, h2, hx, hy, hz, decide_true, cond_true, Bool.true_and]
        rw [hG.2.2.2 z y hz hy, hG.2.2.2 z x hz hx, hG.2.2.2 y x hy hx]
        cases (f y).testBit z <;> cases (f x).testBit z <;> cases (f x).testBit y <;> rfl
      · simp [h2]
    · simp only [h1, decide_false, cond_false]
      exact (sm_zero' (fun x _ => by simp [tI, h1])).symm
  rw [r1]
  unfold tc
  -- z y x to x y z
  rw [sm_swap (fun z y => sm (fun x => tI f x y z) n) n n]
  rw [sm_congr (g' := fun y => sm (fun x => sm (fun z => tI f x y z) n) n) (fun y _ => sm_swap (fun z x => tI f x y z) n n)]
  exact sm_swap (fun y x => sm (fun z => tI f x y z) n) n n
end TI
end
section
/-! rows of degrees made graphs -/
def up {α : Type} (g : Nat → α) (v : Nat) (x : α) : Nat → α := fun i => if i = v then x else g i
theorem up_s {α : Type} (g : Nat → α) (v : Nat) (x : α) : up g v x v = x := if_pos rfl
theorem up_n {α : Type} (g : Nat → α) (v : Nat) (x : α) {i : Nat} (h : i ≠ v) : up g v x i = g i := if_neg h
/-- who wants most of the first k, none of P, the least of several -/
def wm (w : Nat → Nat) (P : Nat) : Nat → Option Nat
  | 0 => none
  | k + 1 => match wm w P k with
    | none => bif !P.testBit k && decide (0 < w k) then some k else none
    | some b => bif !P.testBit k && decide (w b < w k) then some k else some b
theorem wm_in {w : Nat → Nat} {P k u : Nat} (h : wm w P k = some u) : u < k ∧ P.testBit u = false ∧ 0 < w u := by
  induction k generalizing u with
  | zero => cases h
  | succ k ih =>
    rw [wm] at h
    split at h
    · rename_i hk
      cases hc : (!P.testBit k && decide (0 < w k)) with
      | false => rw [hc] at h; cases h
      | true =>
        rw [hc] at h
        cases h
        simp only [Bool.and_eq_true, Bool.not_eq_true', decide_eq_true_eq] at hc
        exact ⟨by omega, hc.1, hc.2⟩
    · rename_i b hk
      obtain ⟨h1, h2, h3⟩ := ih hk
      cases hc : (!P.testBit k && decide (w b < w k)) with
      | false =>
        rw [hc] at h
        cases h
        exact ⟨by omega, h2, h3⟩
      | true =>
        rw [hc] at h
        cases h
        simp only [Bool.and_eq_true, Bool.not_eq_true', decide_eq_true_eq] at hc
        exact ⟨by omega, hc.1, by omega⟩
theorem wm_none {w : Nat → Nat} {P k : Nat} (h : wm w P k = none) : ∀ v, v < k → P.testBit v = false → w v = 0 := by
  induction k with
  | zero => intro v hv; omega
  | succ k ih =>
    rw [wm] at h
    split at h
    · rename_i hk
      cases hc : (!P.testBit k && decide (0 < w k)) with
      | true => rw [hc] at h; cases h
      | false =>
        intro v hv hp
        by_cases hvk : v = k
        · subst hvk
          rw [hp] at hc
          simp at hc
          exact hc
        · exact ih hk v (by omega) hp
    · rename_i b hk
      exfalso
      cases hc : (!P.testBit k && decide (w b < w k)) with
      | true => rw [hc] at h; cases h
      | false => rw [hc] at h; cases h
theorem wm_congr {w w' : Nat → Nat} {P k : Nat} (h : ∀ v, v < k → P.testBit v = false → w v = w' v) : wm w P k = wm w' P k := by
  induction k with
  | zero => rfl
  | succ k ih =>
    have e := ih (fun v hv => h v (by omega))
    rw [wm, wm, ← e]
    cases hp : P.testBit k with
    | true => split <;> simp
    | false =>
      have hk := h k (by omega) hp
      split
      · rw [hk]
      · rename_i b hb
        obtain ⟨b1, b2, -⟩ := wm_in hb
        rw [hk, h b (by omega) b2]
def ju (md : Nat → Nat) (v u : Nat) : Nat → Nat := up (up md v (md v ||| 2 ^ u)) u (up md v (md v ||| 2 ^ u) u ||| 2 ^ v)
/-- a node is joined with l others that want most -/
def sv (q : Nat) : Nat → Nat → (Nat → Nat) → (Nat → Nat) → Nat → Option ((Nat → Nat) × (Nat → Nat))
  | 0, _, w, md, _ => some (w, md)
  | l + 1, v, w, md, P => match wm w P q with
    | none => none
    | some u => sv q l v (up w u (w u - 1)) (ju md v u) (P ||| 2 ^ u)
/-- r rounds of making -/
def mkr (q : Nat) : Nat → (Nat → Nat) → (Nat → Nat) → Option ((Nat → Nat) × (Nat → Nat))
  | 0, w, md => some (w, md)
  | r + 1, w, md => match wm w 0 q with
    | none => some (w, md)
    | some v => match sv q (w v) v (up w v 0) md (2 ^ v) with
      | none => none
      | some s => mkr q r s.1 s.2
end
