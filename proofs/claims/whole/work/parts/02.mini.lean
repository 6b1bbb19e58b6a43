/-! a small machine over the kit's rows: ints, one made object with its int arrays; calls by contract. 'm_wp' is its weakest precondition, evaluated by unfolding alone; 'm_con' makes a method's contract out of it. -/
abbrev mV : Type := Int32 ⊕ Nat
abbrev mC : Type := List mV ⊕ (Nat × (Nat → Int32))
abbrev mH : Type := List mC
abbrev mL : Type := List (Option mV)
abbrev mG : Type := Nat × mL × List mV × mH
abbrev mT : Type := List mV → mH → (Option Int32 → mH → Prop) → Prop
/-- an instruction: itself, the next pc, its target, its constant, whether a loop begins there -/
abbrev mE : Type := Jvm.ClassFile.Instr × Nat × Nat × Int32 × Bool
def m_lk {α : Type} : List (Nat × α) → Nat → Option α
  | [], _ => none
  | q :: t, i => bif Nat.beq q.1 i then some q.2 else m_lk t i
def m_gl : mL → Nat → Option mV
  | [], _ => none
  | x :: _, 0 => x
  | _ :: t, i + 1 => m_gl t i
def m_at {α : Type} : List α → Nat → Option α
  | [], _ => none
  | x :: _, 0 => some x
  | _ :: t, i + 1 => m_at t i
def m_pop : Nat → List mV → List mV → Option (List mV × List mV)
  | 0, acc, S => some (acc, S)
  | _ + 1, _, [] => none
  | k + 1, acc, v :: S => m_pop k (v :: acc) S
def m_ps (r : Option Int32) (S : List mV) : List mV := match r with
  | some x => .inl x :: S
  | none => S
def m_st (fld : List (Nat × Nat)) (fpt : List (Nat × Nat × Bool)) (kon : List (Nat × Int32)) (call : List (Nat × Bool × Nat × mT)) (rb : Nat) (R : Option Int32 → mH → Prop) (i : Jvm.ClassFile.Instr) (nx tg : Nat) (cv : Int32) (L : mL) (S : List mV) (h : mH) (K : Nat → mL → List mV → mH → Prop) : Prop :=
  match i with
  | .iconst _ => K nx L (.inl cv :: S) h
  | .bipush _ => K nx L (.inl cv :: S) h
  | .sipush _ => K nx L (.inl cv :: S) h
  | .ldc x => match m_lk kon x with
    | some v => K nx L (.inl v :: S) h
    | none => False
  | .ldc_w x => match m_lk kon x with
    | some v => K nx L (.inl v :: S) h
    | none => False
  | .iload_n j => match m_gl L j.val with
    | some (.inl x) => K nx L (.inl x :: S) h
    | _ => False
  | .iload j => match m_gl L j with
    | some (.inl x) => K nx L (.inl x :: S) h
    | _ => False
  | .aload_n j => match m_gl L j.val with
    | some (.inr x) => K nx L (.inr x :: S) h
    | _ => False
  | .aload j => match m_gl L j with
    | some (.inr x) => K nx L (.inr x :: S) h
    | _ => False
  | .istore_n j => match S with
    | .inl x :: S => K nx (L.set j.val (some (.inl x))) S h
    | _ => False
  | .istore j => match S with
    | .inl x :: S => K nx (L.set j (some (.inl x))) S h
    | _ => False
  | .iinc j _ => match m_gl L j with
    | some (.inl x) => ∀ z, z = x + cv → K nx (L.set j (some (.inl z))) S h
    | _ => False
  | .iadd => match S with
    | .inl y :: .inl x :: S => (∀ z, z = x + y → K nx L (.inl z :: S) h)
    | _ => False
  | .isub => match S with
    | .inl y :: .inl x :: S => (∀ z, z = x - y → K nx L (.inl z :: S) h)
    | _ => False
  | .imul => match S with
    | .inl y :: .inl x :: S => (∀ z, z = x * y → K nx L (.inl z :: S) h)
    | _ => False
  | .iand => match S with
    | .inl y :: .inl x :: S => (∀ z, z = x &&& y → K nx L (.inl z :: S) h)
    | _ => False
  | .ior => match S with
    | .inl y :: .inl x :: S => (∀ z, z = x ||| y → K nx L (.inl z :: S) h)
    | _ => False
  | .ixor => match S with
    | .inl y :: .inl x :: S => (∀ z, z = x ^^^ y → K nx L (.inl z :: S) h)
    | _ => False
  | .ishl => match S with
    | .inl y :: .inl x :: S => (∀ z, z = x <<< (y &&& 31) → K nx L (.inl z :: S) h)
    | _ => False
  | .ishr => match S with
    | .inl y :: .inl x :: S => (∀ z, z = x >>> (y &&& 31) → K nx L (.inl z :: S) h)
    | _ => False
  | .iushr => match S with
    | .inl y :: .inl x :: S => (∀ z, z = (x.toUInt32 >>> (y.toUInt32 &&& Int32.toUInt32 31)).toInt32 → K nx L (.inl z :: S) h)
    | _ => False
  | .ineg => match S with
    | .inl x :: S => (∀ z, z = -x → K nx L (.inl z :: S) h)
    | _ => False
  | .idiv => match S with
    | .inl y :: .inl x :: S => ¬ y = 0 ∧ (∀ z, z = x / y → K nx L (.inl z :: S) h)
    | _ => False
  | .irem => match S with
    | .inl y :: .inl x :: S => ¬ y = 0 ∧ (∀ z, z = x - x / y * y → K nx L (.inl z :: S) h)
    | _ => False
  | .dup => match S with
    | v :: S => K nx L (v :: v :: S) h
    | _ => False
  | .dup2 => match S with
    | v :: w :: S => K nx L (v :: w :: v :: w :: S) h
    | _ => False
  | .dup_x1 => match S with
    | v :: w :: S => K nx L (v :: w :: v :: S) h
    | _ => False
  | .dup_x2 => match S with
    | v :: w :: z :: S => K nx L (v :: w :: z :: v :: S) h
    | _ => False
  | .pop => match S with
    | _ :: S => K nx L S h
    | _ => False
  | .goto _ => K tg L S h
  | .ifCond .eq _ => match S with
    | .inl x :: S => (x = 0 → K tg L S h) ∧ (¬ x = 0 → K nx L S h)
    | _ => False
  | .ifCond .ne _ => match S with
    | .inl x :: S => (¬ x = 0 → K tg L S h) ∧ (x = 0 → K nx L S h)
    | _ => False
  | .ifCond .lt _ => match S with
    | .inl x :: S => (x < 0 → K tg L S h) ∧ (¬ x < 0 → K nx L S h)
    | _ => False
  | .ifCond .ge _ => match S with
    | .inl x :: S => (0 ≤ x → K tg L S h) ∧ (¬ 0 ≤ x → K nx L S h)
    | _ => False
  | .ifCond .gt _ => match S with
    | .inl x :: S => (0 < x → K tg L S h) ∧ (¬ 0 < x → K nx L S h)
    | _ => False
  | .ifCond .le _ => match S with
    | .inl x :: S => (x ≤ 0 → K tg L S h) ∧ (¬ x ≤ 0 → K nx L S h)
    | _ => False
  | .if_icmp .eq _ => match S with
    | .inl y :: .inl x :: S => (x = y → K tg L S h) ∧ (¬ x = y → K nx L S h)
    | _ => False
  | .if_icmp .ne _ => match S with
    | .inl y :: .inl x :: S => (¬ x = y → K tg L S h) ∧ (x = y → K nx L S h)
    | _ => False
  | .if_icmp .lt _ => match S with
    | .inl y :: .inl x :: S => (x < y → K tg L S h) ∧ (¬ x < y → K nx L S h)
    | _ => False
  | .if_icmp .ge _ => match S with
    | .inl y :: .inl x :: S => (y ≤ x → K tg L S h) ∧ (¬ y ≤ x → K nx L S h)
    | _ => False
  | .if_icmp .gt _ => match S with
    | .inl y :: .inl x :: S => (y < x → K tg L S h) ∧ (¬ y < x → K nx L S h)
    | _ => False
  | .if_icmp .le _ => match S with
    | .inl y :: .inl x :: S => (x ≤ y → K tg L S h) ∧ (¬ x ≤ y → K nx L S h)
    | _ => False
  | .getfield x => match S with
    | .inr j :: S => match m_at h j with
      | some (.inl fs) => match m_lk fld x with
        | some k => match m_at fs k with
          | some v => K nx L (v :: S) h
          | none => False
        | none => False
      | _ => False
    | _ => False
  | .putfield x => match S with
    | .inl v :: .inr j :: S => match m_at h j with
      | some (.inl fs) => match m_lk fpt x with
        | some (k, b) => match m_at fs k with
          | some _ => bif b then ((v = 0 ∨ v = 1) ∧ K nx L S (h.set j (.inl (fs.set k (.inl v))))) else K nx L S (h.set j (.inl (fs.set k (.inl v))))
          | none => False
        | none => False
      | _ => False
    | _ => False
  | .iaload => match S with
    | .inl i :: .inr j :: S => match m_at h j with
      | some (.inr (n, f)) => vp_in i n ∧ (∀ z, z = f i.toNatClampNeg → K nx L (.inl z :: S) h)
      | _ => False
    | _ => False
  | .iastore => match S with
    | .inl x :: .inl i :: .inr j :: S => match m_at h j with
      | some (.inr (n, f)) => vp_in i n ∧ K nx L S (h.set j (.inr (n, upd f i.toNatClampNeg x)))
      | _ => False
    | _ => False
  | .invokestatic x => match m_lk call x with
    | some (true, na, T) => match m_pop na [] S with
      | some (as, rest) => bif Nat.ble rest.length 8 then T as h (fun r h' => K nx L (m_ps r rest) h') else False
      | none => False
    | _ => False
  | .invokevirtual x => match m_lk call x with
    | some (false, na, T) => match m_pop na [] S with
      | some (as, rest) => bif Nat.ble rest.length 8 then T as h (fun r h' => K nx L (m_ps r rest) h') else False
      | none => False
    | _ => False
  | .ireturn => match S with
    | [.inl v] => match rb with
      | 0 => R (some v) h
      | 1 => (v = 0 ∨ v = 1) ∧ R (some v) h
      | _ => False
    | _ => False
  | .return_ => match S with
    | [] => match rb with
      | 2 => R none h
      | _ => False
    | _ => False
  | _ => False
def m_wp (code : List (Nat × mE)) (fld : List (Nat × Nat)) (fpt : List (Nat × Nat × Bool)) (kon : List (Nat × Int32)) (call : List (Nat × Bool × Nat × mT)) (rb : Nat) (V : mG → Prop) (R : Option Int32 → mH → Prop) : Nat → Bool → Nat → mL → List mV → mH → Prop
  | 0, _, pc, L, S, h => V (pc, L, S, h)
  | n + 1, st, pc, L, S, h => match m_lk code pc with
    | none => False
    | some (i, nx, tg, cv, hd) => bif st && hd then V (pc, L, S, h) else m_st fld fpt kon call rb R i nx tg cv L S h (fun pc' L' S' h' => m_wp code fld fpt kon call rb V R n true pc' L' S' h')
/-- what a method's walk has to show: for every V that is closed under the walk, V at the entry -/
def m_cl (code : List (Nat × mE)) (fld : List (Nat × Nat)) (fpt : List (Nat × Nat × Bool)) (kon : List (Nat × Int32)) (call : List (Nat × Bool × Nat × mT)) (rb : Nat) (R : Option Int32 → mH → Prop) (V : mG → Prop) : Prop :=
  ∀ (n pc : Nat) (L : mL) (S : List mV) (h : mH), m_wp code fld fpt kon call rb V R n false pc L S h → V (pc, L, S, h)
def m_len : Jvm.ClassFile.Instr → Nat
  | .bipush _ => 2
  | .sipush _ => 3
  | .ldc _ => 2
  | .ldc_w _ => 3
  | .iload _ => 2
  | .aload _ => 2
  | .istore _ => 2
  | .iinc _ _ => 3
  | .goto _ => 3
  | .ifCond _ _ => 3
  | .if_icmp _ _ => 3
  | .getfield _ => 3
  | .putfield _ => 3
  | .invokestatic _ => 3
  | .invokevirtual _ => 3
  | _ => 1
def m_side (nL pc : Nat) (i : Jvm.ClassFile.Instr) (tg : Nat) (cv : Int32) : Bool := match i with
  | .iconst v => decide (Int32.ofInt v = cv)
  | .bipush v => decide ((Int8.ofInt v).toInt32 = cv)
  | .sipush v => decide ((Int16.ofInt v).toInt32 = cv)
  | .istore_n j => decide (j.val < nL)
  | .istore j => decide (j < nL)
  | .iinc j v => decide (Int32.ofInt v = cv) && decide (j < nL)
  | .goto o => decide ((pc : Int) + o = (tg : Int))
  | .ifCond _ o => decide ((pc : Int) + o = (tg : Int))
  | .if_icmp _ o => decide ((pc : Int) + o = (tg : Int))
  | _ => true
def m_ok (cc : ByteArray) (nL : Nat) (q : Nat × mE) : Bool := decide (decode cc q.1 = .ok (q.2.1, m_len q.2.1)) && (decide (q.2.2.1 = q.1 + m_len q.2.1) && m_side nL q.1 q.2.1 q.2.2.2.1 q.2.2.2.2.1)
theorem m_lk_mem {α : Type} {l : List (Nat × α)} {i : Nat} {a : α} (h : m_lk l i = some a) : (i, a) ∈ l := by
  induction l with
  | nil => cases h
  | cons q t ih =>
    obtain ⟨j, b⟩ := q
    unfold m_lk at h
    cases e : Nat.beq j i with
    | true =>
      rw [e] at h
      have hji : j = i := Nat.eq_of_beq_eq_true e
      subst hji
      cases h
      exact List.mem_cons_self
    | false =>
      rw [e] at h
      exact List.mem_cons_of_mem _ (ih h)
theorem m_at_eq {α : Type} (l : List α) (i : Nat) : m_at l i = l[i]? := by
  induction l generalizing i with
  | nil => rfl
  | cons x t ih => cases i with
    | zero => rfl
    | succ i => exact ih i
theorem m_pop_eq {k : Nat} {acc S as rest : List mV} (h : m_pop k acc S = some (as, rest)) : acc.reverse ++ S = as.reverse ++ rest ∧ as.length = k + acc.length := by
  induction k generalizing acc S with
  | zero => cases h; exact ⟨rfl, (Nat.zero_add _).symm⟩
  | succ k ih => cases S with
    | nil => cases h
    | cons v S =>
      obtain ⟨h1, h2⟩ := ih (acc := v :: acc) h
      refine ⟨?_, ?_⟩
      · rw [← h1]; simp
      · rw [h2]; simp; omega
-- the cells and the locals as the kit has them
def m_v (ad : Nat → Nat) : mV → Value
  | .inl x => .int x
  | .inr j => .ref (ad j)
def m_e (ci : Nat) (cA : ClassId) (ad : Nat → Nat) : mC → va_E
  | .inl fs => .inr (ci, fs.map (m_v ad))
  | .inr a => .inl (cA, a.1, .inl a.2)
def m_w (ci : Nat) (cA : ClassId) (ad : Nat → Nat) (h : mH) : va_W := h.mapIdx (fun j q => (ad j, m_e ci cA ad q))
theorem m_w_get {ci : Nat} {cA : ClassId} {ad : Nat → Nat} {h : mH} {j : Nat} {q : mC} (e : m_at h j = some q) : (m_w ci cA ad h)[j]? = some (ad j, m_e ci cA ad q) := by
  rw [m_at_eq] at e
  simp [m_w, e]
theorem m_w_set {ci : Nat} {cA : ClassId} {ad : Nat → Nat} {h : mH} {j : Nat} {q : mC} : (m_w ci cA ad h).set j (ad j, m_e ci cA ad q) = m_w ci cA ad (h.set j q) := by
  simp [m_w]
theorem m_cat (ad : Nat → Nat) (v : mV) : (m_v ad v).category = 1 := by cases v <;> rfl
def m_lv (ad : Nat → Nat) : Nat → mL → List (Nat × Value)
  | _, [] => []
  | i, none :: t => m_lv ad (i + 1) t
  | i, some v :: t => (i, m_v ad v) :: m_lv ad (i + 1) t
theorem m_lv_mem {ad : Nat → Nat} {q : Nat × Value} {L : mL} : ∀ {i : Nat}, q ∈ m_lv ad i L ↔ ∃ (k : Nat) (v : mV), q.1 = i + k ∧ m_gl L k = some v ∧ q.2 = m_v ad v := by
  induction L with
  | nil => intro i; simp [m_lv, m_gl]
  | cons x t ih =>
    intro i
    cases x with
    | none =>
      simp only [m_lv]
      rw [ih]
      constructor
      · rintro ⟨k, v, h1, h2, h3⟩
        exact ⟨k + 1, v, by omega, h2, h3⟩
      · rintro ⟨k, v, h1, h2, h3⟩
        cases k with
        | zero => cases h2
        | succ k => exact ⟨k, v, by omega, h2, h3⟩
    | some w =>
      simp only [m_lv, List.mem_cons]
      rw [ih]
      constructor
      · rintro (rfl | ⟨k, v, h1, h2, h3⟩)
        · exact ⟨0, w, rfl, rfl, rfl⟩
        · exact ⟨k + 1, v, by omega, h2, h3⟩
      · rintro ⟨k, v, h1, h2, h3⟩
        cases k with
        | zero =>
          left
          have : w = v := Option.some.inj h2
          subst this
          exact Prod.ext h1 h3
        | succ k => right; exact ⟨k, v, by omega, h2, h3⟩
theorem m_gl_set {L : mL} {i j : Nat} {w : mV} : m_gl (L.set i (some w)) j = if j = i ∧ i < L.length then some w else m_gl L j := by
  induction L generalizing i j with
  | nil => simp [m_gl]
  | cons x t ih =>
    cases i with
    | zero => cases j with
      | zero => simp [m_gl]
      | succ j => simp [m_gl]
    | succ i => cases j with
      | zero => simp [m_gl]
      | succ j =>
        simp only [List.set_cons_succ, m_gl, ih, List.length_cons]
        by_cases hc : j = i ∧ i < t.length
        · rw [if_pos hc, if_pos ⟨by omega, by omega⟩]
        · rw [if_neg hc, if_neg (by omega)]
theorem m_gl_lt {L : mL} {k : Nat} {v : mV} (h : m_gl L k = some v) : k < L.length := by
  induction L generalizing k with
  | nil => cases h
  | cons x t ih => cases k with
    | zero => simp
    | succ k =>
      have := ih h
      simp
      omega
theorem m_has {ad : Nat → Nat} {ls : Array Slot} {nL : Nat} {L : mL} (h : lv_has ls nL (m_lv ad 0 L)) {i : Nat} {v : mV} (e : m_gl L i = some v) : ls[i]? = some (.val (m_v ad v)) :=
  h.2.2 (i, m_v ad v) (m_lv_mem.mpr ⟨i, v, (Nat.zero_add i).symm, e, rfl⟩)
theorem m_lvsub {ls : Array Slot} {nL : Nat} {l l' : List (Nat × Value)} (h : lv_has ls nL l) (hs : ∀ q ∈ l', q ∈ l) : lv_has ls nL l' := ⟨h.1, h.2.1, fun q hq => h.2.2 q (hs q hq)⟩
theorem m_lvset {ad : Nat → Nat} {ls : Array Slot} {nL i : Nat} {L : mL} {w : mV} {u : Value} (hu : u = m_v ad w) (h : lv_has ls nL ((i, u) :: (m_lv ad 0 L).filter (fun q => !(q.1 == i) && !(q.1 + 1 == i && q.2.category == 2)))) : lv_has ls nL (m_lv ad 0 (L.set i (some w))) := by
  refine m_lvsub h (fun q hq => ?_)
  obtain ⟨k, v, h1, h2, h3⟩ := m_lv_mem.mp hq
  rw [m_gl_set] at h2
  have hk : q.1 = k := by omega
  by_cases hc : k = i ∧ i < L.length
  · rw [if_pos hc] at h2
    have : w = v := Option.some.inj h2
    subst this
    rw [List.mem_cons]
    left
    exact Prod.ext (by rw [hk, hc.1]) (by rw [h3, hu])
  · rw [if_neg hc] at h2
    by_cases hki : k = i
    · have hlt : i < L.length := by rw [← hki]; exact m_gl_lt h2
      exact absurd ⟨hki, hlt⟩ hc
    · rw [List.mem_cons]
      right
      rw [List.mem_filter]
      refine ⟨m_lv_mem.mpr ⟨k, v, h1, h2, h3⟩, ?_⟩
      have h4 : q.2.category = 1 := by rw [h3]; exact m_cat ad v
      simp [hk, hki, h4]
