/-! edges by their triangles -/
section TR
variable {n : Nat} {f : Nat → Nat}
def Fam (n : Nat) (f t : Nat → Nat) : Prop := (∀ v, v < n → sub (t v) (f v)) ∧ ∀ u v, u < n → v < n → (t u).testBit v = (t v).testBit u
def clT (n s : Nat) (t : Nat → Nat) : Prop := ∀ a b, a < n → b < n → (t a).testBit b = true → s ≤ pop (t a &&& t b)
def topT (n : Nat) (f : Nat → Nat) (s : Nat) (t : Nat → Nat) : Prop := Fam n f t ∧ ∀ t', Fam n f t' → clT n s t' → ∀ v, v < n → sub (t' v) (t v)
def isTr (n : Nat) (f : Nat → Nat) (s : Nat) (t : Nat → Nat) : Prop := topT n f s t ∧ clT n s t
def mem (n : Nat) (f : Nat → Nat) (s a b : Nat) : Prop := ∃ t', Fam n f t' ∧ clT n s t' ∧ (t' a).testBit b = true
theorem tr_mem {s a b : Nat} {t : Nat → Nat} (h : isTr n f s t) (ha : a < n) : (t a).testBit b = true ↔ mem n f s a b := by
  constructor
  · intro hb; exact ⟨t, h.1.1, h.2, hb⟩
  · rintro ⟨t', h1, h2, h3⟩
    exact h.1.2 t' h1 h2 a ha b h3
theorem fam_lt (hG : Gr n f) {t : Nat → Nat} (h : Fam n f t) {v : Nat} (hv : v < n) : t v < 2 ^ n := by
  have h1 := hG.2.1 v hv
  apply Nat.lt_pow_two_of_testBit
  intro i hi
  cases ht : (t v).testBit i with
  | false => rfl
  | true =>
    have := h.1 v hv i ht
    rw [tb_hi h1 hi] at this
    cases this
theorem pop_sub {A B m : Nat} (hA : A < 2 ^ m) (hB : B < 2 ^ m) (hm : m ≤ 12) (h : sub A B) : pop A ≤ pop B := by
  rw [pop_n hA hm, pop_n hB hm]
  exact cn_le (fun i _ hi => h i hi)
theorem sub_and {A B C D : Nat} (h1 : sub A C) (h2 : sub B D) : sub (A &&& B) (C &&& D) := fun i hi => by
  rw [Nat.testBit_and, Bool.and_eq_true] at hi ⊢
  exact ⟨h1 i hi.1, h2 i hi.2⟩
theorem and_lt {A B m : Nat} (hA : A < 2 ^ m) : A &&& B < 2 ^ m := Nat.lt_of_le_of_lt Nat.and_le_left hA
def rmE (t : Nat → Nat) (a b : Nat) : Nat → Nat := fun v => if v = a then sd (t a) (2 ^ b) else if v = b then sd (t b) (2 ^ a) else t v
theorem tb_rmE {t : Nat → Nat} {a b : Nat} (hab : a ≠ b) (v i : Nat) : (rmE t a b v).testBit i = ((t v).testBit i && !((decide (v = a) && decide (i = b)) || (decide (v = b) && decide (i = a)))) := by
  unfold rmE
  by_cases h1 : v = a
  · subst h1
    rw [if_pos rfl, tb_sd, tb_pow]
    have : ¬ v = b := hab
    simp [this, eq_comm]
  · rw [if_neg h1]
    by_cases h2 : v = b
    · subst h2
      rw [if_pos rfl, tb_sd, tb_pow]
      simp [h1, eq_comm]
    · rw [if_neg h2]; simp [h1, h2]
theorem top_rm (hG : Gr n f) {s a b : Nat} {t : Nat → Nat} (h : topT n f s t) (ha : a < n) (hb : b < n) (hab : a ≠ b) (hlt : pop (t a &&& t b) < s) : topT n f s (rmE t a b) := by
  obtain ⟨⟨h1, h2⟩, h3⟩ := h
  refine ⟨⟨fun v hv i hi => ?_, fun u v hu hv => ?_⟩, fun t' hF hc v hv i hi => ?_⟩
  · rw [tb_rmE hab, Bool.and_eq_true] at hi
    exact h1 v hv i hi.1
  · rw [tb_rmE hab, tb_rmE hab, h2 u v hu hv]
    congr 2
    rw [Bool.or_comm, Bool.and_comm (decide (u = b)), Bool.and_comm (decide (u = a))]
  · rw [tb_rmE hab, h3 t' hF hc v hv i hi]
    have hno : ¬ (t' a).testBit b = true := by
      intro hz
      have k1 := hc a b ha hb hz
      have k2 : pop (t' a &&& t' b) ≤ pop (t a &&& t b) := pop_sub (and_lt (fam_lt hG hF ha)) (and_lt (fam_lt hG ⟨h1, h2⟩ ha)) hG.1 (sub_and (h3 t' hF hc a ha) (h3 t' hF hc b hb))
      omega
    simp only [Bool.true_and, Bool.not_eq_true']
    cases hq : ((decide (v = a) && decide (i = b)) || (decide (v = b) && decide (i = a))) with
    | false => rfl
    | true =>
      exfalso
      simp only [Bool.or_eq_true, Bool.and_eq_true, decide_eq_true_eq] at hq
      rcases hq with ⟨rfl, rfl⟩ | ⟨rfl, rfl⟩
      · exact hno hi
      · exact hno (by rw [hF.2 i v ha hb]; exact hi)
def mt (n : Nat) (t : Nat → Nat) : Nat := sm (fun v => pop (t v)) n
theorem pop_rm {A b m : Nat} (hA : A < 2 ^ m) (hm : m ≤ 12) (hb : A.testBit b = true) : pop (sd A (2 ^ b)) + 1 = pop A := by
  have hbm : b < m := by
    rcases Nat.lt_or_ge b m with h | h
    · exact h
    · rw [tb_hi hA h] at hb; cases hb
  rw [pop_sd hA hm, pop_n hA hm]
  have e := sm_one (g := fun i => (A.testBit i && !(2 ^ b).testBit i).toNat) (g' := fun i => (A.testBit i).toNat) hbm (fun i _ hi => by
    have hz : ¬ b = i := fun z => hi z.symm
    simp [tb_pow, hz])
  simp only [tb_pow, hb, decide_true, Bool.not_true, Bool.and_false, Bool.toNat_false, Bool.toNat_true] at e
  show sm _ m + 1 = sm _ m
  simp only [tb_pow]
  exact e
theorem mt_rm (hG : Gr n f) {a b : Nat} {t : Nat → Nat} (h : Fam n f t) (ha : a < n) (hb : b < n) (hab : a ≠ b) (hz : (t a).testBit b = true) : mt n (rmE t a b) + 2 = mt n t := by
  have e1 := sm_one (g := fun v => pop (rmE t a b v)) (g' := fun v => if v = a then pop (t a) else pop (rmE t a b v)) ha (fun i _ hi => by simp [hi])
  have e2 := sm_one (g := fun v => if v = a then pop (t a) else pop (rmE t a b v)) (g' := fun v => pop (t v)) hb (fun i _ hi => by
    by_cases hia : i = a
    · subst hia; simp
    · simp only [hia, if_false, rmE, hi])
  have k1 := pop_rm (fam_lt hG h ha) hG.1 hz
  have k2 := pop_rm (fam_lt hG h hb) hG.1 (b := a) (by rw [h.2 b a hb ha]; exact hz)
  have hba : ¬ b = a := fun z => hab z.symm
  simp only [if_true, rmE, hba, if_false] at e1 e2
  show sm (fun v => pop (rmE t a b v)) n + 2 = sm (fun v => pop (t v)) n
  simp only [rmE] at *
  omega
theorem mt_le (hG : Gr n f) {t : Nat → Nat} (h : Fam n f t) : mt n t ≤ n * (n - 1) := by
  refine sm_bound (fun v hv => ?_)
  rw [pop_n (fam_lt hG h hv) hG.1]
  have k := cn_lt (p := (t v).testBit) (q := fun _ => true) (n := n) (v := v) (fun _ _ _ => rfl) hv (by
    cases ht : (t v).testBit v with
    | false => rfl
    | true => have := h.1 v hv v ht; rw [hG.2.2.1 v hv] at this; cases this) rfl
  have k2 := cn_n (fun _ => true) n
  omega
theorem mt_0 (hG : Gr n f) {t : Nat → Nat} (h : Fam n f t) (h0 : mt n t = 0) (s : Nat) : clT n s t := by
  intro a b ha hb hz
  have k := sm_ge (g := fun v => pop (t v)) ha
  have k2 : sm (fun v => pop (t v)) n = 0 := h0
  have k3 : pop (t a) = 0 := by omega
  rw [pop_n (fam_lt hG h ha) hG.1] at k3
  rw [cn_0 k3 b hb] at hz
  cases hz
theorem top_f (hG : Gr n f) (s : Nat) : topT n f s f := ⟨⟨fun _ _ _ h => h, hG.2.2.2⟩, fun t' h _ v hv => h.1 v hv⟩
theorem top_s {s : Nat} {t : Nat → Nat} (h : topT n f s t) : topT n f (s + 1) t := ⟨h.1, fun t' h1 h2 => h.2 t' h1 (fun a b ha hb hz => by have := h2 a b ha hb hz; omega)⟩
theorem mem_s {s a b : Nat} (h : mem n f (s + 1) a b) : mem n f s a b := by
  obtain ⟨t', h1, h2, h3⟩ := h
  exact ⟨t', h1, fun x y hx hy hz => by have := h2 x y hx hy hz; omega, h3⟩
theorem mem_n (hG : Gr n f) {s a b : Nat} (ha : a < n) (hb : b < n) (h : mem n f s a b) : s + 2 ≤ n := by
  obtain ⟨t', h1, h2, h3⟩ := h
  have k := h2 a b ha hb h3
  have na : ∀ v, v < n → (t' v).testBit v = false := fun v hv => by
    cases ht : (t' v).testBit v with
    | false => rfl
    | true => have := h1.1 v hv v ht; rw [hG.2.2.1 v hv] at this; cases this
  have hab : a ≠ b := fun z => by subst z; rw [na a ha] at h3; cases h3
  rw [pop_and (fam_lt hG h1 ha) hG.1] at k
  have k1 := cn_lt (p := fun i => (t' a).testBit i && (t' b).testBit i) (q := fun i => !decide (i = a)) (n := n) (v := b) (fun i _ hi => by
    by_cases hia : i = a
    · subst hia; rw [na i ha] at hi; simp at hi
    · simp [hia]) hb (by rw [na b hb]; simp) (by simp; exact fun z => hab z.symm)
  have k2 := cn_lt (p := fun i => !decide (i = a)) (q := fun _ => true) (n := n) (v := a) (fun _ _ _ => rfl) ha (by simp) rfl
  have k3 := cn_n (fun _ => true) n
  omega
/-- THE TRUSS NUMBER -/
def isTN (n : Nat) (f : Nat → Nat) (a b r : Nat) : Prop := 2 ≤ r ∧ (2 < r → mem n f (r - 2) a b) ∧ ¬ mem n f (r - 1) a b
theorem mem_le {s s' a b : Nat} (h : mem n f s a b) (hs : s' ≤ s) : mem n f s' a b := by
  obtain ⟨t', h1, h2, h3⟩ := h
  exact ⟨t', h1, fun x y hx hy hz => Nat.le_trans hs (h2 x y hx hy hz), h3⟩
theorem tn_one {a b r r' : Nat} (h : isTN n f a b r) (h' : isTN n f a b r') : r = r' := by
  obtain ⟨h1, h2, h3⟩ := h
  obtain ⟨g1, g2, g3⟩ := h'
  rcases Nat.lt_trichotomy r r' with h | h | h
  · exact absurd (mem_le (g2 (by omega)) (by omega)) h3
  · exact h
  · exact absurd (mem_le (h2 (by omega)) (by omega)) g3
end TR
