/-! both ways of finding the densest find it; Euclid's way within fifty divisions -/
section DM
variable {n : Nat} {f : Nat → Nat}
def dmI (n : Nat) (f : Nat → Nat) (m b : Nat) : Prop := b < 2 ^ n ∧ b ≠ 0 ∧ ∀ X, 0 < X → X ≤ m → le1 n f X b ∧ (le1 n f b X → sub X b)
theorem sub_rf (S : Nat) : sub S S := fun _ h => h
theorem sub_or_l (A B : Nat) : sub A (A ||| B) := fun i h => by rw [Nat.testBit_or, h]; rfl
theorem sub_or_r (A B : Nat) : sub B (A ||| B) := fun i h => by rw [Nat.testBit_or, h]; simp
theorem sub_tr {A B C : Nat} (h1 : sub A B) (h2 : sub B C) : sub A C := fun i h => h2 i (h1 i h)
theorem le1_rf (S : Nat) : le1 n f S S := Nat.le_refl _
theorem dm_gt (hn : n ≤ 12) {m b : Nat} (h : dmI n f m b) (hs : m + 1 < 2 ^ n) (hx : e1 n f b * pop (m + 1) < e1 n f (m + 1) * pop b) : dmI n f (m + 1) (m + 1) := by
  obtain ⟨hb, hb0, hI⟩ := h
  have pb := pop_pos hb hn hb0
  refine ⟨hs, by omega, fun X h1 h2 => ?_⟩
  by_cases hX : X = m + 1
  · subst hX; exact ⟨le1_rf _, fun _ => sub_rf _⟩
  · obtain ⟨i1, i2⟩ := hI X h1 (by omega)
    refine ⟨le1_tr i1 (Nat.le_of_lt hx) pb, fun h3 => ?_⟩
    have pX := pop_pos (n := n) (S := X) (by omega) hn (by omega)
    have h4 : le1 n f (m + 1) b := le1_tr h3 i1 pX
    unfold le1 at h4
    omega
theorem dm_lt {m b : Nat} (h : dmI n f m b) (hx : e1 n f (m + 1) * pop b < e1 n f b * pop (m + 1)) : dmI n f (m + 1) b := by
  obtain ⟨hb, hb0, hI⟩ := h
  refine ⟨hb, hb0, fun X h1 h2 => ?_⟩
  by_cases hX : X = m + 1
  · subst hX
    refine ⟨Nat.le_of_lt hx, fun h3 => ?_⟩
    unfold le1 at h3
    omega
  · exact hI X h1 (by omega)
theorem and_sub {A B : Nat} (h : A &&& B = B) : sub B A := fun i hi => by
  rw [← h, Nat.testBit_and, Bool.and_eq_true] at hi
  exact hi.1
theorem dm_eq (hn : n ≤ 12) {m b : Nat} (h : dmI n f m b) (hs : m + 1 < 2 ^ n) (hx : e1 n f (m + 1) * pop b = e1 n f b * pop (m + 1)) : dmI n f (m + 1) (b ||| (m + 1)) := by
  obtain ⟨hb, hb0, hI⟩ := h
  have pb := pop_pos hb hn hb0
  have ps := pop_pos hs hn (by omega)
  have h3 : e1 n f (b &&& (m + 1)) * pop b ≤ e1 n f b * pop (b &&& (m + 1)) := by
    by_cases h0 : b &&& (m + 1) = 0
    · rw [h0, e1_0, pop_0]; omega
    · by_cases h1 : b &&& (m + 1) = m + 1
      · rw [h1]; exact Nat.le_of_eq hx
      · have h2 : b &&& (m + 1) ≤ m + 1 := Nat.and_le_right
        exact (hI _ (by omega) (by omega)).1
  have hu : le1 n f b (b ||| (m + 1)) := le1_or pb ps (Nat.le_of_eq hx.symm) h3
  refine ⟨Nat.or_lt_two_pow hb hs, fun h0 => hb0 (Nat.or_eq_zero_iff.mp h0).1, fun X h1 h2 => ?_⟩
  have pX := pop_pos (n := n) (S := X) (by omega) hn (by omega)
  by_cases hX : X = m + 1
  · subst hX
    exact ⟨le1_tr (Nat.le_of_eq hx) hu pb, fun _ => sub_or_r _ _⟩
  · obtain ⟨i1, i2⟩ := hI X h1 (by omega)
    refine ⟨le1_tr i1 hu pb, fun h4 => sub_tr (i2 ?_) (sub_or_l _ _)⟩
    exact le1_tr hu h4 (pop_pos (Nat.or_lt_two_pow hb hs) hn (fun h0 => hb0 (Nat.or_eq_zero_iff.mp h0).1))
theorem dm_end {b : Nat} (h : dmI n f (2 ^ n - 1) b) : isDen n f b := by
  obtain ⟨hb, hb0, hI⟩ := h
  exact ⟨hb, hb0, fun X h1 h2 => (hI X (by omega) (by omega)).1, fun X h1 h2 => (hI X (by omega) (by omega)).2⟩
/-- the walk of one node at a step: b is the best of those seen -/
def dcI (n : Nat) (f : Nat → Nat) (m b : Nat) : Prop := b < 2 ^ n ∧ b ≠ 0 ∧ ∀ i, 0 < i → i ≤ m → le1 n f (gray i) b ∧ (le1 n f b (gray i) → pop (gray i) ≤ pop b)
theorem gray_ne {s : Nat} (hs : s < 4096) (h : 0 < s) : gray s ≠ 0 := by
  intro h0
  have h1 := (gray_at hs).1
  rcases h1 with h1 | ⟨h1, h2, h3⟩
  · omega
  · have h4 : s ^^^ (s >>> 1) = 0 := h0
    have h5 : s = s >>> 1 := by
      apply Nat.eq_of_testBit_eq
      intro i
      have : (s ^^^ (s >>> 1)).testBit i = false := by rw [h4]; simp
      rw [Nat.testBit_xor] at this
      revert this
      cases s.testBit i <;> cases (s >>> 1).testBit i <;> simp
    rw [Nat.shiftRight_eq_div_pow] at h5
    omega
theorem dc_new (hn : n ≤ 12) {m b : Nat} (h : dcI n f m b) (hs : m + 1 < 2 ^ n) (hx : e1 n f b * pop (gray (m + 1)) < e1 n f (gray (m + 1)) * pop b ∨ (e1 n f (gray (m + 1)) * pop b = e1 n f b * pop (gray (m + 1)) ∧ pop b < pop (gray (m + 1)))) : dcI n f (m + 1) (gray (m + 1)) := by
  obtain ⟨hb, hb0, hI⟩ := h
  have pb := pop_pos hb hn hb0
  have h4 := p12 hn
  refine ⟨gray_lt hs, gray_ne (by omega) (by omega), fun i h1 h2 => ?_⟩
  by_cases hi : i = m + 1
  · subst hi; exact ⟨le1_rf _, fun _ => Nat.le_refl _⟩
  · obtain ⟨i1, i2⟩ := hI i h1 (by omega)
    have hle : le1 n f b (gray (m + 1)) := by
      unfold le1
      rcases hx with hx | ⟨hx, -⟩ <;> omega
    refine ⟨le1_tr i1 hle pb, fun h3 => ?_⟩
    have pX : 0 < pop (gray i) := pop_pos (n := n) (gray_lt (by omega)) hn (gray_ne (by omega) h1)
    have h5 : le1 n f (gray (m + 1)) b := le1_tr h3 i1 pX
    have h6 : le1 n f b (gray i) := le1_tr hle h3 (pop_pos (n := n) (gray_lt hs) hn (gray_ne (by omega) (by omega)))
    have h7 := i2 h6
    unfold le1 at h5
    rcases hx with hx | ⟨hx, h8⟩ <;> omega
theorem dc_old {m b : Nat} (h : dcI n f m b) (hx : ¬ (e1 n f b * pop (gray (m + 1)) < e1 n f (gray (m + 1)) * pop b ∨ (e1 n f (gray (m + 1)) * pop b = e1 n f b * pop (gray (m + 1)) ∧ pop b < pop (gray (m + 1))))) : dcI n f (m + 1) b := by
  obtain ⟨hb, hb0, hI⟩ := h
  refine ⟨hb, hb0, fun i h1 h2 => ?_⟩
  by_cases hi : i = m + 1
  · subst hi
    refine ⟨?_, fun h3 => ?_⟩
    · unfold le1; omega
    · unfold le1 at h3; omega
  · exact hI i h1 (by omega)
theorem dc_first (hn : n ≤ 12) (hs : 1 < 2 ^ n) : dcI n f 1 (gray 1) := by
  refine ⟨gray_lt hs, by decide, fun i h1 h2 => ?_⟩
  have : i = 1 := by omega
  subst this
  exact ⟨le1_rf _, fun _ => Nat.le_refl _⟩
theorem dc_end (hn : n ≤ 12) {b : Nat} (h : dcI n f (2 ^ n - 1) b) : isDen n f b := by
  obtain ⟨hb, hb0, hI⟩ := h
  have h4 := p12 hn
  have all : ∀ X, X < 2 ^ n → X ≠ 0 → le1 n f X b ∧ (le1 n f b X → pop X ≤ pop b) := by
    intro X hX hX0
    obtain ⟨-, g1, g2, g3⟩ := gray_at (s := X) (by omega)
    have g4 := g3 n hn hX
    have := hI (ginv X) (by omega) (by omega)
    rw [g1] at this
    exact this
  have pb := pop_pos hb hn hb0
  refine ⟨hb, hb0, fun X h1 h2 => (all X h1 h2).1, fun X h1 h2 h3 => ?_⟩
  have pX := pop_pos h1 hn h2
  have hU : b ||| X < 2 ^ n := Nat.or_lt_two_pow hb h1
  have hU0 : b ||| X ≠ 0 := fun h0 => hb0 (Nat.or_eq_zero_iff.mp h0).1
  have h5 : e1 n f (b &&& X) * pop b ≤ e1 n f b * pop (b &&& X) := by
    by_cases h0 : b &&& X = 0
    · rw [h0, e1_0, pop_0]; omega
    · exact (all _ (Nat.lt_of_le_of_lt Nat.and_le_left hb) h0).1
  have h6 := (all _ hU hU0).2 (le1_or pb pX h3 h5)
  have h7 : ∀ i, i < n → b.testBit i = (b ||| X).testBit i := by
    refine cn_eq (fun i _ hi => sub_or_l b X i hi) ?_
    rw [← pop_n hU hn, ← pop_n hb hn]
    exact h6
  intro i hi
  rcases Nat.lt_or_ge i n with h8 | h8
  · rw [h7 i h8]; exact sub_or_r b X i hi
  · rw [tb_hi h1 h8] at hi; cases hi
end DM
def eu : Nat → Nat × Nat → Nat × Nat
  | 0, q => q
  | s + 1, (a, b) => if b = 0 then (a, b) else eu s (b, a % b)
theorem eu_end (j : Nat) : ∀ (s a b : Nat), b < 2 ^ j → 2 * j ≤ s → eu s (a, b) = (Nat.gcd a b, 0) := by
  induction j with
  | zero =>
    intro s a b hb hs
    have h0 : b = 0 := by omega
    subst h0
    cases s with
    | zero => simp [eu]
    | succ s => simp [eu]
  | succ j ih =>
    intro s a b hb hs
    obtain ⟨s, rfl⟩ : ∃ t, s = t + 2 := ⟨s - 2, by omega⟩
    by_cases h0 : b = 0
    · subst h0; simp [eu]
    · have hr : a % b < b := Nat.mod_lt _ (by omega)
      by_cases h1 : a % b = 0
      · have e : eu (s + 2) (a, b) = (b, 0) := by
          simp only [eu, if_neg h0, h1]
          simp
        rw [e, Nat.gcd_comm, Nat.gcd_rec, h1, Nat.gcd_zero_left]
      · have hq : b % (a % b) < a % b := Nat.mod_lt _ (by omega)
        have hd : b % (a % b) + a % b ≤ b := by
          have h2 := Nat.div_add_mod b (a % b)
          have h3 : 1 ≤ b / (a % b) := (Nat.one_le_div_iff (by omega)).mpr (by omega)
          have h4 : a % b * 1 ≤ a % b * (b / (a % b)) := Nat.mul_le_mul_left _ h3
          omega
        have hp : 2 ^ (j + 1) = 2 * 2 ^ j := by rw [Nat.pow_succ, Nat.mul_comm]
        have e : eu (s + 2) (a, b) = eu s (a % b, b % (a % b)) := by
          simp only [eu, if_neg h0, if_neg h1]
        rw [e, ih s _ _ (by omega) (by omega)]
        congr 1
        rw [Nat.gcd_comm a b, Nat.gcd_rec b a, Nat.gcd_comm (a % b) b, Nat.gcd_comm (a % b), ← Nat.gcd_rec]
        exact Nat.gcd_comm _ _
