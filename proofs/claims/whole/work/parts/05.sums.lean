/-! sums, counts, bits -/
def sm (g : Nat → Nat) : Nat → Nat
  | 0 => 0
  | n + 1 => sm g n + g n
theorem sm_congr {g g' : Nat → Nat} {n : Nat} (h : ∀ i, i < n → g i = g' i) : sm g n = sm g' n := by
  induction n with
  | zero => rfl
  | succ n ih =>
    show sm g n + g n = sm g' n + g' n
    rw [ih (fun i hi => h i (by omega)), h n (by omega)]
theorem sm_le {g g' : Nat → Nat} {n : Nat} (h : ∀ i, i < n → g i ≤ g' i) : sm g n ≤ sm g' n := by
  induction n with
  | zero => exact Nat.le_refl _
  | succ n ih =>
    have h1 := ih (fun i hi => h i (by omega))
    have h2 := h n (by omega)
    show sm g n + g n ≤ sm g' n + g' n
    omega
theorem sm_add (g g' : Nat → Nat) (n : Nat) : sm (fun i => g i + g' i) n = sm g n + sm g' n := by
  induction n with
  | zero => rfl
  | succ n ih =>
    show sm (fun i => g i + g' i) n + (g n + g' n) = sm g n + g n + (sm g' n + g' n)
    rw [ih]; omega
theorem sm_mul (c : Nat) (g : Nat → Nat) (n : Nat) : sm (fun i => c * g i) n = c * sm g n := by
  induction n with
  | zero => rfl
  | succ n ih =>
    show sm (fun i => c * g i) n + c * g n = c * (sm g n + g n)
    rw [ih, Nat.mul_add]
theorem sm_zero (n : Nat) : sm (fun _ => 0) n = 0 := by
  induction n with
  | zero => rfl
  | succ n ih => exact ih
theorem sm_zero' {g : Nat → Nat} {n : Nat} (h : ∀ i, i < n → g i = 0) : sm g n = 0 := (sm_congr h).trans (sm_zero n)
theorem sm_swap (g : Nat → Nat → Nat) (n m : Nat) : sm (fun i => sm (g i) m) n = sm (fun j => sm (fun i => g i j) n) m := by
  induction n with
  | zero => exact (sm_zero m).symm
  | succ n ih =>
    show sm (fun i => sm (g i) m) n + sm (g n) m = sm (fun j => sm (fun i => g i j) n + g n j) m
    rw [ih, ← sm_add]
theorem sm_const (c n : Nat) : sm (fun _ => c) n = n * c := by
  induction n with
  | zero => simp [sm]
  | succ n ih =>
    show sm (fun _ => c) n + c = (n + 1) * c
    rw [ih, Nat.succ_mul]
theorem sm_bound {g : Nat → Nat} {n c : Nat} (h : ∀ i, i < n → g i ≤ c) : sm g n ≤ n * c := by
  rw [← sm_const]; exact sm_le h
/-- one place changed -/
theorem sm_one {g g' : Nat → Nat} {n v : Nat} (hv : v < n) (h : ∀ i, i < n → i ≠ v → g i = g' i) : sm g n + g' v = sm g' n + g v := by
  induction n with
  | zero => omega
  | succ n ih =>
    show sm g n + g n + g' v = sm g' n + g' n + g v
    by_cases hn : v = n
    · subst hn
      rw [sm_congr (g := g) (g' := g') (fun i hi => h i (by omega) (by omega))]
      omega
    · have h1 := ih (by omega) (fun i hi => h i (by omega))
      have h2 := h n (by omega) (fun z => hn z.symm)
      omega
theorem sm_ge {g : Nat → Nat} {n v : Nat} (hv : v < n) : g v ≤ sm g n := by
  induction n with
  | zero => omega
  | succ n ih =>
    show g v ≤ sm g n + g n
    by_cases hn : v = n
    · subst hn; omega
    · have := ih (by omega); omega
theorem sm_ext {g : Nat → Nat} {n m : Nat} (h : n ≤ m) (hz : ∀ i, n ≤ i → i < m → g i = 0) : sm g m = sm g n := by
  induction m with
  | zero => have : n = 0 := by omega
            subst this; rfl
  | succ m ih =>
    by_cases hm : n = m + 1
    · rw [hm]
    · show sm g m + g m = sm g n
      rw [ih (by omega) (fun i h1 h2 => hz i h1 (by omega)), hz m (by omega) (by omega)]
      rfl
def cn (p : Nat → Bool) (n : Nat) : Nat := sm (fun i => (p i).toNat) n
theorem cn_congr {p q : Nat → Bool} {n : Nat} (h : ∀ i, i < n → p i = q i) : cn p n = cn q n := sm_congr (fun i hi => by rw [h i hi])
theorem cn_le {p q : Nat → Bool} {n : Nat} (h : ∀ i, i < n → p i = true → q i = true) : cn p n ≤ cn q n := sm_le (fun i hi => by
  cases hp : p i with
  | false => exact Nat.zero_le _
  | true => rw [h i hi hp]; exact Nat.le_refl _)
theorem cn_n (p : Nat → Bool) (n : Nat) : cn p n ≤ n := by
  have := sm_bound (g := fun i => (p i).toNat) (n := n) (c := 1) (fun i _ => by cases p i <;> decide)
  show sm _ n ≤ n
  omega
theorem cn_lt {p q : Nat → Bool} {n v : Nat} (h : ∀ i, i < n → p i = true → q i = true) (hv : v < n) (h1 : p v = false) (h2 : q v = true) : cn p n < cn q n := by
  have e := sm_one (g := fun i => (p i).toNat) (g' := fun i => if i = v then 1 else (p i).toNat) hv (fun i _ hi => by simp [hi])
  have e2 : sm (fun i => if i = v then 1 else (p i).toNat) n ≤ cn q n := sm_le (fun i hi => by
    by_cases hiv : i = v
    · subst hiv; simp [h2]
    · simp only [hiv, if_false]
      cases hp : p i with
      | false => exact Nat.zero_le _
      | true => rw [h i hi hp]; exact Nat.le_refl _)
  simp only [h1, if_true, Bool.toNat_false] at e
  show sm _ n < cn q n
  omega
theorem cn_eq {p q : Nat → Bool} {n : Nat} (h : ∀ i, i < n → p i = true → q i = true) (he : cn q n ≤ cn p n) : ∀ i, i < n → p i = q i := by
  intro i hi
  cases hp : p i with
  | true => rw [h i hi hp]
  | false =>
    cases hq : q i with
    | false => rfl
    | true => have := cn_lt h hi hp hq; omega
theorem cn_0 {p : Nat → Bool} {n : Nat} (h : cn p n = 0) : ∀ i, i < n → p i = false := by
  intro i hi
  have := sm_ge (g := fun i => (p i).toNat) hi
  cases hp : p i with
  | false => rfl
  | true =>
    simp only [hp, Bool.toNat_true] at this
    have h2 : sm (fun i => (p i).toNat) n = 0 := h
    omega
theorem cn_pos {p : Nat → Bool} {n i : Nat} (hi : i < n) (h : p i = true) : 0 < cn p n := by
  rcases Nat.eq_zero_or_pos (cn p n) with h0 | h0
  · have := cn_0 h0 i hi; rw [h] at this; cases this
  · exact h0
theorem cn_or (p q : Nat → Bool) (n : Nat) : cn (fun i => p i || q i) n + cn (fun i => p i && q i) n = cn p n + cn q n := by
  show sm _ n + sm _ n = sm _ n + sm _ n
  rw [← sm_add, ← sm_add]
  exact sm_congr (fun i _ => by dsimp only; cases p i <;> cases q i <;> rfl)
/-- how many of the twelve bits are set -/
def pop (S : Nat) : Nat := cn S.testBit 12
theorem tb_hi {S n i : Nat} (h : S < 2 ^ n) (hi : n ≤ i) : S.testBit i = false := Nat.testBit_lt_two_pow (Nat.lt_of_lt_of_le h (Nat.pow_le_pow_right (by decide) hi))
theorem tb_ext {S T n : Nat} (h1 : S < 2 ^ n) (h2 : T < 2 ^ n) (h : ∀ i, i < n → S.testBit i = T.testBit i) : S = T := by
  apply Nat.eq_of_testBit_eq
  intro i
  by_cases hi : i < n
  · exact h i hi
  · rw [tb_hi h1 (by omega), tb_hi h2 (by omega)]
theorem pop_n {S n : Nat} (h : S < 2 ^ n) (hn : n ≤ 12) : pop S = cn S.testBit n := sm_ext hn (fun i h1 _ => by rw [tb_hi h h1]; rfl)
theorem pop_and {S T n : Nat} (h : S < 2 ^ n) (hn : n ≤ 12) : pop (S &&& T) = cn (fun i => S.testBit i && T.testBit i) n := by
  rw [pop_n (n := n) (Nat.lt_of_le_of_lt Nat.and_le_left h) hn]
  exact cn_congr (fun i _ => Nat.testBit_and ..)
theorem pop_le {S n : Nat} (h : S < 2 ^ n) (hn : n ≤ 12) : pop S ≤ n := by rw [pop_n h hn]; exact cn_n _ _
theorem p12 {n : Nat} (hn : n ≤ 12) : 2 ^ n ≤ 4096 := Nat.pow_le_pow_right (by decide) hn
/-- a set without some -/
def sd (S T : Nat) : Nat := S ^^^ (S &&& T)
theorem tb_sd (S T i : Nat) : (sd S T).testBit i = (S.testBit i && !T.testBit i) := by
  simp only [sd, Nat.testBit_xor, Nat.testBit_and]
  cases S.testBit i <;> cases T.testBit i <;> rfl
theorem sd_lt {S T n : Nat} (h : S < 2 ^ n) : sd S T < 2 ^ n := Nat.xor_lt_two_pow h (Nat.lt_of_le_of_lt Nat.and_le_left h)
theorem tb_pow (v i : Nat) : (2 ^ v).testBit i = decide (v = i) := Nat.testBit_two_pow
theorem tb_all (n i : Nat) : (2 ^ n - 1).testBit i = decide (i < n) := Nat.testBit_two_pow_sub_one n i
