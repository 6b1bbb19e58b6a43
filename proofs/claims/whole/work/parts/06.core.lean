/-! graphs as rows of bits; cores -/
def mk (p : Nat → Bool) : Nat → Nat
  | 0 => 0
  | n + 1 => mk p n ||| (bif p n then 2 ^ n else 0)
theorem mk_lt (p : Nat → Bool) (n : Nat) : mk p n < 2 ^ n := by
  induction n with
  | zero => exact Nat.one_pos
  | succ n ih =>
    have h1 : 2 ^ n < 2 ^ (n + 1) := Nat.pow_lt_pow_right (by decide) (Nat.lt_succ_self n)
    refine Nat.or_lt_two_pow (Nat.lt_trans ih h1) ?_
    cases p n with
    | true => exact h1
    | false => exact Nat.lt_of_le_of_lt (Nat.zero_le _) h1
theorem tb_mk (p : Nat → Bool) (n i : Nat) : (mk p n).testBit i = (decide (i < n) && p i) := by
  induction n with
  | zero => simp [mk]
  | succ n ih =>
    have e : (bif p n then 2 ^ n else 0).testBit i = (decide (i = n) && p i) := by
      by_cases hi : i = n
      · subst hi
        cases p i with
        | true => simp [tb_pow]
        | false => simp
      · cases p n with
        | true => simp [tb_pow, hi]; exact fun z => hi z.symm
        | false => simp [hi]
    rw [mk, Nat.testBit_or, ih, e]
    by_cases h1 : i < n
    · simp [h1, Nat.lt_succ_of_lt h1, Nat.ne_of_lt h1]
    · by_cases h2 : i = n
      · subst h2; simp
      · have h3 : ¬ i < n + 1 := by omega
        simp [h1, h2, h3]
def sub (S T : Nat) : Prop := ∀ i, S.testBit i = true → T.testBit i = true
/-- twelve nodes at most; of each the bits of those that it is joined with -/
def Gr (n : Nat) (f : Nat → Nat) : Prop := n ≤ 12 ∧ (∀ v, v < n → f v < 2 ^ n) ∧ (∀ v, v < n → (f v).testBit v = false) ∧ ∀ u v, u < n → v < n → (f u).testBit v = (f v).testBit u
def dg (f : Nat → Nat) (S v : Nat) : Nat := pop (f v &&& S)
section GR
variable {n : Nat} {f : Nat → Nat}
theorem dg_n (hG : Gr n f) {S v : Nat} (hv : v < n) : dg f S v = cn (fun i => (f v).testBit i && S.testBit i) n := pop_and (hG.2.1 v hv) hG.1
theorem dg_mono (hG : Gr n f) {S T v : Nat} (hv : v < n) (h : sub S T) : dg f S v ≤ dg f T v := by
  rw [dg_n hG hv, dg_n hG hv]
  refine cn_le (fun i _ hi => ?_)
  simp only [Bool.and_eq_true] at hi ⊢
  exact ⟨hi.1, h i hi.2⟩
theorem dg_le (hG : Gr n f) {S v : Nat} (hv : v < n) : dg f S v ≤ n := by
  rw [dg_n hG hv]; exact cn_n _ _
theorem dg_lt (hG : Gr n f) {S v : Nat} (hv : v < n) : dg f S v < n := by
  rw [dg_n hG hv]
  have h1 := cn_lt (p := fun i => (f v).testBit i && S.testBit i) (q := fun _ => true) (n := n) (v := v) (fun _ _ _ => rfl) hv (by rw [hG.2.2.1 v hv]; rfl) rfl
  have h2 := cn_n (fun _ => true) n
  omega
/-- those of S whose degree within S is of a kind -/
def lo (n : Nat) (f : Nat → Nat) (S : Nat) (c : Nat → Bool) : Nat := mk (fun v => S.testBit v && c (dg f S v)) n
def cld (n : Nat) (f : Nat → Nat) (K X : Nat) : Prop := ∀ v, v < n → X.testBit v = true → K ≤ dg f X v
def isCore (n : Nat) (f : Nat → Nat) (K S : Nat) : Prop := S < 2 ^ n ∧ cld n f K S ∧ ∀ X, X < 2 ^ n → cld n f K X → sub X S
theorem core_one {K S T : Nat} (h1 : isCore n f K S) (h2 : isCore n f K T) : S = T := by
  refine tb_ext h1.1 h2.1 (fun i _ => ?_)
  have a := h2.2.2 S h1.1 h1.2.1 i
  have b := h1.2.2 T h2.1 h2.2.1 i
  cases hs : S.testBit i with
  | true => rw [a hs]
  | false =>
    cases ht : T.testBit i with
    | false => rfl
    | true => rw [b ht] at hs; cases hs
theorem cld_keep (hG : Gr n f) {K X S v : Nat} (hX : cld n f K X) (hs : sub X S) (hv : v < n) (h : X.testBit v = true) : K ≤ dg f S v := Nat.le_trans (hX v hv h) (dg_mono hG hv hs)
def rd (n : Nat) (f : Nat → Nat) (K S : Nat) : Nat := sd S (lo n f S (fun d => decide (d < K)))
def coreC (n : Nat) (f : Nat → Nat) (K : Nat) : Nat → Nat
  | 0 => 2 ^ n - 1
  | r + 1 => rd n f K (coreC n f K r)
theorem pw_pos (n : Nat) : 2 ^ n - 1 < 2 ^ n := by
  have : 0 < 2 ^ n := Nat.pow_pos (by decide)
  omega
theorem coreC_lt (K r : Nat) : coreC n f K r < 2 ^ n := by
  induction r with
  | zero => exact pw_pos n
  | succ r ih => exact sd_lt ih
theorem tb_rd (K S i : Nat) : (rd n f K S).testBit i = (S.testBit i && !(decide (i < n) && decide (dg f S i < K))) := by
  rw [rd, tb_sd, lo, tb_mk]
  cases S.testBit i <;> simp
theorem coreC_top (hG : Gr n f) {K X : Nat} (hX : X < 2 ^ n) (h : cld n f K X) (r : Nat) : sub X (coreC n f K r) := by
  induction r with
  | zero =>
    intro i hi
    show (2 ^ n - 1).testBit i = true
    rw [tb_all, decide_eq_true_eq]
    rcases Nat.lt_or_ge i n with h1 | h1
    · exact h1
    · rw [tb_hi hX h1] at hi; cases hi
  | succ r ih =>
    intro i hi
    show (rd n f K (coreC n f K r)).testBit i = true
    rw [tb_rd, ih i hi]
    by_cases h1 : i < n
    · have := cld_keep hG h ih h1 hi
      simp; exact Or.inr this
    · simp [h1]
theorem coreC_end (hG : Gr n f) (K r : Nat) : cld n f K (coreC n f K r) ∨ pop (coreC n f K r) + r ≤ n := by
  induction r with
  | zero =>
    right
    have := pop_le (pw_pos n) hG.1
    exact this
  | succ r ih =>
    by_cases hc : cld n f K (coreC n f K r)
    · left
      have e : coreC n f K (r + 1) = coreC n f K r := by
        refine tb_ext (coreC_lt K (r + 1)) (coreC_lt K r) (fun i hi => ?_)
        show (rd n f K (coreC n f K r)).testBit i = _
        rw [tb_rd]
        cases hs : (coreC n f K r).testBit i with
        | false => rfl
        | true =>
          have := hc i hi hs
          simp [hi]; exact this
      rw [e]; exact hc
    · rcases ih with h | h
      · exact absurd h hc
      · right
        have hne : ∃ v, v < n ∧ (coreC n f K r).testBit v = true ∧ dg f (coreC n f K r) v < K := by
          apply Classical.byContradiction
          intro hn
          apply hc
          intro v hv hb
          apply Nat.le_of_not_lt
          intro hlt
          exact hn ⟨v, hv, hb, hlt⟩
        obtain ⟨v, hv, hb, hlt⟩ := hne
        have e1 : pop (coreC n f K (r + 1)) < pop (coreC n f K r) := by
          rw [pop_n (coreC_lt K (r + 1)) hG.1, pop_n (coreC_lt K r) hG.1]
          refine cn_lt (v := v) (fun i _ hi => ?_) hv ?_ hb
          · have hi : (rd n f K (coreC n f K r)).testBit i = true := hi
            rw [tb_rd, Bool.and_eq_true] at hi
            exact hi.1
          · show (rd n f K (coreC n f K r)).testBit v = false
            rw [tb_rd, hb]
            simp [hv, hlt]
        omega
theorem coreC_is (hG : Gr n f) (K : Nat) : isCore n f K (coreC n f K n) := by
  refine ⟨coreC_lt K n, ?_, fun X hX h => coreC_top hG hX h n⟩
  rcases coreC_end hG K n with h | h
  · exact h
  · intro v hv hb
    have h0 : pop (coreC n f K n) = 0 := by omega
    rw [pop_n (coreC_lt K n) hG.1] at h0
    rw [cn_0 h0 v hv] at hb
    cases hb
end GR
