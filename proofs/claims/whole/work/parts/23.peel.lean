/-! core numbers, the peeling, layers -/
theorem lsb_all : ((List.range 4096).all fun s => s == 0 || (s.testBit (lsb s) && (List.range 12).all fun i => decide (lsb s ≤ i) || !s.testBit i)) = true := by decide +kernel
theorem lsb_in {s : Nat} (hs : s < 4096) (h0 : s ≠ 0) : s.testBit (lsb s) = true ∧ ∀ i, i < lsb s → s.testBit i = false := by
  have h := List.all_eq_true.mp lsb_all s (List.mem_range.mpr hs)
  simp only [Bool.or_eq_true, beq_iff_eq, Bool.and_eq_true, List.all_eq_true, List.mem_range, decide_eq_true_eq, Bool.not_eq_true'] at h
  obtain ⟨h1, h2⟩ := h.resolve_left h0
  refine ⟨h1, fun i hi => ?_⟩
  have hl : lsb s < 12 := lsb_lt (n := 12) hs h0 (by omega)
  rcases h2 i (by omega) with h3 | h3
  · omega
  · exact h3
theorem pop_all {n : Nat} (hn : n ≤ 12) : pop (2 ^ n - 1) = n := by
  rw [pop_n (pw_pos n) hn]
  have : ∀ m, m ≤ n → cn (2 ^ n - 1).testBit m = m := by
    intro m
    induction m with
    | zero => intro _; rfl
    | succ m ih =>
      intro hm
      show cn (2 ^ n - 1).testBit m + ((2 ^ n - 1).testBit m).toNat = m + 1
      rw [ih (by omega), tb_all, decide_eq_true (show m < n by omega)]
      rfl
  exact this n (Nat.le_refl _)
section PE
variable {n : Nat} {f : Nat → Nat}
theorem core_mono (hG : Gr n f) {K K' : Nat} (h : K ≤ K') : sub (coreC n f K' n) (coreC n f K n) :=
  (coreC_is hG K).2.2 _ (coreC_lt K' n) (fun v hv hb => Nat.le_trans h ((coreC_is hG K').2.1 v hv hb))
theorem core_big (hG : Gr n f) {K v : Nat} (hK : n ≤ K) (hv : v < n) : (coreC n f K n).testBit v = false := by
  cases hb : (coreC n f K n).testBit v with
  | false => rfl
  | true =>
    have h1 := (coreC_is hG K).2.1 v hv hb
    have h2 := dg_lt hG (S := coreC n f K n) hv
    omega
/-- CORE NUMBER -/
def isCN (n : Nat) (f : Nat → Nat) (v r : Nat) : Prop := (r = 0 ∨ (coreC n f r n).testBit v = true) ∧ (coreC n f (r + 1) n).testBit v = false
theorem cn_one (hG : Gr n f) {v r r' : Nat} (h : isCN n f v r) (h' : isCN n f v r') : r = r' := by
  have key : ∀ a b, isCN n f v a → isCN n f v b → ¬ a < b := by
    intro a b ha hb hlt
    have h1 : (coreC n f b n).testBit v = true := hb.1.resolve_left (by omega)
    have h2 := core_mono hG (K := a + 1) (K' := b) (by omega) v h1
    rw [ha.2] at h2
    cases h2
  have k1 := key r r' h h'
  have k2 := key r' r h' h
  omega
/-- who is taken next -/
def tkS (n : Nat) (f : Nat → Nat) (S : Nat) : Nat := lsb (lo n f S (fun d => decide (d ≤ ld f S n)))
def isPk (n : Nat) (f : Nat → Nat) (S v : Nat) : Prop := v < n ∧ S.testBit v = true ∧ (∀ u, u < n → S.testBit u = true → dg f S v ≤ dg f S u) ∧ ∀ u, u < v → S.testBit u = true → dg f S v < dg f S u
theorem pk_one {S v v' : Nat} (h : isPk n f S v) (h' : isPk n f S v') : v = v' := by
  rcases Nat.lt_trichotomy v v' with hl | hl | hl
  · have a := h'.2.2.2 v hl h.2.1
    have b := h.2.2.1 v' h'.1 h'.2.1
    omega
  · exact hl
  · have a := h.2.2.2 v' hl h'.2.1
    have b := h'.2.2.1 v h.1 h.2.1
    omega
theorem ld_in (hG : Gr n f) {S : Nat} (hS : S < 2 ^ n) (h0 : S ≠ 0) : ∃ u, u < n ∧ S.testBit u = true ∧ dg f S u = ld f S n := by
  rcases ld_at (f := f) (S := S) (v := n) with h | h
  · exfalso
    have hn := hG.1
    have hl := lsb_lt hS h0 hn
    have hb := (lsb_in (Nat.lt_of_lt_of_le hS (p12 hn)) h0).1
    have h1 := ld_le (f := f) (S := S) hl hb
    have h2 := dg_lt hG (S := S) hl
    omega
  · exact h
theorem tb_lo (S : Nat) (c : Nat → Bool) (i : Nat) : (lo n f S c).testBit i = (decide (i < n) && (S.testBit i && c (dg f S i))) := tb_mk _ _ _
theorem lo_ne (hG : Gr n f) {S k : Nat} (hS : S < 2 ^ n) (h0 : S ≠ 0) (hk : ld f S n ≤ k) : ∃ u, u < n ∧ S.testBit u = true ∧ (lo n f S (fun d => decide (d ≤ k))).testBit u = true := by
  obtain ⟨u, h1, h2, h3⟩ := ld_in hG hS h0
  refine ⟨u, h1, h2, ?_⟩
  rw [tb_lo]
  simp [h1, h2]
  omega
theorem ne_of_tb {S u : Nat} (h : S.testBit u = true) : S ≠ 0 := fun z => by rw [z] at h; simp at h
theorem tk_is (hG : Gr n f) {S : Nat} (hS : S < 2 ^ n) (h0 : S ≠ 0) : isPk n f S (tkS n f S) := by
  have hn := hG.1
  obtain ⟨u, h1, h2, h3⟩ := lo_ne hG hS h0 (Nat.le_refl (ld f S n))
  have hL := lo_lt n f S (fun d => decide (d ≤ ld f S n))
  obtain ⟨k1, k2⟩ := lsb_in (Nat.lt_of_lt_of_le hL (p12 hn)) (ne_of_tb h3)
  have k1' := k1
  rw [tb_lo] at k1
  simp only [Bool.and_eq_true, decide_eq_true_eq] at k1
  refine ⟨k1.1, k1.2.1, fun v hv hb => Nat.le_trans k1.2.2 (ld_le hv hb), fun v hv hb => ?_⟩
  have k3 := k2 v hv
  have hvn : v < n := Nat.lt_trans hv k1.1
  rw [tb_lo] at k3
  simp [hvn, hb] at k3
  exact Nat.lt_of_le_of_lt k1.2.2 k3
def pS (n : Nat) (f : Nat → Nat) : Nat → Nat
  | 0 => 2 ^ n - 1
  | t + 1 => sd (pS n f t) (2 ^ tkS n f (pS n f t))
theorem pS_lt (t : Nat) : pS n f t < 2 ^ n := by
  induction t with
  | zero => exact pw_pos n
  | succ t ih => exact sd_lt ih
theorem pS_pop (hG : Gr n f) {t : Nat} (ht : t ≤ n) : pop (pS n f t) + t = n := by
  induction t with
  | zero =>
    show pop (2 ^ n - 1) + 0 = n
    rw [pop_all hG.1]
    rfl
  | succ t ih =>
    have h1 := ih (by omega)
    have h0 : pS n f t ≠ 0 := fun z => by rw [z, pop_0] at h1; omega
    have h2 := (tk_is hG (pS_lt t) h0).2.1
    have h3 := pop_rm (pS_lt t) hG.1 h2
    show pop (sd (pS n f t) (2 ^ tkS n f (pS n f t))) + (t + 1) = n
    omega
theorem pS_ne (hG : Gr n f) {t : Nat} (ht : t < n) : pS n f t ≠ 0 := fun z => by
  have := pS_pop hG (Nat.le_of_lt ht)
  rw [z, pop_0] at this
  omega
/-- the layers: what is left, and k -/
def Ly (n : Nat) (f : Nat → Nat) : Nat → Nat × Nat
  | 0 => (2 ^ n - 1, 0)
  | t + 1 =>
    let k := if (Ly n f t).2 < ld f (Ly n f t).1 n then ld f (Ly n f t).1 n else (Ly n f t).2
    (sd (Ly n f t).1 (lo n f (Ly n f t).1 (fun d => decide (d ≤ k))), k)
theorem Ly_lt (t : Nat) : (Ly n f t).1 < 2 ^ n := by
  induction t with
  | zero => exact pw_pos n
  | succ t ih => exact sd_lt ih
theorem Ly_k (t : Nat) : (Ly n f t).2 ≤ 12 := by
  induction t with
  | zero => exact Nat.zero_le _
  | succ t ih =>
    show (if _ then _ else _) ≤ 12
    have := ld_12 f (Ly n f t).1 n
    split <;> omega
theorem Ly_pop (hG : Gr n f) (t : Nat) : (Ly n f t).1 = 0 ∨ pop (Ly n f t).1 + t ≤ n := by
  induction t with
  | zero => right; show pop (2 ^ n - 1) + 0 ≤ n; rw [pop_all hG.1]; omega
  | succ t ih =>
    by_cases h0 : (Ly n f t).1 = 0
    · left
      show sd (Ly n f t).1 _ = 0
      rw [h0]
      simp [sd]
    · right
      have h1 := ih.resolve_left h0
      obtain ⟨u, h2, h3, h4⟩ := lo_ne hG (Ly_lt t) h0 (k := (Ly n f (t + 1)).2) (by
        show _ ≤ (if _ then _ else _)
        split <;> omega)
      have h5 : pop (Ly n f (t + 1)).1 < pop (Ly n f t).1 := by
        rw [pop_n (Ly_lt (t + 1)) hG.1, pop_n (Ly_lt t) hG.1]
        refine cn_lt (v := u) (fun i _ hi => ?_) h2 ?_ h3
        · have hi : (sd (Ly n f t).1 _).testBit i = true := hi
          rw [tb_sd, Bool.and_eq_true] at hi
          exact hi.1
        · show (sd (Ly n f t).1 _).testBit u = false
          rw [tb_sd]
          have h4 : (lo n f (Ly n f t).1 (fun d => decide (d ≤ (Ly n f (t + 1)).2))).testBit u = true := h4
          have : (lo n f (Ly n f t).1 (fun d => decide (d ≤ if (Ly n f t).2 < ld f (Ly n f t).1 n then ld f (Ly n f t).1 n else (Ly n f t).2))).testBit u = true := h4
          rw [this]
          simp
      omega
def isLy (n : Nat) (f : Nat → Nat) (v r : Nat) : Prop := (Ly n f r).1.testBit v = false ∧ ∀ t, t < r → (Ly n f t).1.testBit v = true
theorem ly_one {v r r' : Nat} (h : isLy n f v r) (h' : isLy n f v r') : r = r' := by
  rcases Nat.lt_trichotomy r r' with hl | hl | hl
  · have := h'.2 r hl; rw [h.1] at this; cases this
  · exact hl
  · have := h.2 r' hl; rw [h'.1] at this; cases this
end PE
