/-! a node changes its side: edges within, edges out; the walk over all sets -/
theorem sm_pick {g : Nat → Nat} {n v : Nat} (hv : v < n) : sm (fun x => bif decide (x = v) then g x else 0) n = g v := by
  have h := sm_one (g := fun x => bif decide (x = v) then g x else 0) (g' := fun _ => 0) hv (fun i _ hi => by simp [hi])
  rw [sm_zero] at h
  simp at h
  exact h
def tg (S v : Nat) : Nat := S ^^^ 2 ^ v
theorem tb_tg (S v i : Nat) : (tg S v).testBit i = (S.testBit i ^^ decide (v = i)) := by rw [tg, Nat.testBit_xor, tb_pow]
theorem tg_lt {S v n : Nat} (h : S < 2 ^ n) (hv : v < n) : tg S v < 2 ^ n := Nat.xor_lt_two_pow h (Nat.pow_lt_pow_right (by decide) hv)
theorem tg_tg (S v : Nat) : tg (tg S v) v = S := by
  apply Nat.eq_of_testBit_eq
  intro i
  rw [tb_tg, tb_tg]
  cases S.testBit i <;> cases decide (v = i) <;> rfl
def ct (n : Nat) (f : Nat → Nat) (S : Nat) : Nat := sm (fun v => bif S.testBit v then pop (sd (f v) S) else 0) n
def ca (f : Nat → Nat) (S v u : Nat) : Nat := (S.testBit v && !S.testBit u && (f v).testBit u).toNat
section CT
variable {n : Nat} {f : Nat → Nat}
theorem pop_sd {S T : Nat} (h : S < 2 ^ n) (hn : n ≤ 12) : pop (sd S T) = cn (fun i => S.testBit i && !T.testBit i) n := by
  rw [pop_n (sd_lt h) hn]
  exact cn_congr (fun i _ => tb_sd S T i)
theorem ct_ca (hG : Gr n f) (S : Nat) : ct n f S = sm (fun v => sm (ca f S v) n) n := by
  refine sm_congr (fun v hv => ?_)
  cases hs : S.testBit v with
  | false => exact (sm_zero' (fun u _ => by simp [ca, hs])).symm
  | true =>
    show pop (sd (f v) S) = _
    rw [pop_sd (hG.2.1 v hv) hG.1]
    refine sm_congr (fun u _ => ?_)
    simp only [ca, hs, Bool.true_and]
    rw [Bool.and_comm]
theorem ct_not (hG : Gr n f) {S : Nat} (hS : S < 2 ^ n) : ct n f (sd (2 ^ n - 1) S) = ct n f S := by
  rw [ct_ca hG, ct_ca hG, sm_swap]
  refine sm_congr (fun v hv => sm_congr (fun u hu => ?_))
  unfold ca
  rw [tb_sd, tb_sd, tb_all, tb_all, hG.2.2.2 u v hu hv]
  simp [hu, hv]
  cases S.testBit u <;> cases S.testBit v <;> cases (f v).testBit u <;> rfl
theorem dg_tg (hG : Gr n f) {S v : Nat} (hv : v < n) : dg f (tg S v) v = dg f S v := by
  rw [dg_n hG hv, dg_n hG hv]
  refine cn_congr (fun i _ => ?_)
  rw [tb_tg]
  by_cases hi : v = i
  · subst hi; rw [hG.2.2.1 v hv]; rfl
  · simp [hi]
theorem dg_row (hG : Gr n f) {S v : Nat} (hv : v < n) : sm (fun x => (S.testBit x && (f x).testBit v).toNat) n = dg f S v := by
  rw [dg_n hG hv]
  refine sm_congr (fun x hx => ?_)
  rw [hG.2.2.2 x v hx hv, Bool.and_comm]
theorem e2_tg (hG : Gr n f) {S v : Nat} (hv : v < n) (h : S.testBit v = false) : e2 n f (tg S v) = e2 n f S + 2 * dg f S v := by
  rw [e2_ea hG, e2_ea hG]
  have key : ∀ x, x < n → ∀ y, y < n → ea f (tg S v) x y = ea f S x y + (bif decide (x = v) then (S.testBit y && (f y).testBit v).toNat else 0) + (bif decide (y = v) then (S.testBit x && (f x).testBit v).toNat else 0) := by
    intro x hx y hy
    unfold ea
    rw [tb_tg, tb_tg]
    by_cases h1 : x = v
    · subst h1
      by_cases h2 : y = x
      · subst h2; simp [h, hG.2.2.1 y hy]
      · have h3 : ¬ x = y := fun z => h2 z.symm
        rw [hG.2.2.2 x y hx hy]
        simp [h, h2, h3]
    · have h3 : ¬ v = x := fun z => h1 z.symm
      by_cases h2 : y = v
      · subst h2; simp [h, h1, h3]
      · have h4 : ¬ v = y := fun z => h2 z.symm
        simp [h1, h2, h3, h4]
  rw [sm_congr (fun x hx => sm_congr (fun y hy => key x hx y hy))]
  rw [sm_congr (g' := fun x => sm (ea f S x) n + (bif decide (x = v) then dg f S v else 0) + (S.testBit x && (f x).testBit v).toNat) (fun x hx => by
    rw [sm_add, sm_add, sm_pick hv]
    congr 2
    by_cases h1 : x = v
    · simp only [h1, decide_true, cond_true]; exact dg_row hG hv
    · simp only [h1, decide_false, cond_false]; exact sm_zero n)]
  rw [sm_add, sm_add, dg_row hG hv, sm_pick (g := fun _ => dg f S v) hv]
  omega
theorem e1_in (hG : Gr n f) {S v : Nat} (hv : v < n) (h : S.testBit v = false) : e1 n f (tg S v) = e1 n f S + dg f S v := by
  have := e2_tg hG hv h
  rw [e2_e1 hG, e2_e1 hG] at this
  omega
theorem e1_out (hG : Gr n f) {S v : Nat} (hv : v < n) (h : S.testBit v = true) : e1 n f S = e1 n f (tg S v) + dg f S v := by
  have := e1_in hG (S := tg S v) hv (by rw [tb_tg, h]; simp)
  rw [tg_tg, dg_tg hG hv] at this
  exact this
theorem dg_out (hG : Gr n f) {S v : Nat} (hv : v < n) : dg f S v + sm (fun y => (!S.testBit y && (f v).testBit y).toNat) n = pop (f v) := by
  rw [dg_n hG hv, pop_n (hG.2.1 v hv) hG.1]
  show sm _ n + sm _ n = sm _ n
  rw [← sm_add]
  refine sm_congr (fun y _ => ?_)
  dsimp only
  cases S.testBit y <;> cases (f v).testBit y <;> rfl
theorem ct_in (hG : Gr n f) {S v : Nat} (hv : v < n) (h : S.testBit v = false) : ct n f (tg S v) + 2 * dg f S v = ct n f S + pop (f v) := by
  rw [ct_ca hG, ct_ca hG]
  have key : ∀ x, x < n → ∀ y, y < n → ca f (tg S v) x y + (bif decide (y = v) then (S.testBit x && (f x).testBit v).toNat else 0) = ca f S x y + (bif decide (x = v) then (!S.testBit y && (f v).testBit y).toNat else 0) := by
    intro x hx y hy
    unfold ca
    rw [tb_tg, tb_tg]
    by_cases h1 : x = v
    · subst h1
      by_cases h2 : y = x
      · subst h2; simp [h, hG.2.2.1 y hy]
      · have h3 : ¬ x = y := fun z => h2 z.symm
        simp [h, h2, h3]
    · have h3 : ¬ v = x := fun z => h1 z.symm
      by_cases h2 : y = v
      · subst h2; simp [h, h1, h3]
      · have h4 : ¬ v = y := fun z => h2 z.symm
        simp [h1, h2, h3, h4]
  have s1 : sm (fun x => sm (ca f (tg S v) x) n) n + dg f S v = sm (fun x => sm (ca f S x) n) n + sm (fun y => (!S.testBit y && (f v).testBit y).toNat) n := by
    rw [← dg_row hG hv (S := S), ← sm_pick (g := fun _ => sm (fun y => (!S.testBit y && (f v).testBit y).toNat) n) hv, ← sm_add, ← sm_add]
    refine sm_congr (fun x hx => ?_)
    have k := sm_congr (fun y hy => key x hx y hy)
    rw [sm_add, sm_add, sm_pick hv] at k
    rw [k]
    congr 1
    by_cases h1 : x = v
    · simp only [h1, decide_true, cond_true]
    · simp only [h1, decide_false, cond_false]; exact sm_zero n
  have s2 := dg_out hG hv (S := S)
  omega
theorem ct_out (hG : Gr n f) {S v : Nat} (hv : v < n) (h : S.testBit v = true) : ct n f (tg S v) + pop (f v) = ct n f S + 2 * dg f S v := by
  have := ct_in hG (S := tg S v) hv (by rw [tb_tg, h]; simp)
  rw [tg_tg, dg_tg hG hv] at this
  omega
theorem ct_0 : ct n f 0 = 0 := sm_zero' (fun v _ => by simp)
end CT
/-- the least bit of a number below 4096 -/
def lsb (s : Nat) : Nat := bif s.testBit 0 then 0 else bif s.testBit 1 then 1 else bif s.testBit 2 then 2 else bif s.testBit 3 then 3 else bif s.testBit 4 then 4 else bif s.testBit 5 then 5 else bif s.testBit 6 then 6 else bif s.testBit 7 then 7 else bif s.testBit 8 then 8 else bif s.testBit 9 then 9 else bif s.testBit 10 then 10 else 11
def gray (s : Nat) : Nat := s ^^^ (s >>> 1)
def ginv (s : Nat) : Nat := s ^^^ (s >>> 1) ^^^ (s >>> 2) ^^^ (s >>> 3) ^^^ (s >>> 4) ^^^ (s >>> 5) ^^^ (s >>> 6) ^^^ (s >>> 7) ^^^ (s >>> 8) ^^^ (s >>> 9) ^^^ (s >>> 10) ^^^ (s >>> 11)
theorem gray_all : ((List.range 4096).all fun s => (s == 0 || (gray s == gray (s - 1) ^^^ 2 ^ lsb s && decide (2 ^ lsb s ≤ s) && s.testBit (lsb s))) && gray (ginv s) == s && (s == 0 || decide (0 < ginv s)) && (List.range 13).all fun n => decide (s < 2 ^ n → ginv s < 2 ^ n)) = true := by decide +kernel
theorem gray_at {s : Nat} (hs : s < 4096) : (s = 0 ∨ (gray s = tg (gray (s - 1)) (lsb s) ∧ 2 ^ lsb s ≤ s ∧ s.testBit (lsb s) = true)) ∧ gray (ginv s) = s ∧ (s = 0 ∨ 0 < ginv s) ∧ ∀ n, n ≤ 12 → s < 2 ^ n → ginv s < 2 ^ n := by
  have h := List.all_eq_true.mp gray_all s (List.mem_range.mpr hs)
  simp only [Bool.and_eq_true, Bool.or_eq_true, beq_iff_eq, decide_eq_true_eq, List.all_eq_true, List.mem_range] at h
  obtain ⟨⟨⟨h1, h2⟩, h3⟩, h4⟩ := h
  refine ⟨?_, h2, h3, fun n hn => h4 n (by omega)⟩
  rcases h1 with h1 | ⟨⟨h1, h5⟩, h6⟩
  · exact Or.inl h1
  · exact Or.inr ⟨h1, h5, h6⟩
theorem gray_0 : gray 0 = 0 := by decide
theorem gray_lt {s n : Nat} (h : s < 2 ^ n) : gray s < 2 ^ n := Nat.xor_lt_two_pow h (Nat.lt_of_le_of_lt (by rw [Nat.shiftRight_eq_div_pow]; exact Nat.div_le_self _ _) h)
theorem lsb_lt {s n : Nat} (hs : s < 2 ^ n) (h0 : s ≠ 0) (hn : n ≤ 12) : lsb s < n := by
  have h := (gray_at (Nat.lt_of_lt_of_le hs (p12 hn))).1
  rcases h with h | ⟨-, h, -⟩
  · exact absurd h h0
  · exact (Nat.pow_lt_pow_iff_right (by decide)).mp (Nat.lt_of_le_of_lt h hs)
