/-! triangles: counted at each corner, and counted once -/
theorem sm_tri {a : Nat → Nat → Nat → Nat} (h1 : ∀ u v w, a u v w = a v u w) (h2 : ∀ u v w, a u v w = a u w v) (h3 : ∀ u w, a u u w = 0) (n : Nat) :
    sm (fun v => sm (fun x => sm (a v x) x) n) n = 3 * sm (fun z => sm (fun y => sm (a z y) y) z) n := by
  induction n with
  | zero => rfl
  | succ n ih =>
    show sm (fun v => sm (fun x => sm (a v x) x) n + sm (a v n) n) n + (sm (fun x => sm (a n x) x) n + sm (a n n) n) = 3 * (sm (fun z => sm (fun y => sm (a z y) y) z) n + sm (fun y => sm (a n y) y) n)
    rw [sm_add, ih]
    have e1 : sm (fun v => sm (a v n) n) n = sm (fun v => sm (a n v) n) n := sm_congr (fun v _ => sm_congr (fun y _ => h1 v n y))
    have e2 : sm (fun v => sm (a n v) n) n = 2 * sm (fun v => sm (a n v) v) n := sm_sym (fun u v => h2 n u v) (fun v => by rw [h1 n v v, h2 v n v, h3 v n]) n
    have e3 : sm (a n n) n = 0 := sm_zero' (fun y _ => h3 n y)
    rw [e1, e2, e3]
    omega
def tri (f : Nat → Nat) (a b c : Nat) : Bool := (f a).testBit b && (f a).testBit c && (f b).testBit c
/-- how many triangles, as the walk over a < b < c finds them -/
def tI (f : Nat → Nat) (a b c : Nat) : Nat := (decide (a < b) && decide (b < c) && tri f a b c).toNat
def tc (n : Nat) (f : Nat → Nat) : Nat := sm (fun a => sm (fun b => sm (tI f a b) n) n) n
section TI
variable {n : Nat} {f : Nat → Nat}
theorem sm_cut {g : Nat → Nat} {m k : Nat} (h : k ≤ m) : sm (fun x => bif decide (x < k) then g x else 0) m = sm g k := by
  rw [sm_ext h (fun i h1 _ => by simp [Nat.not_lt.mpr h1])]
  exact sm_congr (fun i hi => by simp [hi])
theorem tri_3 (hG : Gr n f) : sm (fun v => e1 n f (f v)) n = 3 * tc n f := by
  have key := sm_tri (a := fun v x y => (decide (v < n) && decide (x < n) && decide (y < n) && ((f v).testBit x && (f v).testBit y && (f x).testBit y)).toNat)
    (fun u v w => by
      by_cases h1 : u < n
      · by_cases h2 : v < n
        · by_cases h3 : w < n
          · simp only [h1, h2, h3, decide_true, Bool.true_and]
            rw [hG.2.2.2 u v h1 h2]
            cases (f v).testBit u <;> cases (f u).testBit w <;> cases (f v).testBit w <;> rfl
          · simp [h3]
        · simp [h2]
      · simp [h1])
    (fun u v w => by
      by_cases h1 : u < n
      · by_cases h2 : v < n
        · by_cases h3 : w < n
          · simp only [h1, h2, h3, decide_true, Bool.true_and]
            rw [hG.2.2.2 v w h2 h3]
            cases (f u).testBit v <;> cases (f u).testBit w <;> cases (f w).testBit v <;> rfl
          · simp [h3]
        · simp [h2]
      · simp [h1])
    (fun u w => by
      by_cases h1 : u < n
      · simp [hG.2.2.1 u h1]
      · simp [h1]) n
  have l : sm (fun v => e1 n f (f v)) n = sm (fun v => sm (fun x => sm (fun y => (decide (v < n) && decide (x < n) && decide (y < n) && ((f v).testBit x && (f v).testBit y && (f x).testBit y)).toNat) x) n) n := by
    refine sm_congr (fun v hv => ?_)
    unfold e1
    refine sm_congr (fun x hx => sm_congr (fun y hy => ?_))
    unfold ea
    simp [hv, hx, show y < n by omega]
  rw [l, key]
  congr 1
  -- largest first, to smallest first
  have r1 : sm (fun z => sm (fun y => sm (fun x => (decide (z < n) && decide (y < n) && decide (x < n) && ((f z).testBit y && (f z).testBit x && (f y).testBit x)).toNat) y) z) n = sm (fun z => sm (fun y => sm (fun x => tI f x y z) n) n) n := by
    refine sm_congr (fun z hz => ?_)
    rw [← sm_cut (g := fun y => sm (fun x => (decide (z < n) && decide (y < n) && decide (x < n) && ((f z).testBit y && (f z).testBit x && (f y).testBit x)).toNat) y) (Nat.le_of_lt hz)]
    refine sm_congr (fun y hy => ?_)
    by_cases h1 : y < z
    · simp only [h1, decide_true, cond_true]
      rw [← sm_cut (g := fun x => (decide (z < n) && decide (y < n) && decide (x < n) && ((f z).testBit y && (f z).testBit x && (f y).testBit x)).toNat) (Nat.le_of_lt hy)]
      refine sm_congr (fun x hx => ?_)
      unfold tI tri
      by_cases h2 : x < y
      · simp only [h1, h2, hx, hy, hz, decide_true, cond_true, Bool.true_and]
        rw [hG.2.2.2 z y hz hy, hG.2.2.2 z x hz hx, hG.2.2.2 y x hy hx]
        cases (f y).testBit z <;> cases (f x).testBit z <;> cases (f x).testBit y <;> rfl
      · simp [h2]
    · simp only [h1, decide_false, cond_false]
      exact (sm_zero' (fun x _ => by simp [tI, h1])).symm
  rw [r1]
  unfold tc
  -- z y x to x y z
  rw [sm_swap (fun z y => sm (fun x => tI f x y z) n) n n]
  rw [sm_congr (g' := fun y => sm (fun x => sm (fun z => tI f x y z) n) n) (fun y _ => sm_swap (fun z x => tI f x y z) n n)]
  exact sm_swap (fun y x => sm (fun z => tI f x y z) n) n n
end TI
