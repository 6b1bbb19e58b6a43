/-! edges within a set; the densest -/
theorem sm_sym {a : Nat → Nat → Nat} (h1 : ∀ u v, a u v = a v u) (h2 : ∀ v, a v v = 0) (n : Nat) : sm (fun v => sm (a v) n) n = 2 * sm (fun v => sm (a v) v) n := by
  induction n with
  | zero => rfl
  | succ n ih =>
    show sm (fun v => sm (a v) n + a v n) n + (sm (a n) n + a n n) = 2 * (sm (fun v => sm (a v) v) n + sm (a n) n)
    rw [sm_add, ih, h2, sm_congr (g := fun v => a v n) (g' := a n) (fun i _ => h1 i n)]
    omega
/-- twice the edges within a set, as both programs count them -/
def e2 (n : Nat) (f : Nat → Nat) (S : Nat) : Nat := sm (fun v => bif S.testBit v then dg f S v else 0) n
def ea (f : Nat → Nat) (S v u : Nat) : Nat := (S.testBit v && S.testBit u && (f v).testBit u).toNat
/-- the edges within a set -/
def e1 (n : Nat) (f : Nat → Nat) (S : Nat) : Nat := sm (fun v => sm (ea f S v) v) n
section DN
variable {n : Nat} {f : Nat → Nat}
theorem e2_ea (hG : Gr n f) (S : Nat) : e2 n f S = sm (fun v => sm (ea f S v) n) n := by
  refine sm_congr (fun v hv => ?_)
  cases hs : S.testBit v with
  | false => exact (sm_zero' (fun u _ => by simp [ea, hs])).symm
  | true =>
    show dg f S v = _
    rw [dg_n hG hv]
    refine sm_congr (fun u _ => ?_)
    simp only [ea, hs, Bool.true_and]
    rw [Bool.and_comm]
theorem ea_m (hG : Gr n f) (S : Nat) {u v : Nat} (hu : u < n) (hv : v < n) : ea f S u v = ea f S v u := by
  unfold ea
  rw [hG.2.2.2 u v hu hv, Bool.and_comm (S.testBit u)]
theorem e2_e1 (hG : Gr n f) (S : Nat) : e2 n f S = 2 * e1 n f S := by
  rw [e2_ea hG]
  have h := sm_sym (a := fun v u => bif decide (v < n) && decide (u < n) then ea f S v u else 0) (fun u v => by
    by_cases hu : u < n
    · by_cases hv : v < n
      · simp [hu, hv, ea_m hG S hu hv]
      · simp [hu, hv]
    · by_cases hv : v < n
      · simp [hu, hv]
      · simp [hu, hv]) (fun v => by
    by_cases hv : v < n
    · simp [hv, ea, hG.2.2.1 v hv]
    · simp [hv]) n
  rw [sm_congr (g := fun v => sm (ea f S v) n) (g' := fun v => sm (fun u => bif decide (v < n) && decide (u < n) then ea f S v u else 0) n) (fun v hv => sm_congr (fun u hu => by simp [hv, hu])), h]
  congr 1
  exact sm_congr (fun v hv => sm_congr (fun u hu => by simp [hv, show u < n by omega]))
theorem e1_half (hG : Gr n f) (S : Nat) : e2 n f S / 2 = e1 n f S := by rw [e2_e1 hG]; omega
theorem e1_super (A B : Nat) : e1 n f A + e1 n f B ≤ e1 n f (A ||| B) + e1 n f (A &&& B) := by
  unfold e1
  rw [← sm_add, ← sm_add]
  refine sm_le (fun v _ => ?_)
  rw [← sm_add, ← sm_add]
  refine sm_le (fun u _ => ?_)
  unfold ea
  simp only [Nat.testBit_or, Nat.testBit_and]
  cases A.testBit v <;> cases B.testBit v <;> cases A.testBit u <;> cases B.testBit u <;> cases (f v).testBit u <;> decide
theorem pop_or {A B : Nat} : pop (A ||| B) + pop (A &&& B) = pop A + pop B := by
  have := cn_or A.testBit B.testBit 12
  unfold pop
  rw [← this]
  congr 1
  · exact cn_congr (fun i _ => Nat.testBit_or ..)
  · exact cn_congr (fun i _ => Nat.testBit_and ..)
theorem e1_0 : e1 n f 0 = 0 := sm_zero' (fun v _ => sm_zero' (fun u _ => by simp [ea]))
theorem pop_0 : pop 0 = 0 := sm_zero' (fun i _ => by simp)
theorem pop_pos {S : Nat} (h : S < 2 ^ n) (hn : n ≤ 12) (h0 : S ≠ 0) : 0 < pop S := by
  rcases Nat.eq_zero_or_pos (pop S) with h1 | h1
  · exfalso
    apply h0
    refine tb_ext h (Nat.pow_pos (by decide)) (fun i hi => ?_)
    rw [pop_n h hn] at h1
    rw [cn_0 h1 i hi]; simp
  · exact h1
/-- e1 X / pop X at most e1 S / pop S -/
def le1 (n : Nat) (f : Nat → Nat) (X S : Nat) : Prop := e1 n f X * pop S ≤ e1 n f S * pop X
theorem fr_tr {a p b q c r : Nat} (h1 : a * q ≤ b * p) (h2 : b * r ≤ c * q) (hq : 0 < q) : a * r ≤ c * p := by
  have h3 : a * q * r ≤ b * p * r := Nat.mul_le_mul_right r h1
  have h4 : b * r * p ≤ c * q * p := Nat.mul_le_mul_right p h2
  have h5 : q * (a * r) ≤ q * (c * p) := by
    have e1 : q * (a * r) = a * q * r := by rw [Nat.mul_comm a q, Nat.mul_assoc]
    have e2 : q * (c * p) = c * q * p := by rw [Nat.mul_comm c q, Nat.mul_assoc]
    have e3 : b * p * r = b * r * p := Nat.mul_right_comm b p r
    omega
  exact Nat.le_of_mul_le_mul_left h5 hq
theorem le1_tr {X S T : Nat} (h1 : le1 n f X S) (h2 : le1 n f S T) (hs : 0 < pop S) : le1 n f X T := fr_tr h1 h2 hs
/-- THE DENSEST -/
def isDen (n : Nat) (f : Nat → Nat) (S : Nat) : Prop := S < 2 ^ n ∧ S ≠ 0 ∧ (∀ X, X < 2 ^ n → X ≠ 0 → le1 n f X S) ∧ ∀ X, X < 2 ^ n → X ≠ 0 → le1 n f S X → sub X S
theorem sub_eq {S T : Nat} (h1 : sub S T) (h2 : sub T S) : S = T := by
  apply Nat.eq_of_testBit_eq
  intro i
  cases hs : S.testBit i with
  | true => rw [h1 i hs]
  | false =>
    cases ht : T.testBit i with
    | false => rfl
    | true => rw [h2 i ht] at hs; cases hs
theorem den_one {S T : Nat} (h1 : isDen n f S) (h2 : isDen n f T) : S = T :=
  sub_eq (h2.2.2.2 S h1.1 h1.2.1 (h1.2.2.1 T h2.1 h2.2.1)) (h1.2.2.2 T h2.1 h2.2.1 (h2.2.2.1 S h1.1 h1.2.1))
/-- the union of two that are alike is no thinner, if what they share isn't denser -/
theorem le1_or {A B : Nat} (hA : 0 < pop A) (hB : 0 < pop B) (h1 : le1 n f A B) (h3 : e1 n f (A &&& B) * pop A ≤ e1 n f A * pop (A &&& B)) : le1 n f A (A ||| B) := by
  have hs := e1_super (n := n) (f := f) A B
  have hp := pop_or (A := A) (B := B)
  show e1 n f A * pop (A ||| B) ≤ e1 n f (A ||| B) * pop A
  have h1 : e1 n f A * pop B ≤ e1 n f B * pop A := h1
  generalize e1 n f A = a at *
  generalize e1 n f B = b at *
  generalize e1 n f (A ||| B) = u at *
  generalize e1 n f (A &&& B) = i at *
  generalize pop A = pa at *
  generalize pop B = pb at *
  generalize pop (A ||| B) = pu at *
  generalize pop (A &&& B) = pi at *
  have k1 : (a + b) * pa ≤ (u + i) * pa := Nat.mul_le_mul_right pa hs
  have k2 : a * (pu + pi) = a * (pa + pb) := by rw [hp]
  rw [Nat.add_mul, Nat.add_mul] at k1
  rw [Nat.mul_add, Nat.mul_add] at k2
  omega
end DN
