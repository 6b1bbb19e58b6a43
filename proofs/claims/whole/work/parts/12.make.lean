/-! rows of degrees made graphs -/
def up {α : Type} (g : Nat → α) (v : Nat) (x : α) : Nat → α := fun i => if i = v then x else g i
theorem up_s {α : Type} (g : Nat → α) (v : Nat) (x : α) : up g v x v = x := if_pos rfl
theorem up_n {α : Type} (g : Nat → α) (v : Nat) (x : α) {i : Nat} (h : i ≠ v) : up g v x i = g i := if_neg h
/-- who wants most of the first k, none of P, the least of several -/
def wm (w : Nat → Nat) (P : Nat) : Nat → Option Nat
  | 0 => none
  | k + 1 => match wm w P k with
    | none => bif !P.testBit k && decide (0 < w k) then some k else none
    | some b => bif !P.testBit k && decide (w b < w k) then some k else some b
theorem wm_in {w : Nat → Nat} {P k u : Nat} (h : wm w P k = some u) : u < k ∧ P.testBit u = false ∧ 0 < w u := by
  induction k generalizing u with
  | zero => cases h
  | succ k ih =>
    rw [wm] at h
    split at h
    · rename_i hk
      cases hc : (!P.testBit k && decide (0 < w k)) with
      | false => rw [hc] at h; cases h
      | true =>
        rw [hc] at h
        cases h
        simp only [Bool.and_eq_true, Bool.not_eq_true', decide_eq_true_eq] at hc
        exact ⟨by omega, hc.1, hc.2⟩
    · rename_i b hk
      obtain ⟨h1, h2, h3⟩ := ih hk
      cases hc : (!P.testBit k && decide (w b < w k)) with
      | false =>
        rw [hc] at h
        cases h
        exact ⟨by omega, h2, h3⟩
      | true =>
        rw [hc] at h
        cases h
        simp only [Bool.and_eq_true, Bool.not_eq_true', decide_eq_true_eq] at hc
        exact ⟨by omega, hc.1, by omega⟩
theorem wm_none {w : Nat → Nat} {P k : Nat} (h : wm w P k = none) : ∀ v, v < k → P.testBit v = false → w v = 0 := by
  induction k with
  | zero => intro v hv; omega
  | succ k ih =>
    rw [wm] at h
    split at h
    · rename_i hk
      cases hc : (!P.testBit k && decide (0 < w k)) with
      | true => rw [hc] at h; cases h
      | false =>
        intro v hv hp
        by_cases hvk : v = k
        · subst hvk
          rw [hp] at hc
          simp at hc
          exact hc
        · exact ih hk v (by omega) hp
    · rename_i b hk
      exfalso
      cases hc : (!P.testBit k && decide (w b < w k)) with
      | true => rw [hc] at h; cases h
      | false => rw [hc] at h; cases h
theorem wm_congr {w w' : Nat → Nat} {P k : Nat} (h : ∀ v, v < k → P.testBit v = false → w v = w' v) : wm w P k = wm w' P k := by
  induction k with
  | zero => rfl
  | succ k ih =>
    have e := ih (fun v hv => h v (by omega))
    rw [wm, wm, ← e]
    cases hp : P.testBit k with
    | true => split <;> simp
    | false =>
      have hk := h k (by omega) hp
      split
      · rw [hk]
      · rename_i b hb
        obtain ⟨b1, b2, -⟩ := wm_in hb
        rw [hk, h b (by omega) b2]
def ju (md : Nat → Nat) (v u : Nat) : Nat → Nat := up (up md v (md v ||| 2 ^ u)) u (up md v (md v ||| 2 ^ u) u ||| 2 ^ v)
/-- a node is joined with l others that want most -/
def sv (q : Nat) : Nat → Nat → (Nat → Nat) → (Nat → Nat) → Nat → Option ((Nat → Nat) × (Nat → Nat))
  | 0, _, w, md, _ => some (w, md)
  | l + 1, v, w, md, P => match wm w P q with
    | none => none
    | some u => sv q l v (up w u (w u - 1)) (ju md v u) (P ||| 2 ^ u)
/-- r rounds of making -/
def mkr (q : Nat) : Nat → (Nat → Nat) → (Nat → Nat) → Option ((Nat → Nat) × (Nat → Nat))
  | 0, w, md => some (w, md)
  | r + 1, w, md => match wm w 0 q with
    | none => some (w, md)
    | some v => match sv q (w v) v (up w v 0) md (2 ^ v) with
      | none => none
      | some s => mkr q r s.1 s.2
