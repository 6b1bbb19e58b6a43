/-! rows made graphs: pure, then of the object -/
theorem tb_ju {μ : Nat → Nat} {v u : Nat} (huv : u ≠ v) (x i : Nat) : (ju μ v u x).testBit i = ((μ x).testBit i || (decide (x = v) && decide (i = u)) || (decide (x = u) && decide (i = v))) := by
  unfold ju
  by_cases h1 : x = u
  · subst h1
    rw [up_s, up_n _ _ _ huv, Nat.testBit_or, tb_pow]
    simp [huv, eq_comm]
  · rw [up_n _ _ _ h1]
    by_cases h2 : x = v
    · subst h2
      rw [up_s, Nat.testBit_or, tb_pow]
      simp [h1, eq_comm]
    · rw [up_n _ _ _ h2]
      simp [h1, h2]
section MK
variable {q : Nat}
theorem ju_gr {μ : Nat → Nat} {v u : Nat} (hG : Gr q μ) (hv : v < q) (hu : u < q) (huv : u ≠ v) : Gr q (ju μ v u) := by
  obtain ⟨h1, h2, h3, h4⟩ := hG
  have hvu : v ≠ u := fun z => huv z.symm
  refine ⟨h1, fun x hx => ?_, fun x hx => ?_, fun x y hx hy => ?_⟩
  · apply Nat.lt_pow_two_of_testBit
    intro i hi
    rw [tb_ju huv, tb_hi (h2 x hx) hi]
    simp [show ¬ i = u by omega, show ¬ i = v by omega]
  · rw [tb_ju huv, h3 x hx]
    by_cases a : x = v
    · subst a; simp [hvu]
    · simp [a]
  · rw [tb_ju huv, tb_ju huv, h4 x y hx hy]
    rw [Bool.or_assoc, Bool.or_assoc, Bool.or_comm (decide (x = v) && decide (y = u)), Bool.and_comm (decide (x = u)), Bool.and_comm (decide (x = v))]
theorem pop_add {A b m : Nat} (hA : A < 2 ^ m) (hm : m ≤ 12) (hbm : b < m) (hb : A.testBit b = false) : pop (A ||| 2 ^ b) = pop A + 1 := by
  have h1 : A ||| 2 ^ b < 2 ^ m := Nat.or_lt_two_pow hA (Nat.pow_lt_pow_right (by decide) hbm)
  have h2 := pop_rm h1 hm (b := b) (by rw [Nat.testBit_or, tb_pow]; simp)
  have h3 : sd (A ||| 2 ^ b) (2 ^ b) = A := by
    apply Nat.eq_of_testBit_eq
    intro i
    rw [tb_sd, Nat.testBit_or, tb_pow]
    by_cases hi : b = i
    · subst hi; simp [hb]
    · simp [hi]
  rw [h3] at h2
  omega
theorem mt_ju {μ : Nat → Nat} {v u : Nat} (hG : Gr q μ) (hv : v < q) (hu : u < q) (huv : u ≠ v) (hn : (μ v).testBit u = false) : mt q (ju μ v u) = mt q μ + 2 := by
  have hn2 : (μ u).testBit v = false := by rw [hG.2.2.2 u v hu hv]; exact hn
  have e1 := sm_one (g := fun x => pop (ju μ v u x)) (g' := fun x => pop (up μ v (μ v ||| 2 ^ u) x)) hu (fun i _ hi => by simp only [ju, up_n _ _ _ hi])
  have e2 := sm_one (g := fun x => pop (up μ v (μ v ||| 2 ^ u) x)) (g' := fun x => pop (μ x)) hv (fun i _ hi => by simp only [up_n _ _ _ hi])
  have k1 := pop_add (hG.2.1 v hv) hG.1 hu hn
  have k2 := pop_add (hG.2.1 u hu) hG.1 hv hn2
  simp only [ju, up_s, up_n _ _ _ huv] at e1 e2
  show sm (fun x => pop (ju μ v u x)) q = sm (fun x => pop (μ x)) q + 2
  simp only [ju, up_n _ _ _ huv]
  omega
/-- what a round of making keeps -/
def svI (q v P : Nat) (ω μ : Nat → Nat) : Prop := Gr q μ ∧ v < q ∧ P.testBit v = true ∧ ω v = 0 ∧ (∀ u, u < q → ω u ≤ 20) ∧ (∀ x y, x < q → y < q → (μ x).testBit y = true → ω x = 0 ∨ ω y = 0) ∧ ∀ u, u < q → (μ v).testBit u = true → P.testBit u = true ∨ ω u = 0
theorem sv_step {v P u : Nat} {ω μ : Nat → Nat} (h : svI q v P ω μ) (hu : wm ω P q = some u) : u < q ∧ u ≠ v ∧ 0 < ω u ∧ (μ v).testBit u = false ∧ svI q v (P ||| 2 ^ u) (up ω u (ω u - 1)) (ju μ v u) := by
  obtain ⟨h1, h2, h3, h4, h5, h6, h7⟩ := h
  obtain ⟨a1, a2, a3⟩ := wm_in hu
  have huv : u ≠ v := fun z => by rw [z, h3] at a2; cases a2
  have hvu : v ≠ u := fun z => huv z.symm
  have hnb : (μ v).testBit u = false := by
    cases hb : (μ v).testBit u with
    | false => rfl
    | true =>
      rcases h7 u a1 hb with h | h
      · rw [h] at a2; cases a2
      · omega
  have keep : ∀ x, ω x = 0 → up ω u (ω u - 1) x = 0 := fun x hx => by
    by_cases e : x = u
    · rw [e] at hx; omega
    · rw [up_n _ _ _ e]; exact hx
  refine ⟨a1, huv, a3, hnb, ju_gr h1 h2 a1 huv, h2, by rw [Nat.testBit_or, h3]; rfl, keep v h4, fun x hx => ?_, fun x y hx hy hb => ?_, fun x hx hb => ?_⟩
  · by_cases e : x = u
    · rw [e, up_s]; have := h5 u a1; omega
    · rw [up_n _ _ _ e]; exact h5 x hx
  · rw [tb_ju huv] at hb
    simp only [Bool.or_eq_true, Bool.and_eq_true, decide_eq_true_eq] at hb
    rcases hb with (hb | ⟨e, -⟩) | ⟨-, e⟩
    · rcases h6 x y hx hy hb with h | h
      · exact Or.inl (keep x h)
      · exact Or.inr (keep y h)
    · rw [e]; exact Or.inl (keep v h4)
    · rw [e]; exact Or.inr (keep v h4)
  · rw [tb_ju huv] at hb
    simp only [Bool.or_eq_true, Bool.and_eq_true, decide_eq_true_eq] at hb
    rcases hb with (hb | ⟨-, e⟩) | ⟨e, -⟩
    · rcases h7 x hx hb with h | h
      · left; rw [Nat.testBit_or, h]; rfl
      · exact Or.inr (keep x h)
    · left; rw [Nat.testBit_or, tb_pow]; simp [e]
    · exact absurd e hvu
/-- between rounds -/
def mkI (q : Nat) (ω μ : Nat → Nat) : Prop := Gr q μ ∧ (∀ u, u < q → ω u ≤ 20) ∧ ∀ x y, x < q → y < q → (μ x).testBit y = true → ω x = 0 ∨ ω y = 0
theorem sv_begin {v : Nat} {ω μ : Nat → Nat} (h : mkI q ω μ) (hv : wm ω 0 q = some v) : v < q ∧ 0 < ω v ∧ svI q v (2 ^ v) (up ω v 0) μ := by
  obtain ⟨h1, h2, h3⟩ := h
  obtain ⟨a1, -, a3⟩ := wm_in hv
  have keep : ∀ x, ω x = 0 → up ω v 0 x = 0 := fun x hx => by
    by_cases e : x = v
    · rw [e, up_s]
    · rw [up_n _ _ _ e]; exact hx
  refine ⟨a1, a3, h1, a1, by rw [tb_pow]; simp, up_s _ _ _, fun u hu => ?_, fun x y hx hy hb => ?_, fun u hu hb => ?_⟩
  · by_cases e : u = v
    · rw [e, up_s]; omega
    · rw [up_n _ _ _ e]; exact h2 u hu
  · rcases h3 x y hx hy hb with h | h
    · exact Or.inl (keep x h)
    · exact Or.inr (keep y h)
  · rcases h3 v u a1 hu hb with h | h
    · omega
    · exact Or.inr (keep u h)
theorem svI_mk {v P : Nat} {ω μ : Nat → Nat} (h : svI q v P ω μ) : mkI q ω μ := ⟨h.1, h.2.2.2.2.1, h.2.2.2.2.2.1⟩
theorem sv_mk {l v : Nat} : ∀ {P : Nat} {ω μ : Nat → Nat} {s : (Nat → Nat) × (Nat → Nat)}, svI q v P ω μ → sv q l v ω μ P = some s → mkI q s.1 s.2 ∧ mt q s.2 = mt q μ + 2 * l ∧ ∀ x, ω x = 0 → s.1 x = 0 := by
  induction l with
  | zero =>
    intro P ω μ s h e
    rw [sv] at e
    cases e
    exact ⟨svI_mk h, rfl, fun x hx => hx⟩
  | succ l ih =>
    intro P ω μ s h e
    rw [sv] at e
    split at e
    · cases e
    · rename_i u hu
      obtain ⟨b1, b2, b3, b4, b5⟩ := sv_step h hu
      obtain ⟨c1, c2, c3⟩ := ih b5 e
      rw [mt_ju h.1 h.2.1 b1 b2 b4] at c2
      refine ⟨c1, by omega, fun x hx => c3 x ?_⟩
      by_cases e : x = u
      · rw [e] at hx; omega
      · rw [up_n _ _ _ e]; exact hx
theorem mkr_none {r : Nat} {ω μ : Nat → Nat} (h : wm ω 0 q = none) : mkr q r ω μ = some (ω, μ) := by
  cases r with
  | zero => rfl
  | succ r => rw [mkr, h]
theorem mkr_mk (r : Nat) : ∀ {ω μ : Nat → Nat} {s : (Nat → Nat) × (Nat → Nat)}, mkI q ω μ → mkr q r ω μ = some s → mkI q s.1 s.2 := by
  induction r with
  | zero => intro ω μ s h e; rw [mkr] at e; cases e; exact h
  | succ r ih =>
    intro ω μ s h e
    rw [mkr] at e
    split at e
    · cases e; exact h
    · rename_i v hv
      split at e
      · cases e
      · rename_i s1 hs1
        exact ih (sv_mk (sv_begin h hv).2.2 hs1).1 e
theorem gr_z {q : Nat} (hq : q ≤ 12) : Gr q (fun _ => 0) := ⟨hq, fun _ _ => Nat.pow_pos (by decide), fun _ _ => by simp, fun _ _ _ _ => by simp⟩
theorem mk_0 {q : Nat} {g : Nat → Nat} (hq : q ≤ 12) (hg : ∀ u, u < q → g u ≤ 20) : mkI q g (fun _ => 0) := ⟨gr_z hq, hg, fun x y _ _ h => by simp at h⟩
end MK
def tC_want : mT := fun as h k => ∃ j n r q t d w x, h = mkC j n r (nI q) t d w ∧ q ≤ 12 ∧ as = [.inr 0, .inl x] ∧ (¬ (0 ≤ x ∧ x ≤ 20) → k (some (-2)) h) ∧ (0 ≤ x → x ≤ 20 → (q = 12 → k (some (-4)) h) ∧ (q < 12 → k (some (nI (q + 1))) (mkC j n (upd r q x) (nI (q + 1)) t d w)))
set_option maxHeartbeats 4000000 in
set_option maxRecDepth 20000 in
theorem c_C_want : m_Con cls 0 TB y_C_want b_C_want 2 (some .int) 0 0 tC_want := by
  refine m_con (code := k_C_want) (fld := f_C) (fpt := p_C) (kon := []) (call := []) (C := R_C) (T := T_C) (N := 7) (by decide) (Or.inl ⟨rfl, rfl⟩) ok_C_want tb_C (fun l D cA ad => m_calls ?_) ?_ ?_
  · exact fun _ h => absurd h List.not_mem_nil
  · rintro as h k ⟨j, n, r, q, t, d, w, x, rfl, hq, rfl, hk1, hk2⟩
    exact Nat.le_of_ble_eq_true rfl
  · rintro as h k ⟨j, n, r, q, t, d, w, x, rfl, hq, rfl, hk1, hk2⟩ V hV
    refine hV 60 0 _ _ _ (And.intro (fun c => hk1 (fun z => absurd c (Int32.not_lt.mpr z.1))) (fun c => And.intro (fun c2 => ?_) (fun c2 => hk1 (fun z => c2 z.2))))
    have c : ¬ x < 0 := c
    obtain ⟨h1, h2⟩ := hk2 (Int32.not_lt.mp c) c2
    refine br_lt (a := q) (b := 12) (by omega) (by omega) (fun c3 => And.intro (vp_in_nI c3 (by omega)) (nm_r (nI_1 q) ?_)) (fun c3 => h1 (by omega))
    have e : (nI q).toNatClampNeg = q := nI_clamp (by omega)
    show k (some (nI (q + 1))) (mkC j n (upd r (nI q).toNatClampNeg x) (nI (q + 1)) t d w)
    rw [e]
    exact h2 c3
def tC_unwant : mT := fun as h k => ∃ j n r q t d w, h = mkC j n r (nI q) t d w ∧ as = [.inr 0] ∧ k (some (nI q)) (mkC j n r (nI 0) t d w)
set_option maxHeartbeats 4000000 in
set_option maxRecDepth 20000 in
theorem c_C_unwant : m_Con cls 0 TB y_C_unwant b_C_unwant 2 (some .int) 0 0 tC_unwant := by
  refine m_con (code := k_C_unwant) (fld := f_C) (fpt := p_C) (kon := []) (call := []) (C := R_C) (T := T_C) (N := 7) (by decide) (Or.inl ⟨rfl, rfl⟩) ok_C_unwant tb_C (fun l D cA ad => m_calls ?_) ?_ ?_
  · exact fun _ h => absurd h List.not_mem_nil
  · rintro as h k ⟨j, n, r, q, t, d, w, rfl, rfl, hk⟩
    exact Nat.le_of_ble_eq_true rfl
  · rintro as h k ⟨j, n, r, q, t, d, w, rfl, rfl, hk⟩ V hV
    exact hV 60 0 _ _ _ hk
def oI (o : Option Nat) : Int32 := match o with
  | none => -1
  | some u => nI u
def oM (ω : Nat → Nat) (o : Option Nat) : Nat := match o with
  | none => 0
  | some u => ω u
def tC_wantsMost : mT := fun as h k => ∃ j n r q t d w ω P, h = mkC j n r (nI q) t d w ∧ q ≤ 12 ∧ (∀ v, v < q → w v = nI (ω v) ∧ ω v ≤ 20) ∧ as = [.inr 0, .inl (nI P)] ∧ P < 4096 ∧ k (some (oI (wm ω P q))) h
set_option maxHeartbeats 4000000 in
set_option maxRecDepth 20000 in
theorem c_C_wantsMost : m_Con cls 0 TB y_C_wantsMost b_C_wantsMost 5 (some .int) 0 1 tC_wantsMost := by
  refine m_con (code := k_C_wantsMost) (fld := f_C) (fpt := p_C) (kon := []) (call := [(36, true, 2, tC_has)]) (C := R_C) (T := T_C) (N := 7) (by decide) (Or.inl ⟨rfl, rfl⟩) ok_C_wantsMost tb_C (fun l D cA ad => m_calls ?_) ?_ ?_
  · exact List.forall_mem_cons.mpr ⟨o_C36 ⟨Nat.le_of_ble_eq_true rfl, Nat.le_of_ble_eq_true rfl⟩, fun _ h => absurd h List.not_mem_nil⟩
  · rintro as h k ⟨j, n, r, q, t, d, w, ω, P, rfl, hq, hw, rfl, hP, hk⟩
    exact Nat.le_of_ble_eq_true rfl
  · rintro as h k ⟨j, n, r, q, t, d, w, ω, P, rfl, hq, hw, rfl, hP, hk⟩ V hV
    have loop : ∀ m v, v + m = q → V (7, [some (.inr 0), some (.inl (nI P)), some (.inl (oI (wm ω P v))), some (.inl (nI (oM ω (wm ω P v)))), some (.inl (nI v))], [], mkC j n r (nI q) t d w) := by
      intro m
      induction m with
      | zero =>
        intro v hv
        have e : v = q := by omega
        subst e
        exact hV 60 7 _ _ _ (br_ge (a := v) (b := v) (by omega) (by omega) (fun _ => hk) (fun c => absurd c (by omega)))
      | succ m ih =>
        intro v hv
        have hn := ih (v + 1) (by omega)
        have hm : oM ω (wm ω P v) ≤ 20 := by
          cases hb : wm ω P v with
          | none => exact Nat.zero_le _
          | some b => exact (hw b (by have := (wm_in hb).1; omega)).2
        have hv20 := (hw v (by omega)).2
        have ev : w (nI v).toNatClampNeg = nI (ω v) := by rw [nI_clamp (by omega), (hw v (by omega)).1]
        refine hV 60 7 _ _ _ (br_ge (a := v) (b := q) (by omega) (by omega) (fun c => absurd c (by omega)) (fun _ => ⟨P, v, rfl, by omega, by omega, br_ne (fun c => nm_r (nI_1 v) ?_) (fun c => And.intro (vp_in_nI (by omega) (by omega)) (nm_r ev (br_le (a := ω v) (b := oM ω (wm ω P v)) (by omega) (by omega) (fun c2 => nm_r (nI_1 v) ?_) (fun c2 => And.intro (vp_in_nI (by omega) (by omega)) (nm_r ev (nm_r (nI_1 v) ?_))))))⟩))
        · have e : wm ω P (v + 1) = wm ω P v := by
            rw [wm, c]
            cases wm ω P v <;> rfl
          rw [e] at hn
          exact hn
        · have e : wm ω P (v + 1) = wm ω P v := by
            rw [wm, c]
            cases hb : wm ω P v with
            | none =>
              rw [hb] at c2
              have : ¬ 0 < ω v := by have : oM ω none = 0 := rfl; omega
              simp [this]
            | some b =>
              rw [hb] at c2
              have : ¬ ω b < ω v := by have : oM ω (some b) = ω b := rfl; omega
              simp [this]
          rw [e] at hn
          exact hn
        · have e : wm ω P (v + 1) = some v := by
            rw [wm, c]
            cases hb : wm ω P v with
            | none =>
              rw [hb] at c2
              have : 0 < ω v := by have : oM ω none = 0 := rfl; omega
              simp [this]
            | some b =>
              rw [hb] at c2
              have : ω b < ω v := by have : oM ω (some b) = ω b := rfl; omega
              simp [this]
          rw [e] at hn
          exact hn
    exact hV 60 0 _ _ _ (loop q 0 (by omega))
theorem o_C143 {D : va_G} {cA : ClassId} {ad : Nat → Nat} {l : Launch} {R : Room} (hR : 1 + 1 ≤ R.frames ∧ 32 * (1 + 1) ≤ R.locals) : m_OK D cls cA 0 ad TB l "DegreeCores" R 143 false (1 + 1) tC_wantsMost :=
  m_okV (C := R_C) (Tu := T_C) (N := 7) rfl c_C_wantsMost (by decide) tb_good w_C143 ⟨rfl, by decide +kernel, by decide +kernel, by decide +kernel⟩ (by decide) hR (by rintro as h k ⟨j, n, r, q, t, d, w, ω, P, rfl, hq, hw, rfl, hP, hk⟩; exact ⟨0, _, _, rfl, rfl⟩)
/-- rows as the numbers say -/
def hR (q : Nat) (d : Nat → Int32) (μ : Nat → Nat) : Prop := ∀ v, v < q → d v = nI (μ v)
def tC_serve : mT := fun as h k => ∃ j n r q t d w ω μ v, h = mkC j n r (nI q) t d w ∧ q ≤ 12 ∧ hR q w ω ∧ hR q d μ ∧ mkI q ω μ ∧ wm ω 0 q = some v ∧ as = [.inr 0, .inl (nI v)] ∧
  (sv q (ω v) v (up ω v 0) μ (2 ^ v) = none → ∀ d' w', k (some 0) (mkC j n r (nI q) t d' w')) ∧ (∀ s, sv q (ω v) v (up ω v 0) μ (2 ^ v) = some s → ∀ d' w', hR q w' s.1 → hR q d' s.2 → k (some 1) (mkC j n r (nI q) t d' w'))
theorem hR_ju {q : Nat} {d : Nat → Int32} {μ : Nat → Nat} {v u : Nat} (h : hR q d μ) (huv : u ≠ v) : hR q (upd (upd d v (nI (μ v ||| 2 ^ u))) u (nI (μ u ||| 2 ^ v))) (ju μ v u) := by
  intro x hx
  unfold ju
  by_cases h1 : x = u
  · subst h1
    rw [upd_u, up_s, up_n _ _ _ huv]
  · rw [upd_n h1, up_n _ _ _ h1]
    by_cases h2 : x = v
    · subst h2
      rw [upd_u, up_s]
    · rw [upd_n h2, up_n _ _ _ h2, h x hx]
set_option maxHeartbeats 4000000 in
set_option maxRecDepth 20000 in
theorem c_C_serve : m_Con cls 0 TB y_C_serve b_C_serve 5 (some .boolean) 1 2 tC_serve := by
  refine m_con (code := k_C_serve) (fld := f_C) (fpt := p_C) (kon := []) (call := [(143, false, 2, tC_wantsMost)]) (C := R_C) (T := T_C) (N := 7) (by decide) (Or.inr (Or.inl ⟨rfl, rfl⟩)) ok_C_serve tb_C (fun l D cA ad => m_calls ?_) ?_ ?_
  · exact List.forall_mem_cons.mpr ⟨o_C143 ⟨Nat.le_of_ble_eq_true rfl, Nat.le_of_ble_eq_true rfl⟩, fun _ h => absurd h List.not_mem_nil⟩
  · rintro as h k ⟨j, n, r, q, t, d, w, ω0, μ0, v, rfl, hq, hw, hd, hmk, hwm, rfl, hk1, hk2⟩
    exact Nat.le_of_ble_eq_true rfl
  · rintro as h k ⟨j, n, r, q, t, d, w, ω0, μ0, v, rfl, hq, hw, hd, hmk, hwm, rfl, hk1, hk2⟩ V hV
    obtain ⟨hv, hpos, hsv⟩ := sv_begin hmk hwm
    have hv20 := hmk.2.1 v hv
    have hcv : (nI v).toNatClampNeg = v := nI_clamp (by omega)
    have h12 := p12 hq
    have loop : ∀ l P ω μ d w (z : Option mV), P < 2 ^ q → l ≤ 20 → svI q v P ω μ → (∀ u, u < q → u ≠ v → w u = nI (ω u)) → w v = nI (ω0 v) → hR q d μ → sv q l v ω μ P = sv q (ω0 v) v (up ω0 v 0) μ0 (2 ^ v) → V (11, [some (.inr 0), some (.inl (nI v)), some (.inl (nI P)), some (.inl (nI l)), z], [], mkC j n r (nI q) t d w) := by
      intro l
      induction l with
      | zero =>
        intro P ω μ d w z hP hl hI hw1 hw2 hd he
        refine hV 80 11 _ _ _ (br_le (a := 0) (b := 0) (by omega) (by omega) (fun _ => And.intro (vp_in_nI (by omega) (by omega)) (And.intro (Or.inr rfl) ?_)) (fun c => absurd c (by omega)))
        rw [sv] at he
        refine hk2 _ he.symm _ _ (fun u hu => ?_) hd
        show upd w (nI v).toNatClampNeg 0 u = nI (ω u)
        rw [hcv]
        by_cases e : u = v
        · rw [e, upd_u, hI.2.2.2.1]; rfl
        · rw [upd_n e]; exact hw1 u hu e
      | succ l ih =>
        intro P ω μ d w z hP hl hI hw1 hw2 hd he
        refine hV 80 11 _ _ _ (br_le (a := l + 1) (b := 0) (by omega) (by omega) (fun c => absurd c (by omega)) (fun _ => ⟨j, n, r, q, t, d, w, up ω v (ω0 v), P, rfl, hq, fun u hu => ?_, rfl, by omega, ?_⟩))
        · by_cases e : u = v
          · rw [e, up_s]; exact ⟨hw2, hv20⟩
          · rw [up_n _ _ _ e]; exact ⟨hw1 u hu e, hI.2.2.2.2.1 u hu⟩
        · rw [wm_congr (w' := ω) (fun u hu hp => by
            by_cases e : u = v
            · rw [e, hI.2.2.1] at hp; cases hp
            · rw [up_n _ _ _ e])]
          rw [sv] at he
          cases hu : wm ω P q with
          | none =>
            rw [hu] at he
            refine And.intro (fun c => absurd c (by decide)) (fun c => And.intro (Or.inl rfl) (hk1 he.symm _ _))
          | some u =>
            rw [hu] at he
            obtain ⟨b1, b2, b3, b4, b5⟩ := sv_step hI hu
            have hcu : (nI u).toNatClampNeg = u := nI_clamp (by omega)
            rw [show oI (some u) = nI u from rfl]
            have hvu : v ≠ u := fun z => b2 z.symm
            refine And.intro (fun c => ?_) (fun c => absurd (nI_pos' (by omega)) c)
            refine And.intro (vp_in_nI (by omega) (by omega)) (nm_r (e' := nI (μ v)) (by rw [hcv, hd v hv]) (nm_r (nx_shl u (by omega)) (nm_r (nx_or _ _) (And.intro (vp_in_nI (by omega) (by omega)) ?_))))
            refine And.intro (vp_in_nI (by omega) (by omega)) (nm_r (e' := nI (μ u)) (by rw [hcv, hcu, upd_n b2, hd u b1]) (nm_r (nx_shl v (by omega)) (nm_r (nx_or _ _) (And.intro (vp_in_nI (by omega) (by omega)) ?_))))
            refine And.intro (vp_in_nI (by omega) (by omega)) (nm_r (e' := nI (ω u)) (by rw [hcu, hw1 u b1 b2]) (nm_r (pk_sub (b := 1) b3) (And.intro (vp_in_nI (by omega) (by omega)) (nm_r (nx_shl u (by omega)) (nm_r (nx_or _ _) (nm_r (pk_m1 l) ?_))))))
            have := ih (P ||| 2 ^ u) (up ω u (ω u - 1)) (ju μ v u) (upd (upd d v (nI (μ v ||| 2 ^ u))) u (nI (μ u ||| 2 ^ v))) (upd w u (nI (ω u - 1))) (some (.inl (nI u))) (Nat.or_lt_two_pow hP (Nat.pow_lt_pow_right (by decide) b1)) (by omega) b5 (fun x hx hxv => by
              by_cases e : x = u
              · rw [e, upd_u, up_s]
              · rw [upd_n e, up_n _ _ _ e]; exact hw1 x hx hxv) (by rw [upd_n hvu]; exact hw2) (hR_ju hd b2) he
            show V (11, [some (.inr 0), some (.inl (nI v)), some (.inl (nI (P ||| 2 ^ u))), some (.inl (nI l)), some (.inl (nI u))], [], mkC j n r (nI q) t (upd (upd d (nI v).toNatClampNeg (nI (μ v ||| 2 ^ u))) (nI u).toNatClampNeg (nI (μ u ||| 2 ^ v))) (upd w (nI u).toNatClampNeg (nI (ω u - 1))))
            rw [hcv, hcu]
            exact this
    refine hV 80 0 _ _ _ (nm_r (nx_shl v (by omega)) (And.intro (vp_in_nI (by omega) (by omega)) (nm_r (e' := nI (ω0 v)) (by rw [hcv, hw v hv]) ?_)))
    exact loop (ω0 v) (2 ^ v) (up ω0 v 0) μ0 d w none (Nat.pow_lt_pow_right (by decide) hv) hv20 hsv (fun u hu e => by rw [up_n _ _ _ e]; exact hw u hu) (hw v hv) hd rfl
theorem o_C146 {D : va_G} {cA : ClassId} {ad : Nat → Nat} {l : Launch} {R : Room} (hR : 2 + 1 ≤ R.frames ∧ 32 * (2 + 1) ≤ R.locals) : m_OK D cls cA 0 ad TB l "DegreeCores" R 146 false (1 + 1) tC_serve :=
  m_okV (C := R_C) (Tu := T_C) (N := 7) rfl c_C_serve (by decide) tb_good w_C146 ⟨rfl, by decide +kernel, by decide +kernel, by decide +kernel⟩ (by decide) hR (by rintro as h k ⟨j, n, r, q, t, d, w, ω0, μ0, v, rfl, hq, hw, hd, hmk, hwm, rfl, hk1, hk2⟩; exact ⟨0, _, _, rfl, rfl⟩)
def tC_tryMaking : mT := fun as h k => ∃ j n r q t d w g, h = mkC j n r (nI q) t d w ∧ q ≤ 12 ∧ hR q r g ∧ (∀ v, v < q → g v ≤ 20) ∧ as = [.inr 0] ∧
  (mkr q q g (fun _ => 0) = none → ∀ d' w', k (some 0) (mkC j n r (nI q) t d' w')) ∧ (∀ s, mkr q q g (fun _ => 0) = some s → ∀ d' w', hR q d' s.2 → k (some 1) (mkC j n r (nI q) t d' w'))
set_option maxHeartbeats 4000000 in
set_option maxRecDepth 20000 in
theorem c_C_tryMaking : m_Con cls 0 TB y_C_tryMaking b_C_tryMaking 3 (some .boolean) 1 3 tC_tryMaking := by
  refine m_con (code := k_C_tryMaking) (fld := f_C) (fpt := p_C) (kon := []) (call := [(91, true, 5, t_copy), (143, false, 2, tC_wantsMost), (146, false, 2, tC_serve)]) (C := R_C) (T := T_C) (N := 7) (by decide) (Or.inr (Or.inl ⟨rfl, rfl⟩)) ok_C_tryMaking tb_C (fun l D cA ad => m_calls ?_) ?_ ?_
  · exact List.forall_mem_cons.mpr ⟨o_C91 ⟨Nat.le_of_ble_eq_true rfl, Nat.le_of_ble_eq_true rfl⟩, List.forall_mem_cons.mpr ⟨o_C143 ⟨Nat.le_of_ble_eq_true rfl, Nat.le_of_ble_eq_true rfl⟩, List.forall_mem_cons.mpr ⟨o_C146 ⟨Nat.le_of_ble_eq_true rfl, Nat.le_of_ble_eq_true rfl⟩, fun _ h => absurd h List.not_mem_nil⟩⟩⟩
  · rintro as h k ⟨j, n, r, q, t, d, w, g, rfl, hq, hr, hg, rfl, hk1, hk2⟩
    exact Nat.le_of_ble_eq_true rfl
  · rintro as h k ⟨j, n, r, q, t, d, w, g, rfl, hq, hr, hg, rfl, hk1, hk2⟩ V hV
    have loop2 : ∀ m i ω μ d w (z : Option mV), i + m = q → mkI q ω μ → hR q w ω → hR q d μ → mkr q m ω μ = mkr q q g (fun _ => 0) → V (42, [some (.inr 0), some (.inl (nI i)), z], [], mkC j n r (nI q) t d w) := by
      intro m
      induction m with
      | zero =>
        intro i ω μ d w z hi hI hw hd he
        refine hV 80 42 _ _ _ (br_ge (a := i) (b := q) (by omega) (by omega) (fun _ => And.intro (Or.inr rfl) ?_) (fun c => absurd c (by omega)))
        exact hk2 _ he.symm _ _ hd
      | succ m ih =>
        intro i ω μ d w z hi hI hw hd he
        refine hV 80 42 _ _ _ (br_ge (a := i) (b := q) (by omega) (by omega) (fun c => absurd c (by omega)) (fun _ => ⟨j, n, r, q, t, d, w, ω, 0, rfl, hq, fun v hv => ⟨hw v hv, hI.2.1 v hv⟩, rfl, by omega, ?_⟩))
        cases hu : wm ω 0 q with
        | none =>
          refine And.intro (fun c => nm_r (nI_1 i) ?_) (fun c => absurd (show (-1 : Int32) < 0 by decide) c)
          rw [mkr_none hu] at he
          exact ih (i + 1) ω μ d w _ (by omega) hI hw hd (by rw [mkr_none hu]; exact he)
        | some v =>
          rw [mkr, hu] at he
          dsimp only at he
          have hv := (wm_in hu).1
          refine And.intro (fun c => absurd c (nI_pos (by omega))) (fun c => ⟨j, n, r, q, t, d, w, ω, μ, v, rfl, hq, hw, hd, hI, hu, rfl, ?_, ?_⟩)
          · intro hs d' w'
            rw [hs] at he
            exact And.intro (fun c => absurd rfl c) (fun _ => And.intro (Or.inl rfl) (hk1 he.symm d' w'))
          · intro s hs d' w' hw' hd'
            rw [hs] at he
            refine And.intro (fun _ => nm_r (nI_1 i) ?_) (fun c => absurd c (by decide))
            exact ih (i + 1) s.1 s.2 d' w' _ (by omega) (sv_mk (sv_begin hI hu).2.2 hs).1 hw' hd' he
    have loop1 : ∀ m i d w (z : Option mV), i + m = q → hR q w g → hR i d (fun _ => 0) → V (19, [some (.inr 0), some (.inl (nI i)), z], [], mkC j n r (nI q) t d w) := by
      intro m
      induction m with
      | zero =>
        intro i d w z hi hw hd
        have e : i = q := by omega
        subst e
        exact hV 80 19 _ _ _ (br_ge (a := i) (b := i) (by omega) (by omega) (fun _ => loop2 i 0 g (fun _ => 0) d w _ (by omega) (mk_0 hq hg) hw hd rfl) (fun c => absurd c (by omega)))
      | succ m ih =>
        intro i d w z hi hw hd
        refine hV 80 19 _ _ _ (br_ge (a := i) (b := q) (by omega) (by omega) (fun c => absurd c (by omega)) (fun _ => And.intro (vp_in_nI (by omega) (by omega)) (nm_r (nI_1 i) ?_)))
        refine ih (i + 1) _ w _ (by omega) hw (fun v hv => ?_)
        show upd d (nI i).toNatClampNeg 0 v = nI 0
        rw [nI_clamp (by omega)]
        by_cases e : v = i
        · rw [e, upd_u]; rfl
        · rw [upd_n e]; exact hd v (by omega)
    refine hV 80 0 _ _ _ ⟨2, 5, 12, 12, q, r, w, rfl, rfl, rfl, by omega, by omega, by omega, ?_⟩
    refine loop1 q 0 d _ none (by omega) (fun v hv => ?_) (fun v hv => by omega)
    rw [pk_cpy_in (Nat.zero_le v) (by omega), Nat.zero_add, Nat.sub_zero, hr v hv]
theorem o_C139 {D : va_G} {cA : ClassId} {ad : Nat → Nat} {l : Launch} {R : Room} (hR : 3 + 1 ≤ R.frames ∧ 32 * (3 + 1) ≤ R.locals) : m_OK D cls cA 0 ad TB l "DegreeCores" R 139 false (0 + 1) tC_tryMaking :=
  m_okV (C := R_C) (Tu := T_C) (N := 7) rfl c_C_tryMaking (by decide) tb_good w_C139 ⟨rfl, by decide +kernel, by decide +kernel, by decide +kernel⟩ (by decide) hR (by rintro as h k ⟨j, n, r, q, t, d, w, g, rfl, hq, hr, hg, rfl, hk1, hk2⟩; exact ⟨0, _, _, rfl, rfl⟩)
def tC_graphic : mT := fun as h k => ∃ j n r q t d w g, h = mkC j n r (nI q) t d w ∧ q ≤ 12 ∧ hR q r g ∧ (∀ v, v < q → g v ≤ 20) ∧ as = [.inr 0] ∧ ∀ d' w', k (some (b2i (mkr q q g (fun _ => 0)).isSome)) (mkC j n r (nI q) t d' w')
set_option maxHeartbeats 4000000 in
set_option maxRecDepth 20000 in
theorem c_C_graphic : m_Con cls 0 TB y_C_graphic b_C_graphic 1 (some .int) 0 4 tC_graphic := by
  refine m_con (code := k_C_graphic) (fld := f_C) (fpt := p_C) (kon := []) (call := [(139, false, 1, tC_tryMaking)]) (C := R_C) (T := T_C) (N := 7) (by decide) (Or.inl ⟨rfl, rfl⟩) ok_C_graphic tb_C (fun l D cA ad => m_calls ?_) ?_ ?_
  · exact List.forall_mem_cons.mpr ⟨o_C139 ⟨Nat.le_of_ble_eq_true rfl, Nat.le_of_ble_eq_true rfl⟩, fun _ h => absurd h List.not_mem_nil⟩
  · rintro as h k ⟨j, n, r, q, t, d, w, g, rfl, hq, hr, hg, rfl, hk⟩
    exact Nat.le_of_ble_eq_true rfl
  · rintro as h k ⟨j, n, r, q, t, d, w, g, rfl, hq, hr, hg, rfl, hk⟩ V hV
    refine hV 80 0 _ _ _ ⟨j, n, r, q, t, d, w, g, rfl, hq, hr, hg, rfl, fun e d' w' => ?_, fun s e d' w' _ => ?_⟩
    · rw [e] at hk
      exact And.intro (fun _ => hk d' w') (fun c => absurd rfl c)
    · rw [e] at hk
      exact And.intro (fun c => absurd c (by decide)) (fun _ => hk d' w')
def tC_make : mT := fun as h k => ∃ j n r q t d w g, h = mkC j n r (nI q) t d w ∧ q ≤ 12 ∧ hR q r g ∧ (∀ v, v < q → g v ≤ 20) ∧ as = [.inr 0] ∧
  (mkr q q g (fun _ => 0) = none → ∀ d' w', k (some (-3)) (mkC j n r (nI q) t d' w')) ∧ (∀ s, mkr q q g (fun _ => 0) = some s → ∀ j' d' w', hR q j' s.2 → k (some (nI (e1 q s.2 (2 ^ q - 1)))) (mkC j' (nI q) r (nI q) t d' w'))
set_option maxHeartbeats 4000000 in
set_option maxRecDepth 20000 in
theorem c_C_make : m_Con cls 0 TB y_C_make b_C_make 1 (some .int) 0 4 tC_make := by
  refine m_con (code := k_C_make) (fld := f_C) (fpt := p_C) (kon := []) (call := [(139, false, 1, tC_tryMaking), (91, true, 5, t_copy), (56, false, 1, tC_allNodes), (114, false, 2, tC_edgesWithin)]) (C := R_C) (T := T_C) (N := 7) (by decide) (Or.inl ⟨rfl, rfl⟩) ok_C_make tb_C (fun l D cA ad => m_calls ?_) ?_ ?_
  · exact List.forall_mem_cons.mpr ⟨o_C139 ⟨Nat.le_of_ble_eq_true rfl, Nat.le_of_ble_eq_true rfl⟩, List.forall_mem_cons.mpr ⟨o_C91 ⟨Nat.le_of_ble_eq_true rfl, Nat.le_of_ble_eq_true rfl⟩, List.forall_mem_cons.mpr ⟨o_C56 ⟨Nat.le_of_ble_eq_true rfl, Nat.le_of_ble_eq_true rfl⟩, List.forall_mem_cons.mpr ⟨o_C114 ⟨Nat.le_of_ble_eq_true rfl, Nat.le_of_ble_eq_true rfl⟩, fun _ h => absurd h List.not_mem_nil⟩⟩⟩⟩
  · rintro as h k ⟨j, n, r, q, t, d, w, g, rfl, hq, hr, hg, rfl, hk1, hk2⟩
    exact Nat.le_of_ble_eq_true rfl
  · rintro as h k ⟨j, n, r, q, t, d, w, g, rfl, hq, hr, hg, rfl, hk1, hk2⟩ V hV
    have h12 := p12 hq
    refine hV 80 0 _ _ _ ⟨j, n, r, q, t, d, w, g, rfl, hq, hr, hg, rfl, fun e d' w' => ?_, fun s e d' w' hd' => ?_⟩
    · exact And.intro (fun c => absurd rfl c) (fun _ => hk1 e d' w')
    · refine And.intro (fun _ => ?_) (fun c => absurd c (by decide))
      refine ⟨4, 1, 12, 12, q, d', j, rfl, rfl, rfl, by omega, by omega, by omega, ?_⟩
      have hG := (mkr_mk q (mk_0 hq hg) e).1
      have hj : hR q (va_cpy d' j 0 0 q) s.2 := fun v hv => by rw [pk_cpy_in (Nat.zero_le v) (by omega), Nat.zero_add, Nat.sub_zero, hd' v hv]
      have hh : hC (mkC (va_cpy d' j 0 0 q) (nI q) r (nI q) t d' w') q s.2 := ⟨_, r, _, t, d', w', rfl, hj, hG⟩
      have hp := pw_pos q
      exact ⟨q, s.2, hh, rfl, ⟨q, s.2, _, hh, rfl, by omega, hk2 s e _ d' w' hj⟩⟩
