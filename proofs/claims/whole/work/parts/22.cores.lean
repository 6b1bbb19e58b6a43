/-! edges within, loose nodes, least degrees, cores -/
theorem e2_lt {n : Nat} {f : Nat → Nat} (hG : Gr n f) (S v : Nat) (hv : v ≤ n) : e2 v f S ≤ 144 := by
  have hn := hG.1
  have h := sm_bound (g := fun u => bif S.testBit u then dg f S u else 0) (n := v) (c := 12) (fun u hu => by
    have := dg_le hG (S := S) (v := u) (by omega)
    cases S.testBit u with
    | true => show dg f S u ≤ 12; omega
    | false => exact Nat.zero_le _)
  have h2 : v * 12 ≤ 144 := by omega
  exact Nat.le_trans h h2
def tC_edgesWithin : mT := fun as h k => ∃ n f S, hC h n f ∧ as = [.inr 0, .inl (nI S)] ∧ S < 4096 ∧ k (some (nI (e1 n f S))) h
set_option maxHeartbeats 4000000 in
set_option maxRecDepth 20000 in
theorem c_C_edgesWithin : m_Con cls 0 TB y_C_edgesWithin b_C_edgesWithin 4 (some .int) 0 2 tC_edgesWithin := by
  refine m_con (code := k_C_edgesWithin) (fld := f_C) (fpt := p_C) (kon := []) (call := [(36, true, 2, tC_has), (49, false, 3, tC_degreeWithin)]) (C := R_C) (T := T_C) (N := 7) (by decide) (Or.inl ⟨rfl, rfl⟩) ok_C_edgesWithin tb_C (fun l D cA ad => m_calls ?_) ?_ ?_
  · exact List.forall_mem_cons.mpr ⟨o_C36 ⟨Nat.le_of_ble_eq_true rfl, Nat.le_of_ble_eq_true rfl⟩, List.forall_mem_cons.mpr ⟨o_C49 ⟨Nat.le_of_ble_eq_true rfl, Nat.le_of_ble_eq_true rfl⟩, fun _ h => absurd h List.not_mem_nil⟩⟩
  · rintro as h k ⟨n, f, S, ⟨j, r, q, t, d, w, rfl, hj, hG⟩, rfl, hS, hk⟩
    exact Nat.le_of_ble_eq_true rfl
  · rintro as h k ⟨n, f, S, ⟨j, r, q, t, d, w, rfl, hj, hG⟩, rfl, hS, hk⟩ V hV
    have hh : hC (mkC j (nI n) r q t d w) n f := ⟨j, r, q, t, d, w, rfl, hj, hG⟩
    have hn := hG.1
    have loop : ∀ m v acc, v + m = n → acc = e2 v f S → V (4, [some (.inr 0), some (.inl (nI S)), some (.inl (nI acc)), some (.inl (nI v))], [], mkC j (nI n) r q t d w) := by
      intro m
      induction m with
      | zero =>
        intro v acc hv hacc
        have hvn : v = n := by omega
        subst hvn
        have hb := e2_lt hG S v (Nat.le_refl _)
        refine hV 60 4 _ _ _ (br_ge (a := v) (b := v) (by omega) (by omega) (fun _ => And.intro (by decide) (nm_r (pk_div (d := 2) (by omega) (by decide) (by decide)) ?_)) (fun c => absurd c (by omega)))
        rw [hacc, e1_half hG]
        exact hk
      | succ m ih =>
        intro v acc hv hacc
        refine hV 60 4 _ _ _ (br_ge (a := v) (b := n) (by omega) (by omega) (fun c => absurd c (by omega)) (fun _ => ⟨S, v, rfl, by omega, by omega, br_eq (fun c => nm_r (nI_1 v) ?_) (fun c => ⟨n, f, S, v, hh, rfl, by omega, nm_r (nI_add _ _) (nm_r (nI_1 v) ?_)⟩)⟩))
        · exact ih (v + 1) acc (by omega) (by rw [hacc]; show _ = sm _ v + _; simp only [c]; rfl)
        · exact ih (v + 1) (acc + dg f S v) (by omega) (by rw [hacc]; show _ = sm _ v + _; simp only [c]; rfl)
    exact hV 60 0 _ _ _ (loop n 0 0 (by omega) rfl)
theorem o_C114 {D : va_G} {cA : ClassId} {ad : Nat → Nat} {l : Launch} {R : Room} (hR : 2 + 1 ≤ R.frames ∧ 32 * (2 + 1) ≤ R.locals) : m_OK D cls cA 0 ad TB l "DegreeCores" R 114 false (1 + 1) tC_edgesWithin :=
  m_okV (C := R_C) (Tu := T_C) (N := 7) rfl c_C_edgesWithin (by decide) tb_good w_C114 ⟨rfl, by decide +kernel, by decide +kernel, by decide +kernel⟩ (by decide) hR (by rintro as h k ⟨n, f, S, ⟨j, r, q, t, d, w, rfl, hj, hG⟩, rfl, hS, hk⟩; exact ⟨0, _, _, rfl, rfl⟩)
theorem mk_congr {p q : Nat → Bool} {n : Nat} (h : ∀ i, i < n → p i = q i) : mk p n = mk q n := by
  induction n with
  | zero => rfl
  | succ n ih => rw [mk, mk, ih (fun i hi => h i (by omega)), h n (by omega)]
def tC_looseIn : mT := fun as h k => ∃ n f S mm, hC h n f ∧ as = [.inr 0, .inl (nI S), .inl mm] ∧ S < 4096 ∧ k (some (nI (lo n f S (fun d => decide (nI d ≤ mm))))) h
set_option maxHeartbeats 4000000 in
set_option maxRecDepth 20000 in
theorem c_C_looseIn : m_Con cls 0 TB y_C_looseIn b_C_looseIn 5 (some .int) 0 2 tC_looseIn := by
  refine m_con (code := k_C_looseIn) (fld := f_C) (fpt := p_C) (kon := []) (call := [(36, true, 2, tC_has), (49, false, 3, tC_degreeWithin)]) (C := R_C) (T := T_C) (N := 7) (by decide) (Or.inl ⟨rfl, rfl⟩) ok_C_looseIn tb_C (fun l D cA ad => m_calls ?_) ?_ ?_
  · exact List.forall_mem_cons.mpr ⟨o_C36 ⟨Nat.le_of_ble_eq_true rfl, Nat.le_of_ble_eq_true rfl⟩, List.forall_mem_cons.mpr ⟨o_C49 ⟨Nat.le_of_ble_eq_true rfl, Nat.le_of_ble_eq_true rfl⟩, fun _ h => absurd h List.not_mem_nil⟩⟩
  · rintro as h k ⟨n, f, S, mm, ⟨j, r, q, t, d, w, rfl, hj, hG⟩, rfl, hS, hk⟩
    exact Nat.le_of_ble_eq_true rfl
  · rintro as h k ⟨n, f, S, mm, ⟨j, r, q, t, d, w, rfl, hj, hG⟩, rfl, hS, hk⟩ V hV
    have hh : hC (mkC j (nI n) r q t d w) n f := ⟨j, r, q, t, d, w, rfl, hj, hG⟩
    have hn := hG.1
    have loop : ∀ m v acc, v + m = n → acc = lo v f S (fun d => decide (nI d ≤ mm)) → V (5, [some (.inr 0), some (.inl (nI S)), some (.inl mm), some (.inl (nI acc)), some (.inl (nI v))], [], mkC j (nI n) r q t d w) := by
      intro m
      induction m with
      | zero =>
        intro v acc hv hacc
        have hvn : v = n := by omega
        subst hvn
        refine hV 60 5 _ _ _ (br_ge (a := v) (b := v) (by omega) (by omega) (fun _ => ?_) (fun c => absurd c (by omega)))
        rw [← hacc] at hk
        exact hk
      | succ m ih =>
        intro v acc hv hacc
        have e : lo (v + 1) f S (fun d => decide (nI d ≤ mm)) = acc ||| (bif S.testBit v && decide (nI (dg f S v) ≤ mm) then 2 ^ v else 0) := by rw [hacc]; rfl
        refine hV 60 5 _ _ _ (br_ge (a := v) (b := n) (by omega) (by omega) (fun c => absurd c (by omega)) (fun _ => ⟨S, v, rfl, by omega, by omega, br_eq (fun c => nm_r (nI_1 v) ?_) (fun c => ⟨n, f, S, v, hh, rfl, by omega, And.intro (fun c2 => nm_r (nI_1 v) ?_) (fun c2 => nm_r (nx_shl v (by omega)) (nm_r (nx_or _ _) (nm_r (nI_1 v) ?_)))⟩)⟩))
        · exact ih (v + 1) acc (by omega) (by rw [e, c]; simp)
        · have c2 : mm < nI (dg f S v) := c2
          exact ih (v + 1) acc (by omega) (by rw [e, decide_eq_false (Int32.not_le.mpr c2)]; simp)
        · have c2 : ¬ mm < nI (dg f S v) := c2
          exact ih (v + 1) (acc ||| 2 ^ v) (by omega) (by rw [e, c, decide_eq_true (Int32.not_lt.mp c2)]; rfl)
    exact hV 60 0 _ _ _ (loop n 0 0 (by omega) rfl)
theorem o_C63 {D : va_G} {cA : ClassId} {ad : Nat → Nat} {l : Launch} {R : Room} (hR : 2 + 1 ≤ R.frames ∧ 32 * (2 + 1) ≤ R.locals) : m_OK D cls cA 0 ad TB l "DegreeCores" R 63 false (2 + 1) tC_looseIn :=
  m_okV (C := R_C) (Tu := T_C) (N := 7) rfl c_C_looseIn (by decide) tb_good w_C63 ⟨rfl, by decide +kernel, by decide +kernel, by decide +kernel⟩ (by decide) hR (by rintro as h k ⟨n, f, S, mm, ⟨j, r, q, t, d, w, rfl, hj, hG⟩, rfl, hS, hk⟩; exact ⟨0, _, _, rfl, rfl⟩)
/-- the least degree within S, of the nodes below v -/
def ld (f : Nat → Nat) (S : Nat) : Nat → Nat
  | 0 => 12
  | v + 1 => bif S.testBit v then (if dg f S v < ld f S v then dg f S v else ld f S v) else ld f S v
theorem ld_12 (f : Nat → Nat) (S v : Nat) : ld f S v ≤ 12 := by
  induction v with
  | zero => exact Nat.le_refl _
  | succ v ih =>
    rw [ld]
    cases S.testBit v with
    | false => exact ih
    | true =>
      show (if _ then _ else _) ≤ 12
      split <;> omega
theorem ld_le {f : Nat → Nat} {S v u : Nat} (hu : u < v) (h : S.testBit u = true) : ld f S v ≤ dg f S u := by
  induction v with
  | zero => omega
  | succ v ih =>
    rw [ld]
    by_cases huv : u = v
    · subst huv
      rw [h]
      show (if _ then _ else _) ≤ _
      split <;> omega
    · have := ih (by omega)
      cases S.testBit v with
      | false => exact this
      | true =>
        show (if _ then _ else _) ≤ _
        split <;> omega
theorem ld_at {f : Nat → Nat} {S v : Nat} : ld f S v = 12 ∨ ∃ u, u < v ∧ S.testBit u = true ∧ dg f S u = ld f S v := by
  induction v with
  | zero => exact Or.inl rfl
  | succ v ih =>
    rw [ld]
    cases hs : S.testBit v with
    | false =>
      rcases ih with h | ⟨u, h1, h2, h3⟩
      · exact Or.inl h
      · exact Or.inr ⟨u, by omega, h2, h3⟩
    | true =>
      simp only [cond_true]
      split
      · exact Or.inr ⟨v, by omega, hs, rfl⟩
      · rcases ih with h | ⟨u, h1, h2, h3⟩
        · exact Or.inl h
        · exact Or.inr ⟨u, by omega, h2, h3⟩
def tC_leastDegreeWithin : mT := fun as h k => ∃ n f S, hC h n f ∧ as = [.inr 0, .inl (nI S)] ∧ S < 4096 ∧ k (some (nI (ld f S n))) h
set_option maxHeartbeats 4000000 in
set_option maxRecDepth 20000 in
theorem c_C_leastDegreeWithin : m_Con cls 0 TB y_C_leastDegreeWithin b_C_leastDegreeWithin 4 (some .int) 0 2 tC_leastDegreeWithin := by
  refine m_con (code := k_C_leastDegreeWithin) (fld := f_C) (fpt := p_C) (kon := []) (call := [(36, true, 2, tC_has), (49, false, 3, tC_degreeWithin), (74, true, 2, t_min)]) (C := R_C) (T := T_C) (N := 7) (by decide) (Or.inl ⟨rfl, rfl⟩) ok_C_leastDegreeWithin tb_C (fun l D cA ad => m_calls ?_) ?_ ?_
  · exact List.forall_mem_cons.mpr ⟨o_C36 ⟨Nat.le_of_ble_eq_true rfl, Nat.le_of_ble_eq_true rfl⟩, List.forall_mem_cons.mpr ⟨o_C49 ⟨Nat.le_of_ble_eq_true rfl, Nat.le_of_ble_eq_true rfl⟩, List.forall_mem_cons.mpr ⟨o_C74 ⟨Nat.le_of_ble_eq_true rfl, Nat.le_of_ble_eq_true rfl⟩, fun _ h => absurd h List.not_mem_nil⟩⟩⟩
  · rintro as h k ⟨n, f, S, ⟨j, r, q, t, d, w, rfl, hj, hG⟩, rfl, hS, hk⟩
    exact Nat.le_of_ble_eq_true rfl
  · rintro as h k ⟨n, f, S, ⟨j, r, q, t, d, w, rfl, hj, hG⟩, rfl, hS, hk⟩ V hV
    have hh : hC (mkC j (nI n) r q t d w) n f := ⟨j, r, q, t, d, w, rfl, hj, hG⟩
    have hn := hG.1
    have loop : ∀ m v acc, v + m = n → acc = ld f S v → V (5, [some (.inr 0), some (.inl (nI S)), some (.inl (nI acc)), some (.inl (nI v))], [], mkC j (nI n) r q t d w) := by
      intro m
      induction m with
      | zero =>
        intro v acc hv hacc
        have hvn : v = n := by omega
        subst hvn
        refine hV 60 5 _ _ _ (br_ge (a := v) (b := v) (by omega) (by omega) (fun _ => ?_) (fun c => absurd c (by omega)))
        rw [← hacc] at hk
        exact hk
      | succ m ih =>
        intro v acc hv hacc
        have h12 := ld_12 f S v
        have hdl := dg_le hG (S := S) (v := v) (by omega)
        refine hV 60 5 _ _ _ (br_ge (a := v) (b := n) (by omega) (by omega) (fun c => absurd c (by omega)) (fun _ => ⟨S, v, rfl, by omega, by omega, br_eq (fun c => nm_r (nI_1 v) ?_) (fun c => ⟨n, f, S, v, hh, rfl, by omega, ⟨_, _, rfl, nm_r (nI_1 v) ?_⟩⟩)⟩))
        · exact ih (v + 1) acc (by omega) (by rw [hacc, ld, c]; rfl)
        · have e : (if nI (dg f S v) < nI acc then nI (dg f S v) else nI acc) = nI (ld f S (v + 1)) := by
            rw [ld, c, ← hacc]
            show _ = nI (if dg f S v < acc then dg f S v else acc)
            by_cases hc : dg f S v < acc
            · rw [if_pos hc, if_pos (nI_lt hc (by omega))]
            · rw [if_neg hc, if_neg (nI_nlt (by omega) (by omega))]
          have := ih (v + 1) (ld f S (v + 1)) (by omega) rfl
          rw [← e] at this
          exact this
    exact hV 60 0 _ _ _ (loop n 0 12 (by omega) rfl)
theorem o_C60 {D : va_G} {cA : ClassId} {ad : Nat → Nat} {l : Launch} {R : Room} (hR : 2 + 1 ≤ R.frames ∧ 32 * (2 + 1) ≤ R.locals) : m_OK D cls cA 0 ad TB l "DegreeCores" R 60 false (1 + 1) tC_leastDegreeWithin :=
  m_okV (C := R_C) (Tu := T_C) (N := 7) rfl c_C_leastDegreeWithin (by decide) tb_good w_C60 ⟨rfl, by decide +kernel, by decide +kernel, by decide +kernel⟩ (by decide) hR (by rintro as h k ⟨n, f, S, ⟨j, r, q, t, d, w, rfl, hj, hG⟩, rfl, hS, hk⟩; exact ⟨0, _, _, rfl, rfl⟩)
theorem nI_m1 {d K : Nat} (hd : d ≤ 12) (hK : K < 2 ^ 31) : (nI d ≤ nI K - 1) ↔ d < K := by
  cases K with
  | zero =>
    constructor
    · intro h
      have e : nI 0 - 1 = (-1 : Int32) := by decide
      rw [e] at h
      exact absurd (Int32.le_trans (nI_pos' (n := d) (by omega)) h) (by decide)
    · intro h; omega
  | succ K =>
    rw [nI_pred, nI_leI (by omega) (by omega)]
    omega
theorem lo_congr {n : Nat} {f : Nat → Nat} {S : Nat} {c c' : Nat → Bool} (h : ∀ v, v < n → c (dg f S v) = c' (dg f S v)) : lo n f S c = lo n f S c' := mk_congr (fun v hv => by rw [h v hv])
theorem lo_lt (n : Nat) (f : Nat → Nat) (S : Nat) (c : Nat → Bool) : lo n f S c < 2 ^ n := mk_lt _ _
def tC_coreBits : mT := fun as h k => ∃ n f K, hC h n f ∧ as = [.inr 0, .inl (nI K)] ∧ K < 2 ^ 31 ∧ k (some (nI (coreC n f K n))) h
set_option maxHeartbeats 4000000 in
set_option maxRecDepth 20000 in
theorem c_C_coreBits : m_Con cls 0 TB y_C_coreBits b_C_coreBits 4 (some .int) 0 3 tC_coreBits := by
  refine m_con (code := k_C_coreBits) (fld := f_C) (fpt := p_C) (kon := []) (call := [(56, false, 1, tC_allNodes), (63, false, 3, tC_looseIn)]) (C := R_C) (T := T_C) (N := 7) (by decide) (Or.inl ⟨rfl, rfl⟩) ok_C_coreBits tb_C (fun l D cA ad => m_calls ?_) ?_ ?_
  · exact List.forall_mem_cons.mpr ⟨o_C56 ⟨Nat.le_of_ble_eq_true rfl, Nat.le_of_ble_eq_true rfl⟩, List.forall_mem_cons.mpr ⟨o_C63 ⟨Nat.le_of_ble_eq_true rfl, Nat.le_of_ble_eq_true rfl⟩, fun _ h => absurd h List.not_mem_nil⟩⟩
  · rintro as h k ⟨n, f, K, ⟨j, r, q, t, d, w, rfl, hj, hG⟩, rfl, hK, hk⟩
    exact Nat.le_of_ble_eq_true rfl
  · rintro as h k ⟨n, f, K, ⟨j, r, q, t, d, w, rfl, hj, hG⟩, rfl, hK, hk⟩ V hV
    have hh : hC (mkC j (nI n) r q t d w) n f := ⟨j, r, q, t, d, w, rfl, hj, hG⟩
    have hn := hG.1
    have h12 := p12 hn
    have loop : ∀ m v acc, v + m = n → acc = coreC n f K v → V (7, [some (.inr 0), some (.inl (nI K)), some (.inl (nI acc)), some (.inl (nI v))], [], mkC j (nI n) r q t d w) := by
      intro m
      induction m with
      | zero =>
        intro v acc hv hacc
        have hvn : v = n := by omega
        subst hvn
        refine hV 60 7 _ _ _ (br_ge (a := v) (b := v) (by omega) (by omega) (fun _ => ?_) (fun c => absurd c (by omega)))
        rw [← hacc] at hk
        exact hk
      | succ m ih =>
        intro v acc hv hacc
        have hlt := coreC_lt (n := n) (f := f) K v
        refine hV 60 7 _ _ _ (br_ge (a := v) (b := n) (by omega) (by omega) (fun c => absurd c (by omega)) (fun _ => nm_e ⟨n, f, acc, _, hh, rfl, by omega, nm_e (nm_r (nx_sd _ _) (nm_r (nI_1 v) ?_))⟩))
        refine ih (v + 1) _ (by omega) ?_
        rw [hacc]
        show sd _ _ = sd _ _
        congr 1
        refine lo_congr (fun u hu => ?_)
        have := dg_le hG (S := coreC n f K v) hu
        exact decide_eq_decide.mpr (nI_m1 (by omega) hK)
    exact hV 60 0 _ _ _ ⟨n, f, hh, rfl, loop n 0 _ (by omega) rfl⟩
theorem o_C53 {D : va_G} {cA : ClassId} {ad : Nat → Nat} {l : Launch} {R : Room} (hR : 3 + 1 ≤ R.frames ∧ 32 * (3 + 1) ≤ R.locals) : m_OK D cls cA 0 ad TB l "DegreeCores" R 53 false (1 + 1) tC_coreBits :=
  m_okV (C := R_C) (Tu := T_C) (N := 7) rfl c_C_coreBits (by decide) tb_good w_C53 ⟨rfl, by decide +kernel, by decide +kernel, by decide +kernel⟩ (by decide) hR (by rintro as h k ⟨n, f, K, ⟨j, r, q, t, d, w, rfl, hj, hG⟩, rfl, hK, hk⟩; exact ⟨0, _, _, rfl, rfl⟩)
