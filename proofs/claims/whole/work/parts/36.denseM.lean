/-! the reference: the densest, cuts, firmness, the rich -/
def tM_edgesIn : mT := fun as h k => ∃ n f S, hM h n f ∧ as = [.inr 0, .inl (nI S)] ∧ S < 4096 ∧ k (some (nI (e1 n f S))) h
set_option maxHeartbeats 4000000 in
set_option maxRecDepth 20000 in
theorem c_M_edgesIn : m_Con cls 1 TB y_M_edgesIn b_M_edgesIn 4 (some .int) 0 1 tM_edgesIn := by
  refine m_con (code := k_M_edgesIn) (fld := f_M) (fpt := p_M) (kon := []) (call := [(44, true, 1, tM_count)]) (C := R_M) (T := T_M) (N := 13) (by decide) (Or.inl ⟨rfl, rfl⟩) ok_M_edgesIn tb_M (fun l D cA ad => m_calls ?_) ?_ ?_
  · exact List.forall_mem_cons.mpr ⟨o_M44 ⟨Nat.le_of_ble_eq_true rfl, Nat.le_of_ble_eq_true rfl⟩, fun _ h => absurd h List.not_mem_nil⟩
  · rintro as h k ⟨n, f, S, ⟨j, z, rfl, hj, hG⟩, rfl, hS, hk⟩
    exact Nat.le_of_ble_eq_true rfl
  · rintro as h k ⟨n, f, S, ⟨j, z, rfl, hj, hG⟩, rfl, hS, hk⟩ V hV
    have hn := hG.1
    have loop : ∀ m v acc, v + m = n → acc = e2 v f S → V (4, [some (.inr 0), some (.inl (nI S)), some (.inl (nI acc)), some (.inl (nI v))], [], mkM (nI n) j z) := by
      intro m
      induction m with
      | zero =>
        intro v acc hv hacc
        have hvn : v = n := by omega
        subst hvn
        have hb := e2_lt hG S v (Nat.le_refl _)
        refine hV 60 4 _ _ _ (br_ge (a := v) (b := v) (by omega) (by omega) (fun _ => And.intro (by decide) (nm_r (pk_div (d := 2) (by omega) (by decide) (by decide)) ?_)) (fun c => absurd c (by omega)))
        rw [hacc, e1_half hG]
        exact hk
      | succ m ih =>
        intro v acc hv hacc
        refine hV 60 4 _ _ _ (br_ge (a := v) (b := n) (by omega) (by omega) (fun c => absurd c (by omega)) (fun _ => nm_e (nm_r (nx_bit (by omega) (by omega)) (br_bn (fun c => nm_r (nI_add _ 0) (nm_r (nI_1 v) ?_)) (fun c => And.intro (vp_in_nI (by omega) (by omega)) (nm_r (by rw [clamp12 (v := v) (n := n) (by omega) hn, hj v (by omega)]) (nm_r (nx_and _ _) ⟨_, rfl, Nat.lt_of_le_of_lt Nat.and_le_left (g31 hG (by omega)), nm_r (nI_add _ _) (nm_r (nI_1 v) ?_)⟩)))))))
        · exact ih (v + 1) (acc + 0) (by omega) (by rw [hacc]; show _ = sm _ v + _; simp only [c]; rfl)
        · exact ih (v + 1) _ (by omega) (by rw [hacc]; show _ = sm _ v + _; simp only [c]; rfl)
    exact hV 60 0 _ _ _ (loop n 0 0 (by omega) rfl)
theorem o_M84 {D : va_G} {cA : ClassId} {ad : Nat → Nat} {l : Launch} {R : Room} (hR : 1 + 1 ≤ R.frames ∧ 32 * (1 + 1) ≤ R.locals) : m_OK D cls cA 1 ad TB l "DegreeCoresModel" R 84 false (1 + 1) tM_edgesIn :=
  m_okV (C := R_M) (Tu := T_M) (N := 13) rfl c_M_edgesIn (by decide) tb_good w_M84 ⟨rfl, by decide +kernel, by decide +kernel, by decide +kernel⟩ (by decide) hR (by rintro as h k ⟨n, f, S, ⟨j, z, rfl, hj, hG⟩, rfl, hS, hk⟩; exact ⟨0, _, _, rfl, rfl⟩)
def tM_densestOf : mT := fun as h k => ∃ n f, hM h n f ∧ as = [.inr 0] ∧ 0 < n ∧ ∀ S, isDen n f S → k (some (nI S)) h
set_option maxHeartbeats 4000000 in
set_option maxRecDepth 20000 in
theorem c_M_densestOf : m_Con cls 1 TB y_M_densestOf b_M_densestOf 5 (some .int) 0 2 tM_densestOf := by
  refine m_con (code := k_M_densestOf) (fld := f_M) (fpt := p_M) (kon := []) (call := [(48, false, 1, tM_all), (84, false, 2, tM_edgesIn), (44, true, 1, tM_count)]) (C := R_M) (T := T_M) (N := 13) (by decide) (Or.inl ⟨rfl, rfl⟩) ok_M_densestOf tb_M (fun l D cA ad => m_calls ?_) ?_ ?_
  · exact List.forall_mem_cons.mpr ⟨o_M48 ⟨Nat.le_of_ble_eq_true rfl, Nat.le_of_ble_eq_true rfl⟩, List.forall_mem_cons.mpr ⟨o_M84 ⟨Nat.le_of_ble_eq_true rfl, Nat.le_of_ble_eq_true rfl⟩, List.forall_mem_cons.mpr ⟨o_M44 ⟨Nat.le_of_ble_eq_true rfl, Nat.le_of_ble_eq_true rfl⟩, fun _ h => absurd h List.not_mem_nil⟩⟩⟩
  · rintro as h k ⟨n, f, ⟨j, z, rfl, hj, hG⟩, rfl, h0, hk⟩
    exact Nat.le_of_ble_eq_true rfl
  · rintro as h k ⟨n, f, ⟨j, z, rfl, hj, hG⟩, rfl, h0, hk⟩ V hV
    have hh : hM (mkM (nI n) j z) n f := ⟨j, z, rfl, hj, hG⟩
    have hn := hG.1
    have h12 := p12 hn
    have h1n : 1 < 2 ^ n := Nat.one_lt_two_pow (by omega)
    have pl : ∀ S, S < 2 ^ n → pop S ≤ 12 := fun S hS => by have := pop_le hS hn; omega
    have loop : ∀ m s b (y3 y4 : Option mV), s + 1 + m = 2 ^ n → dmI n f s b → V (4, [some (.inr 0), some (.inl (nI b)), some (.inl (nI (s + 1))), y3, y4], [], mkM (nI n) j z) := by
      intro m
      induction m with
      | zero =>
        intro s b y3 y4 hs hI
        refine hV 60 4 _ _ _ ⟨n, f, hh, rfl, br_gt (a := s + 1) (b := 2 ^ n - 1) (by omega) (by omega) (fun _ => ?_) (fun c => absurd c (by omega))⟩
        have e : s = 2 ^ n - 1 := by omega
        rw [e] at hI
        exact hk b (dm_end hI)
      | succ m ih =>
        intro s b y3 y4 hs hI
        have hb := hI.1
        have hsl : s + 1 < 2 ^ n := by omega
        have x1 := e1_72 hG (s + 1)
        have x2 := e1_72 hG b
        have x3 := pl _ hsl
        have x4 := pl _ hb
        have m1 := mul_100 (a := e1 n f (s + 1)) (b := pop b) (by omega) (by omega)
        have m2 := mul_100 (a := e1 n f b) (b := pop (s + 1)) (by omega) (by omega)
        refine hV 60 4 _ _ _ ⟨n, f, hh, rfl, br_gt (a := s + 1) (b := 2 ^ n - 1) (by omega) (by omega) (fun c => absurd c (by omega)) (fun _ => ⟨n, f, _, hh, rfl, by omega, ⟨_, rfl, by omega, nm_r (pk_mul _ _) ⟨n, f, _, hh, rfl, by omega, ⟨_, rfl, by omega, nm_r (pk_mul _ _) (br_le (a := e1 n f (s + 1) * pop b) (b := e1 n f b * pop (s + 1)) (by omega) (by omega) (fun c => br_n (a := e1 n f (s + 1) * pop b) (b := e1 n f b * pop (s + 1)) (by omega) (by omega) (fun c2 => nm_r (nI_1 _) ?_) (fun c2 => nm_r (nx_or _ _) (nm_r (nI_1 _) ?_))) (fun c => nm_r (nI_1 _) ?_))⟩⟩⟩⟩)⟩
        · exact ih (s + 1) b _ _ (by omega) (dm_lt hI (by omega))
        · exact ih (s + 1) _ _ _ (by omega) (dm_eq hn hI hsl c2)
        · exact ih (s + 1) _ _ _ (by omega) (dm_gt hn hI hsl c)
    exact hV 60 0 _ _ _ (loop (2 ^ n - 1) 0 1 none none (by omega) ⟨h1n, by omega, fun X h1 h2 => by omega⟩)
theorem o_M87 {D : va_G} {cA : ClassId} {ad : Nat → Nat} {l : Launch} {R : Room} (hR : 2 + 1 ≤ R.frames ∧ 32 * (2 + 1) ≤ R.locals) : m_OK D cls cA 1 ad TB l "DegreeCoresModel" R 87 false (0 + 1) tM_densestOf :=
  m_okV (C := R_M) (Tu := T_M) (N := 13) rfl c_M_densestOf (by decide) tb_good w_M87 ⟨rfl, by decide +kernel, by decide +kernel, by decide +kernel⟩ (by decide) hR (by rintro as h k ⟨n, f, ⟨j, z, rfl, hj, hG⟩, rfl, h0, hk⟩; exact ⟨0, _, _, rfl, rfl⟩)
def tM_densest : mT := fun as h k => ∃ n f, hM h n f ∧ as = [.inr 0] ∧ ∀ r, aDst n f r → k (some r) h
set_option maxHeartbeats 4000000 in
set_option maxRecDepth 20000 in
theorem c_M_densest : m_Con cls 1 TB y_M_densest b_M_densest 1 (some .int) 0 3 tM_densest := by
  refine m_con (code := k_M_densest) (fld := f_M) (fpt := p_M) (kon := []) (call := [(87, false, 1, tM_densestOf)]) (C := R_M) (T := T_M) (N := 13) (by decide) (Or.inl ⟨rfl, rfl⟩) ok_M_densest tb_M (fun l D cA ad => m_calls ?_) ?_ ?_
  · exact List.forall_mem_cons.mpr ⟨o_M87 ⟨Nat.le_of_ble_eq_true rfl, Nat.le_of_ble_eq_true rfl⟩, fun _ h => absurd h List.not_mem_nil⟩
  · rintro as h k ⟨n, f, ⟨j, z, rfl, hj, hG⟩, rfl, hk⟩
    exact Nat.le_of_ble_eq_true rfl
  · rintro as h k ⟨n, f, ⟨j, z, rfl, hj, hG⟩, rfl, hk⟩ V hV
    have hh : hM (mkM (nI n) j z) n f := ⟨j, z, rfl, hj, hG⟩
    have hn := hG.1
    exact hV 60 0 _ _ _ (br_n (a := n) (b := 0) (by omega) (by omega) (fun c => ⟨n, f, hh, rfl, by omega, fun S h1 => hk _ (Or.inr ⟨by omega, S, h1, rfl⟩)⟩) (fun c => hk _ (Or.inl ⟨c, rfl⟩)))
def tM_density : mT := fun as h k => ∃ n f p, hM h n f ∧ as = [.inr 0, .inl p] ∧ ∀ r, aDen n f p r → k (some r) h
set_option maxHeartbeats 4000000 in
set_option maxRecDepth 20000 in
theorem c_M_density : m_Con cls 1 TB y_M_density b_M_density 3 (some .int) 0 3 tM_density := by
  refine m_con (code := k_M_density) (fld := f_M) (fpt := p_M) (kon := []) (call := [(77, true, 1, tM_isPart), (87, false, 1, tM_densestOf), (84, false, 2, tM_edgesIn), (44, true, 1, tM_count), (80, true, 3, tM_part)]) (C := R_M) (T := T_M) (N := 13) (by decide) (Or.inl ⟨rfl, rfl⟩) ok_M_density tb_M (fun l D cA ad => m_calls ?_) ?_ ?_
  · exact List.forall_mem_cons.mpr ⟨o_M77 ⟨Nat.le_of_ble_eq_true rfl, Nat.le_of_ble_eq_true rfl⟩, List.forall_mem_cons.mpr ⟨o_M87 ⟨Nat.le_of_ble_eq_true rfl, Nat.le_of_ble_eq_true rfl⟩, List.forall_mem_cons.mpr ⟨o_M84 ⟨Nat.le_of_ble_eq_true rfl, Nat.le_of_ble_eq_true rfl⟩, List.forall_mem_cons.mpr ⟨o_M44 ⟨Nat.le_of_ble_eq_true rfl, Nat.le_of_ble_eq_true rfl⟩, List.forall_mem_cons.mpr ⟨o_M80 ⟨Nat.le_of_ble_eq_true rfl, Nat.le_of_ble_eq_true rfl⟩, fun _ h => absurd h List.not_mem_nil⟩⟩⟩⟩⟩
  · rintro as h k ⟨n, f, p, ⟨j, z, rfl, hj, hG⟩, rfl, hk⟩
    exact Nat.le_of_ble_eq_true rfl
  · rintro as h k ⟨n, f, p, ⟨j, z, rfl, hj, hG⟩, rfl, hk⟩ V hV
    have hh : hM (mkM (nI n) j z) n f := ⟨j, z, rfl, hj, hG⟩
    have hn := hG.1
    have h12 := p12 hn
    refine hV 60 0 _ _ _ ⟨p, rfl, br_ne (fun c => br_n (a := n) (b := 0) (by omega) (by omega) (fun c2 => ⟨n, f, hh, rfl, by omega, fun S h1 => ?_⟩) (fun c2 => hk _ (Or.inr (Or.inl ⟨c, c2, rfl⟩)))) (fun c => hk _ (Or.inl ⟨c, rfl⟩))⟩
    have hS := h1.1
    have x1 := e1_72 hG S
    have x2 := pop_le hS hn
    have x3 := pop_pos hS hn h1.2.1
    exact ⟨n, f, S, hh, rfl, by omega, ⟨_, rfl, by omega, ⟨_, _, _, p, rfl, abs_n (by omega), by omega, by omega, by omega, hk _ (Or.inr (Or.inr ⟨c, by omega, S, h1, rfl⟩))⟩⟩⟩
/-- the cuts that are held are those of the graph, if they aren't to be made anew -/
def cv (n : Nat) (f : Nat → Nat) (c : Nat → Int32) (b : Int32) : Prop := b = 0 → ∀ s, s < 2 ^ n → c s = nI (ct n f s)
def tM_makeCuts : mT := fun as h k => ∃ n f j c b zz, h = mkM (nI n) j (c, b, zz) ∧ (∀ v, v < n → j v = nI (f v)) ∧ Gr n f ∧ cv n f c b ∧ as = [.inr 0] ∧ ∀ c', cv n f c' 0 → k none (mkM (nI n) j (c', 0, zz))
set_option maxHeartbeats 4000000 in
set_option maxRecDepth 20000 in
theorem c_M_makeCuts : m_Con cls 1 TB y_M_makeCuts b_M_makeCuts 3 (none) 2 1 tM_makeCuts := by
  refine m_con (code := k_M_makeCuts) (fld := f_M) (fpt := p_M) (kon := []) (call := [(48, false, 1, tM_all), (44, true, 1, tM_count)]) (C := R_M) (T := T_M) (N := 13) (by decide) (Or.inr (Or.inr ⟨rfl, rfl⟩)) ok_M_makeCuts tb_M (fun l D cA ad => m_calls ?_) ?_ ?_
  · exact List.forall_mem_cons.mpr ⟨o_M48 ⟨Nat.le_of_ble_eq_true rfl, Nat.le_of_ble_eq_true rfl⟩, List.forall_mem_cons.mpr ⟨o_M44 ⟨Nat.le_of_ble_eq_true rfl, Nat.le_of_ble_eq_true rfl⟩, fun _ h => absurd h List.not_mem_nil⟩⟩
  · rintro as h k ⟨n, f, j, c, b, zz, rfl, hj, hG, hcv, rfl, hk⟩
    exact Nat.le_of_ble_eq_true rfl
  · rintro as h k ⟨n, f, j, c, b, zz, rfl, hj, hG, hcv, rfl, hk⟩ V hV
    have hn := hG.1
    have h12 := p12 hn
    refine hV 80 0 _ _ _ (And.intro (fun _ => And.intro (Or.inl rfl) ?_) (fun c1 => ?_))
    · have li : ∀ m s v c acc, s < 2 ^ n → v + m = n → c s = nI acc → acc = ct v f s → (∀ s', s' < s → c s' = nI (ct n f s')) →
          (∀ c (y : Option mV), (∀ s', s' < s + 1 → c s' = nI (ct n f s')) → V (15, [some (.inr 0), some (.inl (nI (s + 1))), y], [], mkM (nI n) j (c, 0, zz))) →
          V (32, [some (.inr 0), some (.inl (nI s)), some (.inl (nI v))], [], mkM (nI n) j (c, 0, zz)) := by
        intro m
        induction m with
        | zero =>
          intro s v c acc hs hv hc hacc hold hcont
          have e : v = n := by omega
          subst e
          refine hV 80 32 _ _ _ (br_ge (a := v) (b := v) (by omega) (by omega) (fun _ => nm_r (nI_1 s) (hcont c _ (fun s' hs' => ?_))) (fun c => absurd c (by omega)))
          by_cases e : s' = s
          · rw [e, hc, hacc]
          · exact hold s' (by omega)
        | succ m ih =>
          intro s v c acc hs hv hc hacc hold hcont
          have es : (nI s).toNatClampNeg = s := nI_clamp (by omega)
          have go : ∀ a', a' = ct (v + 1) f s → V (32, [some (.inr 0), some (.inl (nI s)), some (.inl (nI (v + 1)))], [], mkM (nI n) j (upd c (nI s).toNatClampNeg (nI a'), 0, zz)) := by
            intro a' ha'
            rw [es]
            exact ih s (v + 1) _ a' hs (by omega) (upd_u _ _ _) ha' (fun s' hs' => by rw [upd_n (by omega)]; exact hold s' hs') hcont
          refine hV 80 32 _ _ _ (br_ge (a := v) (b := n) (by omega) (by omega) (fun c => absurd c (by omega)) (fun _ => And.intro (vp_in_nI (by omega) (by omega)) (nm_r (e' := nI acc) (by rw [es]; exact hc) (nm_e (nm_r (nx_bit (by omega) (by omega)) (br_bn (fun c2 => nm_r (nI_add _ 0) (And.intro (vp_in_nI (by omega) (by omega)) (nm_r (nI_1 v) ?_))) (fun c2 => And.intro (vp_in_nI (by omega) (by omega)) (nm_r (e' := nI (f v)) (by rw [clamp12 (v := v) (n := n) (by omega) hn]; exact hj v (by omega)) (nm_e (nm_r (nx_sd _ _) ⟨_, rfl, Nat.lt_of_lt_of_le (sd_lt (hG.2.1 v (by omega))) h12, nm_r (nI_add _ _) (And.intro (vp_in_nI (by omega) (by omega)) (nm_r (nI_1 v) ?_))⟩))))))))))
          · exact go (acc + 0) (by rw [hacc]; show _ = sm _ v + _; simp only [c2]; rfl)
          · exact go _ (by rw [hacc]; show _ = sm _ v + _; simp only [c2]; rfl)
      have lo2 : ∀ m s c (y : Option mV), s + m = 2 ^ n → (∀ s', s' < s → c s' = nI (ct n f s')) → V (15, [some (.inr 0), some (.inl (nI s)), y], [], mkM (nI n) j (c, 0, zz)) := by
        intro m
        induction m with
        | zero =>
          intro s c y hs hold
          have hh : hM (mkM (nI n) j (c, 0, zz)) n f := ⟨j, _, rfl, hj, hG⟩
          exact hV 80 15 _ _ _ ⟨n, f, hh, rfl, br_gt (a := s) (b := 2 ^ n - 1) (by omega) (by omega) (fun _ => hk c (fun _ s' hs' => hold s' (by omega))) (fun c => absurd c (by have := pw_pos n; omega))⟩
        | succ m ih =>
          intro s c y hs hold
          have hh : hM (mkM (nI n) j (c, 0, zz)) n f := ⟨j, _, rfl, hj, hG⟩
          have es : (nI s).toNatClampNeg = s := nI_clamp (by omega)
          refine hV 80 15 _ _ _ ⟨n, f, hh, rfl, br_gt (a := s) (b := 2 ^ n - 1) (by omega) (by omega) (fun c => absurd c (by omega)) (fun _ => And.intro (vp_in_nI (by omega) (by omega)) ?_)⟩
          show V (32, [some (.inr 0), some (.inl (nI s)), some (.inl (nI 0))], [], mkM (nI n) j (upd c (nI s).toNatClampNeg 0, 0, zz))
          rw [es]
          exact li n s 0 _ 0 (by omega) (by omega) (upd_u _ _ _) rfl (fun s' hs' => by rw [upd_n (by omega)]; exact hold s' hs') (fun c y hold => ih (s + 1) c y (by omega) hold)
      exact lo2 (2 ^ n) 0 c none (by omega) (fun s' hs' => by omega)
    · have c1 : b = 0 := c1
      subst c1
      exact hk c hcv
theorem o_M90 {D : va_G} {cA : ClassId} {ad : Nat → Nat} {l : Launch} {R : Room} (hR : 1 + 1 ≤ R.frames ∧ 32 * (1 + 1) ≤ R.locals) : m_OK D cls cA 1 ad TB l "DegreeCoresModel" R 90 false (0 + 1) tM_makeCuts :=
  m_okV (C := R_M) (Tu := T_M) (N := 13) rfl c_M_makeCuts (by decide) tb_good w_M90 ⟨rfl, by decide +kernel, by decide +kernel, by decide +kernel⟩ (by decide) hR (by rintro as h k ⟨n, f, j, c, b, zz, rfl, hj, hG, hcv, rfl, hk⟩; exact ⟨0, _, _, rfl, rfl⟩)
def fI2 (n : Nat) (f : Nat → Nat) (a b s r : Nat) : Prop := (r = 1000 ∨ ∃ S, S < 2 ^ n ∧ S.testBit a = true ∧ S.testBit b = false ∧ ct n f S = r) ∧ ∀ S, S < s → S.testBit a = true → S.testBit b = false → r ≤ ct n f S
def tM_firmOf : mT := fun as h k => ∃ n f j c b zz u v, h = mkM (nI n) j (c, b, zz) ∧ (∀ v, v < n → j v = nI (f v)) ∧ Gr n f ∧ cv n f c b ∧ as = [.inr 0, .inl (nI u), .inl (nI v)] ∧ u < n ∧ v < n ∧ u ≠ v ∧ ∀ c' r, cv n f c' 0 → isFirm n f u v r → k (some (nI r)) (mkM (nI n) j (c', 0, zz))
set_option maxHeartbeats 4000000 in
set_option maxRecDepth 20000 in
theorem c_M_firmOf : m_Con cls 1 TB y_M_firmOf b_M_firmOf 5 (some .int) 0 2 tM_firmOf := by
  refine m_con (code := k_M_firmOf) (fld := f_M) (fpt := p_M) (kon := []) (call := [(90, false, 1, tM_makeCuts), (48, false, 1, tM_all)]) (C := R_M) (T := T_M) (N := 13) (by decide) (Or.inl ⟨rfl, rfl⟩) ok_M_firmOf tb_M (fun l D cA ad => m_calls ?_) ?_ ?_
  · exact List.forall_mem_cons.mpr ⟨o_M90 ⟨Nat.le_of_ble_eq_true rfl, Nat.le_of_ble_eq_true rfl⟩, List.forall_mem_cons.mpr ⟨o_M48 ⟨Nat.le_of_ble_eq_true rfl, Nat.le_of_ble_eq_true rfl⟩, fun _ h => absurd h List.not_mem_nil⟩⟩
  · rintro as h k ⟨n, f, j, c, b, zz, u, v, rfl, hj, hG, hcv, rfl, hu, hv, huv, hk⟩
    exact Nat.le_of_ble_eq_true rfl
  · rintro as h k ⟨n, f, j, c, b, zz, u, v, rfl, hj, hG, hcv, rfl, hu, hv, huv, hk⟩ V hV
    have hn := hG.1
    have h12 := p12 hn
    refine hV 80 0 _ _ _ ⟨n, f, j, c, b, zz, rfl, hj, hG, hcv, rfl, fun c' hc' => ?_⟩
    have hh : hM (mkM (nI n) j (c', 0, zz)) n f := ⟨j, _, rfl, hj, hG⟩
    have loop : ∀ m s le, s + m = 2 ^ n → le ≤ 1000 → fI2 n f u v s le → V (11, [some (.inr 0), some (.inl (nI u)), some (.inl (nI v)), some (.inl (nI le)), some (.inl (nI s))], [], mkM (nI n) j (c', 0, zz)) := by
      intro m
      induction m with
      | zero =>
        intro s le hs hle hI
        refine hV 80 11 _ _ _ ⟨n, f, hh, rfl, br_gt (a := s) (b := 2 ^ n - 1) (by omega) (by omega) (fun _ => ?_) (fun c => absurd c (by have := pw_pos n; omega))⟩
        refine hk c' le hc' ⟨?_, fun S hS => hI.2 S (by omega)⟩
        rcases hI.1 with e | e
        · exfalso
          have hS : 2 ^ u < 2 ^ n := Nat.pow_lt_pow_right (by decide) hu
          have h1 := hI.2 (2 ^ u) (by omega) (by rw [tb_pow]; simp) (by rw [tb_pow]; simp [huv])
          have h2 := ct_lt hG hS
          omega
        · exact e
      | succ m ih =>
        intro s le hs hle hI
        have hsn : s < 2 ^ n := by omega
        have es : c' (nI s).toNatClampNeg = nI (ct n f s) := by rw [nI_clamp (by omega)]; exact hc' rfl s hsn
        have hct := ct_lt hG hsn
        have keep : (s.testBit u = true → s.testBit v = false → le ≤ ct n f s) → fI2 n f u v (s + 1) le := fun H => ⟨hI.1, fun S hS h1 h2 => by
          by_cases e : S = s
          · rw [e] at h1 h2 ⊢; exact H h1 h2
          · exact hI.2 S (by omega) h1 h2⟩
        refine hV 80 11 _ _ _ ⟨n, f, hh, rfl, br_gt (a := s) (b := 2 ^ n - 1) (by omega) (by omega) (fun c => absurd c (by omega)) (fun _ => nm_e (nm_r (nx_bit (by omega) (by omega)) (br_bn (fun c1 => nm_r (nI_1 s) ?_) (fun c1 => nm_e (nm_r (nx_bit (by omega) (by omega)) (br_bz (fun c2 => nm_r (nI_1 s) ?_) (fun c2 => And.intro (vp_in_nI (by omega) (by omega)) (nm_r es (br_ge (a := ct n f s) (b := le) (by omega) (by omega) (fun c3 => nm_r (nI_1 s) ?_) (fun c3 => And.intro (vp_in_nI (by omega) (by omega)) (nm_r es (nm_r (nI_1 s) ?_)))))))))))) ⟩
        · exact ih (s + 1) le (by omega) hle (keep (fun h1 => by rw [c1] at h1; cases h1))
        · exact ih (s + 1) le (by omega) hle (keep (fun _ h2 => by rw [c2] at h2; cases h2))
        · exact ih (s + 1) le (by omega) hle (keep (fun _ _ => c3))
        · refine ih (s + 1) _ (by omega) (by omega) ⟨Or.inr ⟨s, hsn, c1, c2, rfl⟩, fun S hS h1 h2 => ?_⟩
          by_cases e : S = s
          · rw [e]; exact Nat.le_refl _
          · have := hI.2 S (by omega) h1 h2
            omega
    exact loop (2 ^ n) 0 1000 (by omega) (by omega) ⟨Or.inl rfl, fun S hS => by omega⟩
theorem o_M93 {D : va_G} {cA : ClassId} {ad : Nat → Nat} {l : Launch} {R : Room} (hR : 2 + 1 ≤ R.frames ∧ 32 * (2 + 1) ≤ R.locals) : m_OK D cls cA 1 ad TB l "DegreeCoresModel" R 93 false (2 + 1) tM_firmOf :=
  m_okV (C := R_M) (Tu := T_M) (N := 13) rfl c_M_firmOf (by decide) tb_good w_M93 ⟨rfl, by decide +kernel, by decide +kernel, by decide +kernel⟩ (by decide) hR (by rintro as h k ⟨n, f, j, c, b, zz, u, v, rfl, hj, hG, hcv, rfl, hu, hv, huv, hk⟩; exact ⟨0, _, _, rfl, rfl⟩)
def tM_firm : mT := fun as h k => ∃ n f j c b zz x y, h = mkM (nI n) j (c, b, zz) ∧ (∀ v, v < n → j v = nI (f v)) ∧ Gr n f ∧ cv n f c b ∧ as = [.inr 0, .inl x, .inl y] ∧ ∀ c' b' r, cv n f c' b' → aFirm n f x y r → k (some r) (mkM (nI n) j (c', b', zz))
set_option maxHeartbeats 4000000 in
set_option maxRecDepth 20000 in
theorem c_M_firm : m_Con cls 1 TB y_M_firm b_M_firm 3 (some .int) 0 3 tM_firm := by
  refine m_con (code := k_M_firm) (fld := f_M) (fpt := p_M) (kon := []) (call := [(40, false, 3, tM_areTwo), (93, false, 3, tM_firmOf)]) (C := R_M) (T := T_M) (N := 13) (by decide) (Or.inl ⟨rfl, rfl⟩) ok_M_firm tb_M (fun l D cA ad => m_calls ?_) ?_ ?_
  · exact List.forall_mem_cons.mpr ⟨o_M40 ⟨Nat.le_of_ble_eq_true rfl, Nat.le_of_ble_eq_true rfl⟩, List.forall_mem_cons.mpr ⟨o_M93 ⟨Nat.le_of_ble_eq_true rfl, Nat.le_of_ble_eq_true rfl⟩, fun _ h => absurd h List.not_mem_nil⟩⟩
  · rintro as h k ⟨n, f, j, c, b, zz, x, y, rfl, hj, hG, hcv, rfl, hk⟩
    exact Nat.le_of_ble_eq_true rfl
  · rintro as h k ⟨n, f, j, c, b, zz, x, y, rfl, hj, hG, hcv, rfl, hk⟩ V hV
    have hh : hM (mkM (nI n) j (c, b, zz)) n f := ⟨j, _, rfl, hj, hG⟩
    have hn := hG.1
    refine hV 80 0 _ _ _ ⟨n, f, x, y, hh, rfl, br_eq (fun c1 => hk c b _ hcv (Or.inl ⟨c1, rfl⟩)) (fun c1 => ?_)⟩
    obtain ⟨u, v, hu, hv, huv, rfl, rfl⟩ := two_t hn c1
    exact ⟨n, f, j, c, b, zz, u, v, rfl, hj, hG, hcv, rfl, hu, hv, huv, fun c' r h1 h2 => hk c' 0 _ h1 (Or.inr ⟨u, v, r, hu, hv, huv, rfl, rfl, c1, h2, rfl⟩)⟩
def tM_classOf : mT := fun as h k => ∃ n f j c b zz x y, h = mkM (nI n) j (c, b, zz) ∧ (∀ v, v < n → j v = nI (f v)) ∧ Gr n f ∧ cv n f c b ∧ as = [.inr 0, .inl x, .inl y] ∧ ∀ c' b' r, cv n f c' b' → aCls n f x y r → k (some r) (mkM (nI n) j (c', b', zz))
set_option maxHeartbeats 4000000 in
set_option maxRecDepth 20000 in
theorem c_M_classOf : m_Con cls 1 TB y_M_classOf b_M_classOf 4 (some .int) 0 3 tM_classOf := by
  refine m_con (code := k_M_classOf) (fld := f_M) (fpt := p_M) (kon := []) (call := [(36, false, 2, tM_isNode), (93, false, 3, tM_firmOf)]) (C := R_M) (T := T_M) (N := 13) (by decide) (Or.inl ⟨rfl, rfl⟩) ok_M_classOf tb_M (fun l D cA ad => m_calls ?_) ?_ ?_
  · exact List.forall_mem_cons.mpr ⟨o_M36 ⟨Nat.le_of_ble_eq_true rfl, Nat.le_of_ble_eq_true rfl⟩, List.forall_mem_cons.mpr ⟨o_M93 ⟨Nat.le_of_ble_eq_true rfl, Nat.le_of_ble_eq_true rfl⟩, fun _ h => absurd h List.not_mem_nil⟩⟩
  · rintro as h k ⟨n, f, j, c, b, zz, x, y, rfl, hj, hG, hcv, rfl, hk⟩
    exact Nat.le_of_ble_eq_true rfl
  · rintro as h k ⟨n, f, j, c, b, zz, x, y, rfl, hj, hG, hcv, rfl, hk⟩ V hV
    have hh : hM (mkM (nI n) j (c, b, zz)) n f := ⟨j, _, rfl, hj, hG⟩
    have hn := hG.1
    refine hV 80 0 _ _ _ ⟨n, f, x, hh, rfl, br_ne (fun c1 => And.intro (fun c2 => ?_) (fun c2 => hk c b _ hcv (Or.inr (Or.inl ⟨c1, Int32.not_le.mp c2, rfl⟩)))) (fun c1 => hk c b _ hcv (Or.inl ⟨c1, rfl⟩))⟩
    have c2 : 0 ≤ y := c2
    obtain ⟨K, hK, rfl⟩ := nI_of (Int32.not_lt.mpr c2)
    obtain ⟨v, hv, rfl⟩ := isN_t hn c1
    have loop : ∀ m u c b, u + m = v → cv n f c b → (∀ x, x < u → ∃ r, isFirm n f x v r ∧ r < K) → V (19, [some (.inr 0), some (.inl (nI v)), some (.inl (nI K)), some (.inl (nI u))], [], mkM (nI n) j (c, b, zz)) := by
      intro m
      induction m with
      | zero =>
        intro u c b hu hcv hI
        have e : u = v := by omega
        subst e
        exact hV 80 19 _ _ _ (br_e (a := u) (b := u) (by omega) (by omega) (fun _ => hk c b _ hcv (Or.inr (Or.inr ⟨u, K, u, hv, hK, rfl, rfl, ⟨Nat.le_refl _, fun h => absurd rfl h, hI⟩, rfl⟩))) (fun c => absurd rfl c))
      | succ m ih =>
        intro u c b hu hcv hI
        refine hV 80 19 _ _ _ (br_e (a := u) (b := v) (by omega) (by omega) (fun c => absurd c (by omega)) (fun c3 => ⟨n, f, j, c, b, zz, u, v, rfl, hj, hG, hcv, rfl, by omega, hv, c3, fun c' r h1 h2 => ?_⟩))
        have hr : r ≤ 144 := by
          obtain ⟨⟨S, s1, s2, s3, s4⟩, -⟩ := h2
          have := ct_lt hG s1
          omega
        refine br_ge (a := r) (b := K) (by omega) hK (fun c4 => ?_) (fun c4 => nm_r (nI_1 u) ?_)
        · exact hk c' 0 _ h1 (Or.inr (Or.inr ⟨v, K, u, hv, hK, rfl, rfl, ⟨by omega, fun _ => ⟨r, h2, c4⟩, hI⟩, rfl⟩))
        · exact ih (u + 1) c' 0 (by omega) h1 (fun x hx => by
            by_cases e : x = u
            · rw [e]; exact ⟨r, h2, c4⟩
            · exact hI x (by omega))
    exact loop v 0 c b (by omega) hcv (fun x hx => by omega)
def tM_rich : mT := fun as h k => ∃ n f x p, hM h n f ∧ as = [.inr 0, .inl x, .inl p] ∧ k (some (aRich n f x p)) h
set_option maxHeartbeats 4000000 in
set_option maxRecDepth 20000 in
theorem c_M_rich : m_Con cls 1 TB y_M_rich b_M_rich 5 (some .int) 0 2 tM_rich := by
  refine m_con (code := k_M_rich) (fld := f_M) (fpt := p_M) (kon := []) (call := [(77, true, 1, tM_isPart), (44, true, 1, tM_count), (84, false, 2, tM_edgesIn), (80, true, 3, tM_part)]) (C := R_M) (T := T_M) (N := 13) (by decide) (Or.inl ⟨rfl, rfl⟩) ok_M_rich tb_M (fun l D cA ad => m_calls ?_) ?_ ?_
  · exact List.forall_mem_cons.mpr ⟨o_M77 ⟨Nat.le_of_ble_eq_true rfl, Nat.le_of_ble_eq_true rfl⟩, List.forall_mem_cons.mpr ⟨o_M44 ⟨Nat.le_of_ble_eq_true rfl, Nat.le_of_ble_eq_true rfl⟩, List.forall_mem_cons.mpr ⟨o_M84 ⟨Nat.le_of_ble_eq_true rfl, Nat.le_of_ble_eq_true rfl⟩, List.forall_mem_cons.mpr ⟨o_M80 ⟨Nat.le_of_ble_eq_true rfl, Nat.le_of_ble_eq_true rfl⟩, fun _ h => absurd h List.not_mem_nil⟩⟩⟩⟩
  · rintro as h k ⟨n, f, x, p, ⟨j, z, rfl, hj, hG⟩, rfl, hk⟩
    exact Nat.le_of_ble_eq_true rfl
  · rintro as h k ⟨n, f, x, p, ⟨j, z, rfl, hj, hG⟩, rfl, hk⟩ V hV
    have hh : hM (mkM (nI n) j z) n f := ⟨j, z, rfl, hj, hG⟩
    have hn := hG.1
    have h12 := p12 hn
    refine hV 60 0 _ _ _ ⟨p, rfl, br_eq (fun c => ?_) (fun c => And.intro (fun c2 => ?_) (fun c2 => ?_))⟩
    · rw [aRich, c] at hk; exact hk
    · have c2 : 0 ≤ x := c2
      rw [aRich, c, decide_eq_true c2] at hk
      have loop : ∀ m v, v + m = n → V (19, [some (.inr 0), some (.inl x), some (.inl p), some (.inl (nI (rS v f x))), some (.inl (nI v))], [], mkM (nI n) j z) := by
        intro m
        induction m with
        | zero =>
          intro v hv
          have e : v = n := by omega
          subst e
          have hr : rS v f x < 2 ^ v := mk_lt _ _
          have x1 := e1_72 hG (rS v f x)
          have x2 := pop_le hr hn
          have x3 := prs_66 (pop (rS v f x)) (by omega)
          refine hV 60 19 _ _ _ (br_ge (a := v) (b := v) (by omega) (by omega) (fun _ => ⟨_, rfl, by omega, br_ge (a := pop (rS v f x)) (b := 2) (by omega) (by omega) (fun c3 => ⟨v, f, _, hh, rfl, by omega, nm_e (nm_e (And.intro (by decide) (nm_r (prs_I _ (by omega)) ?_)))⟩) (fun c3 => ?_)⟩) (fun c => absurd c (by omega)))
          · have := prs_p _ (by omega) c3
            exact ⟨_, _, _, p, rfl, abs_n (by omega), by omega, by omega, by omega, hk⟩
          · rw [prs_0 _ c3] at hk
            exact hk
        | succ m ih =>
          intro v hv
          have hnx := ih (v + 1) (by omega)
          have e : rS (v + 1) f x = rS v f x ||| (bif decide (x < nI (pop (f v))) then 2 ^ v else 0) := rfl
          refine hV 60 19 _ _ _ (br_ge (a := v) (b := n) (by omega) (by omega) (fun c => absurd c (by omega)) (fun _ => And.intro (vp_in_nI (by omega) (by omega)) (nm_r (by rw [clamp12 (v := v) (n := n) (by omega) hn, hj v (by omega)]) ⟨_, rfl, g31 hG (by omega), And.intro (fun c3 => nm_r (nx_or _ 0) (nm_r (nI_1 v) ?_)) (fun c3 => nm_r (nx_shl v (by omega)) (nm_r (nx_or _ _) (nm_r (nI_1 v) ?_)))⟩)))
          · have c3 : nI (pop (f v)) ≤ x := c3
            rw [e, decide_eq_false (Int32.not_lt.mpr c3)] at hnx
            exact hnx
          · have c3 : ¬ nI (pop (f v)) ≤ x := c3
            rw [e, decide_eq_true (Int32.not_le.mp c3)] at hnx
            exact hnx
      exact loop n 0 (by omega)
    · have c2 : ¬ 0 ≤ x := c2
      rw [aRich, decide_eq_false c2, Bool.and_false] at hk
      exact hk
