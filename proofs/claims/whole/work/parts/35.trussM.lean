/-! the reference: trusses -/
def zK (z : mZ) (kp : Nat → Int32) : mZ := (z.1, z.2.1, z.2.2.1, z.2.2.2.1, z.2.2.2.2.1, z.2.2.2.2.2.1, z.2.2.2.2.2.2.1, z.2.2.2.2.2.2.2.1, kp, z.2.2.2.2.2.2.2.2.2)
def tM_trussOf : mT := fun as h k => ∃ n f j z s, h = mkM (nI n) j z ∧ (∀ v, v < n → j v = nI (f v)) ∧ Gr n f ∧ as = [.inr 0, .inl (nI (s + 2))] ∧ s < 100 ∧ ∀ kp τ, (∀ v, v < n → kp v = nI (τ v)) → isTr n f s τ → k none (mkM (nI n) j (zK z kp))
set_option maxHeartbeats 4000000 in
set_option maxRecDepth 20000 in
theorem c_M_trussOf : m_Con cls 1 TB y_M_trussOf b_M_trussOf 5 (none) 2 1 tM_trussOf := by
  refine m_con (code := k_M_trussOf) (fld := f_M) (fpt := p_M) (kon := []) (call := [(44, true, 1, tM_count)]) (C := R_M) (T := T_M) (N := 13) (by decide) (Or.inr (Or.inr ⟨rfl, rfl⟩)) ok_M_trussOf tb_M (fun l D cA ad => m_calls ?_) ?_ ?_
  · exact List.forall_mem_cons.mpr ⟨o_M44 ⟨Nat.le_of_ble_eq_true rfl, Nat.le_of_ble_eq_true rfl⟩, fun _ h => absurd h List.not_mem_nil⟩
  · rintro as h k ⟨n, f, j, z, s, rfl, hj, hG, rfl, hs, hk⟩
    exact Nat.le_of_ble_eq_true rfl
  · rintro as h k ⟨n, f, j, z, s, rfl, hj, hG, rfl, hs, hk⟩ V hV
    have hn := hG.1
    have fl : ∀ (τ : Nat → Nat), Fam n f τ → ∀ v, v < n → τ v < 4096 := fun τ hF v hv => Nat.lt_of_lt_of_le (fam_lt hG hF hv) (p12 hn)
    have hs2 : nI (s + 2) - 2 = nI s := by
      have := pk_sub (a := s + 2) (b := 2) (by omega)
      exact this
    have fin : ∀ kp τ (y3 y4 : Option mV), (∀ v, v < n → kp v = nI (τ v)) → isTr n f s τ → V (30, [some (.inr 0), some (.inl (nI (s + 2))), some (.inl (b2i false)), y3, y4], [], mkM (nI n) j (zK z kp)) := by
      intro kp τ y3 y4 h1 h2
      exact hV 80 30 _ _ _ (br_eq (b := false) (fun _ => hk kp τ h1 h2) (fun c => by cases c))
    have outer : ∀ p kp τ (y3 y4 : Option mV), mt n τ < p → (∀ v, v < n → kp v = nI (τ v)) → topT n f s τ → V (30, [some (.inr 0), some (.inl (nI (s + 2))), some (.inl (b2i true)), y3, y4], [], mkM (nI n) j (zK z kp)) := by
      intro p
      induction p with
      | zero => intro kp τ y3 y4 h; omega
      | succ p ih =>
        intro kp0 τ0 y3 y4 hp0 hkp0 htop0
        have lb : ∀ m a b kp τ dr, a < n → b + m = n → (∀ v, v < n → kp v = nI (τ v)) → topT n f s τ →
            (dr = false → mt n τ ≤ p ∧ ∀ a' b', b' < n → (a' < a ∨ (a' = a ∧ b' < b)) → (τ a').testBit b' = true → s ≤ pop (τ a' &&& τ b')) → (dr = true → mt n τ < p) →
            (∀ kp τ dr (y4 : Option mV), (∀ v, v < n → kp v = nI (τ v)) → topT n f s τ → (dr = false → mt n τ ≤ p ∧ ∀ a' b', b' < n → a' < a + 1 → (τ a').testBit b' = true → s ≤ pop (τ a' &&& τ b')) → (dr = true → mt n τ < p) → V (38, [some (.inr 0), some (.inl (nI (s + 2))), some (.inl (b2i dr)), some (.inl (nI (a + 1))), y4], [], mkM (nI n) j (zK z kp))) →
            V (49, [some (.inr 0), some (.inl (nI (s + 2))), some (.inl (b2i dr)), some (.inl (nI a)), some (.inl (nI b))], [], mkM (nI n) j (zK z kp)) := by
          intro m
          induction m with
          | zero =>
            intro a b kp τ dr ha hb hkp htop h1 h2 hcont
            refine hV 80 49 _ _ _ (br_ge (a := b) (b := n) (by omega) (by omega) (fun _ => nm_r (nI_1 a) (hcont kp τ dr _ hkp htop (fun e => ⟨(h1 e).1, fun a' b' x2 x3 => (h1 e).2 a' b' x2 (by omega)⟩) h2)) (fun c => absurd c (by omega)))
          | succ m ih2 =>
            intro a b kp τ dr ha hb hkp htop h1 h2 hcont
            have ga := fl τ htop.1 a ha
            have gb := fl τ htop.1 b (by omega)
            have ea := clamp12 ha hn
            have eb := clamp12 (v := b) (n := n) (by omega) hn
            refine hV 80 49 _ _ _ (br_ge (a := b) (b := n) (by omega) (by omega) (fun c => absurd c (by omega)) (fun _ => And.intro (vp_in_nI (by omega) (by omega)) (nm_r (e' := nI (τ a)) (by rw [ea]; exact hkp a ha) (nm_e (nm_r (nx_bit (by omega) (by omega)) (br_bn (fun c => nm_r (nI_1 b) ?_) (fun c => ?_)))))))
            · exact ih2 a (b + 1) kp τ dr ha (by omega) hkp htop (fun e => ⟨(h1 e).1, fun a' b' x2 x3 hz => by
                by_cases hq : a' = a ∧ b' = b
                · rw [hq.1, hq.2, c] at hz; cases hz
                · exact (h1 e).2 a' b' x2 (by omega) hz⟩) h2 hcont
            · have hlt : τ a &&& τ b < 4096 := Nat.lt_of_le_of_lt Nat.and_le_left ga
              have hp12 : pop (τ a &&& τ b) ≤ 12 := pop_le (n := 12) hlt (by omega)
              refine And.intro (vp_in_nI (by omega) (by omega)) (nm_r (e' := nI (τ a)) (by rw [ea]; exact hkp a ha) (And.intro (vp_in_nI (by omega) (by omega)) (nm_r (e' := nI (τ b)) (by rw [eb]; exact hkp b (by omega)) (nm_r (nx_and _ _) ⟨_, rfl, hlt, nm_r hs2 (br_ge (a := pop (τ a &&& τ b)) (b := s) (by omega) (by omega) (fun c2 => nm_r (nI_1 b) ?_) (fun c2 => ?_))⟩))))
              · exact ih2 a (b + 1) kp τ dr ha (by omega) hkp htop (fun e => ⟨(h1 e).1, fun a' b' x2 x3 hz => by
                  by_cases hq : a' = a ∧ b' = b
                  · rw [hq.1, hq.2]; exact c2
                  · exact (h1 e).2 a' b' x2 (by omega) hz⟩) h2 hcont
              · have hne : a ≠ b := fun e => by
                  rw [← e] at c
                  have := htop.1.1 a ha a c
                  rw [hG.2.2.1 a ha] at this
                  cases this
                refine And.intro (vp_in_nI (by omega) (by omega)) (nm_r (e' := nI (τ a)) (by rw [ea]; exact hkp a ha) (nm_r (nx_shl b (by omega)) (nm_e (nm_r (nx_sd _ _) (And.intro (vp_in_nI (by omega) (by omega)) ?_)))))
                refine And.intro (vp_in_nI (by omega) (by omega)) (nm_r (e' := nI (τ b)) (by rw [ea, eb]; exact (upd_n (fun z => hne z.symm)).trans (hkp b (by omega))) (nm_r (nx_shl a (by omega)) (nm_e (nm_r (nx_sd _ _) (And.intro (vp_in_nI (by omega) (by omega)) (nm_r (nI_1 b) ?_))))))
                have hmt := mt_rm hG htop.1 ha (by omega : b < n) hne c
                have hle : mt n τ ≤ p := by
                  cases dr with
                  | false => exact (h1 rfl).1
                  | true => have := h2 rfl; omega
                have := ih2 a (b + 1) _ (rmE τ a b) true ha (by omega) (rmE_upd hkp hne) (top_rm hG htop ha (by omega) hne c2) (fun e => by cases e) (fun _ => by omega) hcont
                show V (49, [some (.inr 0), some (.inl (nI (s + 2))), some (.inl (b2i true)), some (.inl (nI a)), some (.inl (nI (b + 1)))], [], mkM (nI n) j (zK z (upd (upd kp (nI a).toNatClampNeg (nI (sd (τ a) (2 ^ b)))) (nI b).toNatClampNeg (nI (sd (τ b) (2 ^ a))))))
                rw [ea, eb]
                exact this
        have la : ∀ m a kp τ dr (y4 : Option mV), a + m = n → (∀ v, v < n → kp v = nI (τ v)) → topT n f s τ → (dr = false → mt n τ ≤ p ∧ ∀ a' b', b' < n → a' < a → (τ a').testBit b' = true → s ≤ pop (τ a' &&& τ b')) → (dr = true → mt n τ < p) →
            V (38, [some (.inr 0), some (.inl (nI (s + 2))), some (.inl (b2i dr)), some (.inl (nI a)), y4], [], mkM (nI n) j (zK z kp)) := by
          intro m
          induction m with
          | zero =>
            intro a kp τ dr y4 ha hkp htop h1 h2
            refine hV 80 38 _ _ _ (br_ge (a := a) (b := n) (by omega) (by omega) (fun _ => ?_) (fun c => absurd c (by omega)))
            cases dr with
            | false => exact fin kp τ _ _ hkp ⟨htop, fun a' b' ha' hb' hz => (h1 rfl).2 a' b' hb' (by omega) hz⟩
            | true => exact ih kp τ _ _ (h2 rfl) hkp htop
          | succ m ih2 =>
            intro a kp τ dr y4 ha hkp htop h1 h2
            refine hV 80 38 _ _ _ (br_ge (a := a) (b := n) (by omega) (by omega) (fun c => absurd c (by omega)) (fun _ => ?_))
            exact lb n a 0 kp τ dr (by omega) (by omega) hkp htop (fun e => ⟨(h1 e).1, fun a' b' x2 x3 => (h1 e).2 a' b' x2 (by omega)⟩) h2 (fun kp τ dr y4 hkp htop h1 h2 => ih2 (a + 1) kp τ dr y4 (by omega) hkp htop h1 h2)
        refine hV 80 30 _ _ _ (br_eq (b := true) (fun c => by cases c) (fun _ => ?_))
        exact la n 0 kp0 τ0 false y4 (by omega) hkp0 htop0 (fun _ => ⟨by omega, fun a' b' _ x => by omega⟩) (fun e => by cases e)
    have cp : ∀ m i kp (y3 y4 : Option mV), i + m = n → (∀ v, v < i → kp v = nI (f v)) → V (2, [some (.inr 0), some (.inl (nI (s + 2))), some (.inl (nI i)), y3, y4], [], mkM (nI n) j (zK z kp)) := by
      intro m
      induction m with
      | zero =>
        intro i kp y3 y4 hi hkp
        have e : i = n := by omega
        subst e
        exact hV 80 2 _ _ _ (br_ge (a := i) (b := i) (by omega) (by omega) (fun _ => outer (mt i f + 1) kp f _ _ (by omega) hkp (top_f hG s)) (fun c => absurd c (by omega)))
      | succ m ih =>
        intro i kp y3 y4 hi hkp
        have ei := clamp12 (v := i) (n := n) (by omega) hn
        refine hV 80 2 _ _ _ (br_ge (a := i) (b := n) (by omega) (by omega) (fun c => absurd c (by omega)) (fun _ => And.intro (vp_in_nI (by omega) (by omega)) (nm_r (e' := nI (f i)) (by rw [ei, hj i (by omega)]) (And.intro (vp_in_nI (by omega) (by omega)) (nm_r (nI_1 i) ?_)))))
        refine ih (i + 1) (upd kp (nI i).toNatClampNeg (nI (f i))) _ _ (by omega) (fun v hv => ?_)
        rw [ei]
        by_cases e : v = i
        · rw [e, upd_u]
        · rw [upd_n e]; exact hkp v (by omega)
    exact hV 80 0 _ _ _ (cp n 0 z.2.2.2.2.2.2.2.2.1 none none (by omega) (fun v hv => by omega))
theorem o_M73 {D : va_G} {cA : ClassId} {ad : Nat → Nat} {l : Launch} {R : Room} (hR : 1 + 1 ≤ R.frames ∧ 32 * (1 + 1) ≤ R.locals) : m_OK D cls cA 1 ad TB l "DegreeCoresModel" R 73 false (1 + 1) tM_trussOf :=
  m_okV (C := R_M) (Tu := T_M) (N := 13) rfl c_M_trussOf (by decide) tb_good w_M73 ⟨rfl, by decide +kernel, by decide +kernel, by decide +kernel⟩ (by decide) hR (by rintro as h k ⟨n, f, j, z, s, rfl, hj, hG, rfl, hs, hk⟩; exact ⟨0, _, _, rfl, rfl⟩)
def tM_truss : mT := fun as h k => ∃ n f j z x y, h = mkM (nI n) j z ∧ (∀ v, v < n → j v = nI (f v)) ∧ Gr n f ∧ as = [.inr 0, .inl x, .inl y] ∧ ∀ kp rr, aTr n f x y rr → k (some rr) (mkM (nI n) j (zK z kp))
def k2_M_truss : List (Nat × mE) := [(0, .aload_n 0, 1, 0, 0, false), (1, .iload_n 1, 2, 0, 0, false), (2, .iload_n 2, 3, 0, 0, false), (3, .invokevirtual 70, 6, 0, 0, false), (6, .ifCond .ne 5, 9, 11, 0, false), (9, .iconst (-1), 10, 0, (-1), false), (10, .ireturn, 11, 0, 0, false), (11, .iconst 2, 12, 0, 2, false), (12, .istore_n 3, 13, 0, 0, false), (13, .iconst 1, 14, 0, 1, false), (14, .istore 4, 16, 0, 0, false), (16, .iload 4, 18, 0, 0, true), (18, .ifCond .eq 47, 21, 65, 0, false), (21, .aload_n 0, 22, 0, 0, false), (22, .iload_n 3, 23, 0, 0, false), (23, .iconst 1, 24, 0, 1, false), (24, .iadd, 25, 0, 0, false), (25, .invokevirtual 73, 28, 0, 0, false), (28, .aload_n 0, 29, 0, 0, false), (29, .getfield 26, 32, 0, 0, false), (32, .iload_n 1, 33, 0, 0, false), (33, .iaload, 34, 0, 0, false), (34, .iload_n 2, 35, 0, 0, false), (35, .ishr, 36, 0, 0, false), (36, .iconst 1, 37, 0, 1, false), (37, .iand, 38, 0, 0, false), (38, .iconst 1, 39, 0, 1, false), (39, .if_icmp .ne 7, 42, 46, 0, false), (42, .iconst 1, 43, 0, 1, false), (43, .goto 4, 46, 47, 0, false), (46, .iconst 0, 47, 0, 0, false), (47, .istore 4, 49, 0, 0, false), (49, .iload_n 3, 50, 0, 0, true), (50, .iload 4, 52, 0, 0, false), (52, .ifCond .eq 7, 55, 59, 0, false), (55, .iconst 1, 56, 0, 1, false), (56, .goto 4, 59, 60, 0, false), (59, .iconst 0, 60, 0, 0, false), (60, .iadd, 61, 0, 0, false), (61, .istore_n 3, 62, 0, 0, false), (62, .goto (-46), 65, 16, 0, false), (65, .iload_n 3, 66, 0, 0, false), (66, .ireturn, 67, 0, 0, false)]
theorem ok2_M_truss : k2_M_truss.all (m_ok b_M_truss 5) = true := by decide +kernel
set_option maxHeartbeats 4000000 in
set_option maxRecDepth 20000 in
theorem c_M_truss : m_Con cls 1 TB y_M_truss b_M_truss 5 (some .int) 0 3 tM_truss := by
  refine m_con (code := k2_M_truss) (fld := f_M) (fpt := p_M) (kon := []) (call := [(70, false, 3, tM_isEdge), (73, false, 2, tM_trussOf)]) (C := R_M) (T := T_M) (N := 13) (by decide) (Or.inl ⟨rfl, rfl⟩) ok2_M_truss tb_M (fun l D cA ad => m_calls ?_) ?_ ?_
  · exact List.forall_mem_cons.mpr ⟨o_M70 ⟨Nat.le_of_ble_eq_true rfl, Nat.le_of_ble_eq_true rfl⟩, List.forall_mem_cons.mpr ⟨o_M73 ⟨Nat.le_of_ble_eq_true rfl, Nat.le_of_ble_eq_true rfl⟩, fun _ h => absurd h List.not_mem_nil⟩⟩
  · rintro as h k ⟨n, f, j, z, x, y, rfl, hj, hG, rfl, hk⟩
    exact Nat.le_of_ble_eq_true rfl
  · rintro as h k ⟨n, f, j, z, x, y, rfl, hj, hG, rfl, hk⟩ V hV
    have hh : hM (mkM (nI n) j z) n f := ⟨j, z, rfl, hj, hG⟩
    have hn := hG.1
    refine hV 80 0 _ _ _ ⟨n, f, x, y, hh, rfl, br_ne (fun c => ?_) (fun c => hk z.2.2.2.2.2.2.2.2.1 _ (Or.inl ⟨c, rfl⟩))⟩
    obtain ⟨u, v, hu, hv, huv, rfl, rfl, hb⟩ := edg_t hn c
    have loop : ∀ m s kp, s + m = n → (0 < s → mem n f s u v) → V (16, [some (.inr 0), some (.inl (nI u)), some (.inl (nI v)), some (.inl (nI (s + 2))), some (.inl (b2i true))], [], mkM (nI n) j (zK z kp)) := by
      intro m
      induction m with
      | zero =>
        intro s kp hs hm
        exfalso
        have := mem_n hG hu hv (hm (by omega))
        omega
      | succ m ih =>
        intro s kp hs hm
        refine hV 80 16 _ _ _ (br_eq (b := true) (fun c => by cases c) (fun _ => nm_r (nI_1 (s + 2)) ⟨n, f, j, _, s + 1, rfl, hj, hG, rfl, by omega, fun kp' τ hkp htr => ?_⟩))
        have gu : τ u < 4096 := Nat.lt_of_lt_of_le (fam_lt hG htr.1.1 hu) (p12 hn)
        have tail : V (49, [some (.inr 0), some (.inl (nI u)), some (.inl (nI v)), some (.inl (nI (s + 2))), some (.inl (b2i ((τ u).testBit v)))], [], mkM (nI n) j (zK z kp')) := by
          refine hV 80 49 _ _ _ (br_eq (fun c2 => nm_r (nI_add _ 0) ?_) (fun c2 => nm_r (nI_1 (s + 2)) ?_))
          · rw [c2]
            refine hV 80 16 _ _ _ (br_eq (b := false) (fun _ => ?_) (fun c => by cases c))
            refine hk kp' _ (Or.inr ⟨u, v, s + 2, hu, hv, rfl, rfl, c, ⟨by omega, fun h => hm (by omega), fun h => ?_⟩, rfl⟩)
            rw [(tr_mem htr hu).mpr h] at c2
            cases c2
          · rw [c2]
            exact ih (s + 1) kp' (by omega) (fun _ => (tr_mem htr hu).mp c2)
        refine And.intro (vp_in_nI (by omega) (by omega)) (nm_r (e' := nI (τ u)) (by rw [clamp12 hu hn]; exact hkp u hu) (nm_e (nm_r (nx_bit (by omega) (by omega)) (br_bn (fun c2 => ?_) (fun c2 => ?_)))))
        · rw [c2] at tail; exact tail
        · rw [c2] at tail; exact tail
    exact loop n 0 z.2.2.2.2.2.2.2.2.1 (by omega) (fun h => by omega)
