/-! the reference: likeness, rows made graphs -/
def tM_likeness : mT := fun as h k => ∃ n f p, hM h n f ∧ as = [.inr 0, .inl p] ∧ k (some (aLik n f p)) h
set_option maxHeartbeats 4000000 in
set_option maxRecDepth 20000 in
theorem c_M_likeness : m_Con cls 1 TB y_M_likeness b_M_likeness 10 (some .int) 0 1 tM_likeness := by
  refine m_con (code := k_M_likeness) (fld := f_M) (fpt := p_M) (kon := []) (call := [(77, true, 1, tM_isPart), (55, false, 3, tM_areJoined), (44, true, 1, tM_count), (80, true, 3, tM_part)]) (C := R_M) (T := T_M) (N := 13) (by decide) (Or.inl ⟨rfl, rfl⟩) ok_M_likeness tb_M (fun l D cA ad => m_calls ?_) ?_ ?_
  · exact List.forall_mem_cons.mpr ⟨o_M77 ⟨Nat.le_of_ble_eq_true rfl, Nat.le_of_ble_eq_true rfl⟩, List.forall_mem_cons.mpr ⟨o_M55 ⟨Nat.le_of_ble_eq_true rfl, Nat.le_of_ble_eq_true rfl⟩, List.forall_mem_cons.mpr ⟨o_M44 ⟨Nat.le_of_ble_eq_true rfl, Nat.le_of_ble_eq_true rfl⟩, List.forall_mem_cons.mpr ⟨o_M80 ⟨Nat.le_of_ble_eq_true rfl, Nat.le_of_ble_eq_true rfl⟩, fun _ h => absurd h List.not_mem_nil⟩⟩⟩⟩
  · rintro as h k ⟨n, f, p, ⟨j, z, rfl, hj, hG⟩, rfl, hk⟩
    exact Nat.le_of_ble_eq_true rfl
  · rintro as h k ⟨n, f, p, ⟨j, z, rfl, hj, hG⟩, rfl, hk⟩ V hV
    have hh : hM (mkM (nI n) j z) n f := ⟨j, z, rfl, hj, hG⟩
    have hn := hG.1
    refine hV 60 0 _ _ _ ⟨p, rfl, br_ne (fun c => ?_) (fun c => ?_)⟩
    · rw [aLik, c] at hk
      generalize hans : LK n f = R at hk
      have hR : okL 144 R := by rw [← hans]; exact LK_ok hG
      have inner : ∀ m a b (c : Lk) (y8 y9 : Option mV), a < n → b + m = n →
          (∀ (c' : Lk) (y7 y8 y9 : Option mV), c' = lk2 f a m b c → V (23, [some (.inr 0), some (.inl p), some (.inl (nI c'.1)), some (.inl (nI c'.2.1)), some (.inl (nI c'.2.2.1)), some (.inl (nI c'.2.2.2)), some (.inl (nI (a + 1))), y7, y8, y9], [], mkM (nI n) j z)) →
          V (38, [some (.inr 0), some (.inl p), some (.inl (nI c.1)), some (.inl (nI c.2.1)), some (.inl (nI c.2.2.1)), some (.inl (nI c.2.2.2)), some (.inl (nI a)), some (.inl (nI b)), y8, y9], [], mkM (nI n) j z) := by
        intro m
        induction m with
        | zero =>
          intro a b c y8 y9 ha hb hcont
          exact hV 80 38 _ _ _ (br_ge (a := b) (b := n) (by omega) (by omega) (fun _ => nm_r (nI_1 a) (hcont c _ _ _ rfl)) (fun c => absurd c (by omega)))
        | succ m ih =>
          intro a b c y8 y9 ha hb hcont
          have ga := g31 hG ha
          have gb := g31 hG (v := b) (by omega)
          refine hV 80 38 _ _ _ (br_ge (a := b) (b := n) (by omega) (by omega) (fun c => absurd c (by omega)) (fun _ => ⟨n, f, a, b, hh, rfl, ha, by omega, br_eq (fun c1 => nm_r (nI_1 b) ?_) (fun c1 => ?_)⟩))
          · refine ih a (b + 1) c _ _ ha (by omega) (fun c' y7 y8 y9 hc' => hcont c' y7 y8 y9 ?_)
            rw [hc', lk2, lks, c1]
            rfl
          · refine And.intro (vp_in_nI (by omega) (by omega)) (nm_r (by rw [clamp12 ha hn, hj a ha]) ⟨_, rfl, ga, And.intro (vp_in_nI (by omega) (by omega)) (nm_r (by rw [clamp12 (v := b) (n := n) (by omega) hn, hj b (by omega)]) ⟨_, rfl, gb, ?_⟩)⟩)
            refine nm_r (nI_1 _) (nm_r (pk_mul _ _) (nm_r (nI_add _ _) (nm_r (nI_add _ _) (nm_r (nI_add _ _) (nm_r (pk_mul _ _) (nm_r (pk_mul _ _) (nm_r (nI_add _ _) (nm_r (nI_add _ _) (nm_r (nI_1 b) ?_)))))))))
            refine ih a (b + 1) (c.1 + 1, c.2.1 + pop (f a) * pop (f b), c.2.2.1 + (pop (f a) + pop (f b)), c.2.2.2 + (pop (f a) * pop (f a) + pop (f b) * pop (f b))) _ _ ha (by omega) (fun c' y7 y8 y9 hc' => hcont c' y7 y8 y9 ?_)
            rw [hc', lk2, lks, c1]
            rfl
      have outer : ∀ m a (c : Lk) (y7 y8 y9 : Option mV), a + m = n → lk1 f n m a c = R → V (23, [some (.inr 0), some (.inl p), some (.inl (nI c.1)), some (.inl (nI c.2.1)), some (.inl (nI c.2.2.1)), some (.inl (nI c.2.2.2)), some (.inl (nI a)), y7, y8, y9], [], mkM (nI n) j z) := by
        intro m
        induction m with
        | zero =>
          intro a c y7 y8 y9 ha he
          have he : c = R := he
          subst he
          obtain ⟨b1, b2, b3⟩ := LK_b hR
          have hcs := LK_cs hR
          refine hV 80 23 _ _ _ (br_ge (a := a) (b := n) (by omega) (by omega) (fun _ => nm_r (pk_mul 2 c.1) (nm_r (pk_mul _ _) (nm_r (pk_mul _ _) (nm_r (pk_sub hcs) (br_n (a := 2 * c.1 * c.2.2.2 - c.2.2.1 * c.2.2.1) (b := 0) (by omega) (by omega) (fun c2 => nm_r (pk_mul 4 c.1) (nm_r (pk_mul _ _) (nm_r (pk_mul _ _) (nm_e ⟨_, _, _, p, rfl, abs_d b1 b2, by omega, by omega, by omega, hk⟩)))) (fun c2 => ?_)))))) (fun c => absurd c (by omega)))
          rw [c2] at hk
          exact hk
        | succ m ih =>
          intro a c y7 y8 y9 ha he
          refine hV 80 23 _ _ _ (br_ge (a := a) (b := n) (by omega) (by omega) (fun c => absurd c (by omega)) (fun _ => nm_r (nI_1 a) ?_))
          refine inner (n - (a + 1)) a (a + 1) c _ _ (by omega) (by omega) (fun c' y7 y8 y9 hc' => ih (a + 1) c' y7 y8 y9 (by omega) ?_)
          rw [hc']
          exact he
      exact outer n 0 (0, 0, 0, 0) none none none (by omega) hans
    · rw [aLik, c] at hk; exact hk
def tM_want : mT := fun as h k => ∃ n j c b q g zz x, h = mkM n j (c, b, nI q, g, zz) ∧ q ≤ 12 ∧ as = [.inr 0, .inl x] ∧ (¬ (0 ≤ x ∧ x ≤ 20) → k (some (-2)) h) ∧ (0 ≤ x → x ≤ 20 → (q = 12 → k (some (-4)) h) ∧ (q < 12 → k (some (nI (q + 1))) (mkM n j (c, b, nI (q + 1), upd g q x, zz))))
set_option maxHeartbeats 4000000 in
set_option maxRecDepth 20000 in
theorem c_M_want : m_Con cls 1 TB y_M_want b_M_want 2 (some .int) 0 0 tM_want := by
  refine m_con (code := k_M_want) (fld := f_M) (fpt := p_M) (kon := []) (call := []) (C := R_M) (T := T_M) (N := 13) (by decide) (Or.inl ⟨rfl, rfl⟩) ok_M_want tb_M (fun l D cA ad => m_calls ?_) ?_ ?_
  · exact fun _ h => absurd h List.not_mem_nil
  · rintro as h k ⟨n, j, c, b, q, g, zz, x, rfl, hq, rfl, hk1, hk2⟩
    exact Nat.le_of_ble_eq_true rfl
  · rintro as h k ⟨n, j, c, b, q, g, zz, x, rfl, hq, rfl, hk1, hk2⟩ V hV
    refine hV 60 0 _ _ _ (And.intro (fun c => hk1 (fun z => absurd c (Int32.not_lt.mpr z.1))) (fun c => And.intro (fun c2 => ?_) (fun c2 => hk1 (fun z => c2 z.2))))
    have c1 : ¬ x < 0 := c
    obtain ⟨h1, h2⟩ := hk2 (Int32.not_lt.mp c1) c2
    refine br_n (a := q) (b := 12) (by omega) (by omega) (fun c3 => And.intro (vp_in_nI (by omega) (by omega)) (nm_r (nI_1 q) ?_)) (fun c3 => h1 c3)
    have e : (nI q).toNatClampNeg = q := nI_clamp (by omega)
    have h3 := h2 (by omega)
    rw [← e] at h3
    rw [e] at h3
    show k (some (nI (q + 1))) (mkM n j (_, b, nI (q + 1), upd g (nI q).toNatClampNeg x, zz))
    rw [e]
    exact h3
def tM_unwant : mT := fun as h k => ∃ n j c b q zz, h = mkM n j (c, b, nI q, zz) ∧ as = [.inr 0] ∧ k (some (nI q)) (mkM n j (c, b, nI 0, zz))
set_option maxHeartbeats 4000000 in
set_option maxRecDepth 20000 in
theorem c_M_unwant : m_Con cls 1 TB y_M_unwant b_M_unwant 2 (some .int) 0 0 tM_unwant := by
  refine m_con (code := k_M_unwant) (fld := f_M) (fpt := p_M) (kon := []) (call := []) (C := R_M) (T := T_M) (N := 13) (by decide) (Or.inl ⟨rfl, rfl⟩) ok_M_unwant tb_M (fun l D cA ad => m_calls ?_) ?_ ?_
  · exact fun _ h => absurd h List.not_mem_nil
  · rintro as h k ⟨n, j, c, b, q, zz, rfl, rfl, hk⟩
    exact Nat.le_of_ble_eq_true rfl
  · rintro as h k ⟨n, j, c, b, q, zz, rfl, rfl, hk⟩ V hV
    exact hV 60 0 _ _ _ hk
def tM_most : mT := fun as h k => ∃ n j c b q g l zz ω P, h = mkM n j (c, b, nI q, g, l, zz) ∧ q ≤ 12 ∧ (∀ v, v < q → l v = nI (ω v) ∧ ω v ≤ 20) ∧ as = [.inr 0, .inl (nI P)] ∧ P < 4096 ∧ k (some (oI (wm ω P q))) h
set_option maxHeartbeats 4000000 in
set_option maxRecDepth 20000 in
theorem c_M_most : m_Con cls 1 TB y_M_most b_M_most 4 (some .int) 0 0 tM_most := by
  refine m_con (code := k_M_most) (fld := f_M) (fpt := p_M) (kon := []) (call := []) (C := R_M) (T := T_M) (N := 13) (by decide) (Or.inl ⟨rfl, rfl⟩) ok_M_most tb_M (fun l D cA ad => m_calls ?_) ?_ ?_
  · exact fun _ h => absurd h List.not_mem_nil
  · rintro as h k ⟨n, j, c, b, q, g, l, zz, ω, P, rfl, hq, hl, rfl, hP, hk⟩
    exact Nat.le_of_ble_eq_true rfl
  · rintro as h k ⟨n, j, c, b, q, g, l, zz, ω, P, rfl, hq, hl, rfl, hP, hk⟩ V hV
    have loop : ∀ m v, v + m = q → V (4, [some (.inr 0), some (.inl (nI P)), some (.inl (oI (wm ω P v))), some (.inl (nI v))], [], mkM n j (c, b, nI q, g, l, zz)) := by
      intro m
      induction m with
      | zero =>
        intro v hv
        have e : v = q := by omega
        subst e
        exact hV 60 4 _ _ _ (br_ge (a := v) (b := v) (by omega) (by omega) (fun _ => hk) (fun c => absurd c (by omega)))
      | succ m ih =>
        intro v hv
        have hn := ih (v + 1) (by omega)
        have hv20 := (hl v (by omega)).2
        have ev : l (nI v).toNatClampNeg = nI (ω v) := by rw [nI_clamp (by omega), (hl v (by omega)).1]
        refine hV 60 4 _ _ _ (br_ge (a := v) (b := q) (by omega) (by omega) (fun c => absurd c (by omega)) (fun _ => nm_e (nm_r (nx_bit (by omega) (by omega)) (br_bz (fun c1 => nm_r (nI_1 v) ?_) (fun c1 => And.intro (vp_in_nI (by omega) (by omega)) (nm_r ev (br_le (a := ω v) (b := 0) (by omega) (by omega) (fun c2 => nm_r (nI_1 v) ?_) (fun c2 => ?_))))))))
        · have e : wm ω P (v + 1) = wm ω P v := by
            rw [wm, c1]
            cases wm ω P v <;> rfl
          rw [e] at hn
          exact hn
        · have e : wm ω P (v + 1) = wm ω P v := by
            rw [wm, c1]
            cases hb : wm ω P v with
            | none => simp [show ¬ 0 < ω v by omega]
            | some b => simp [show ¬ ω b < ω v by omega]
          rw [e] at hn
          exact hn
        · cases hb : wm ω P v with
          | none =>
            have e : wm ω P (v + 1) = some v := by
              rw [wm, c1, hb]
              simp [c2]
            rw [e] at hn
            exact And.intro (fun _ => nm_r (nI_1 v) hn) (fun c => absurd (show (-1 : Int32) < 0 by decide) c)
          | some b =>
            obtain ⟨b1, b2, b3⟩ := wm_in hb
            have hb20 := (hl b (by omega)).2
            have eb : l (nI b).toNatClampNeg = nI (ω b) := by rw [nI_clamp (by omega), (hl b (by omega)).1]
            rw [show oI (some b) = nI b from rfl]
            refine And.intro (fun c => absurd c (nI_pos (by omega))) (fun _ => And.intro (vp_in_nI (by omega) (by omega)) (nm_r ev (And.intro (vp_in_nI (by omega) (by omega)) (nm_r eb (br_le (a := ω v) (b := ω b) (by omega) (by omega) (fun c3 => nm_r (nI_1 v) ?_) (fun c3 => nm_r (nI_1 v) ?_))))))
            · have e : wm ω P (v + 1) = some b := by
                rw [wm, c1, hb]
                simp [show ¬ ω b < ω v by omega]
              rw [e] at hn
              exact hn
            · have e : wm ω P (v + 1) = some v := by
                rw [wm, c1, hb]
                simp [c3]
              rw [e] at hn
              exact hn
    exact hV 60 0 _ _ _ (loop q 0 (by omega))
theorem o_M103 {D : va_G} {cA : ClassId} {ad : Nat → Nat} {l : Launch} {R : Room} (hR : 0 + 1 ≤ R.frames ∧ 32 * (0 + 1) ≤ R.locals) : m_OK D cls cA 1 ad TB l "DegreeCoresModel" R 103 false (1 + 1) tM_most :=
  m_okV (C := R_M) (Tu := T_M) (N := 13) rfl c_M_most (by decide) tb_good w_M103 ⟨rfl, by decide +kernel, by decide +kernel, by decide +kernel⟩ (by decide) hR (by rintro as h k ⟨n, j, c, b, q, g, l, zz, ω, P, rfl, hq, hl, rfl, hP, hk⟩; exact ⟨0, _, _, rfl, rfl⟩)
def nz (q : Nat) (ω : Nat → Nat) : Nat := cn (fun v => decide (0 < ω v)) q
theorem nz_0 {q : Nat} {ω : Nat → Nat} (h : nz q ω = 0) : wm ω 0 q = none := by
  cases hw : wm ω 0 q with
  | none => rfl
  | some v =>
    obtain ⟨h1, -, h3⟩ := wm_in hw
    have := cn_0 h v h1
    simp at this
    omega
theorem nz_lt {q v : Nat} {ω ω' : Nat → Nat} (hv : v < q) (hp : 0 < ω v) (h : ∀ x, up ω v 0 x = 0 → ω' x = 0) : nz q ω' < nz q ω := by
  refine cn_lt (v := v) (fun i _ hi => ?_) hv ?_ (by simp [hp])
  · simp only [decide_eq_true_eq] at hi ⊢
    apply Nat.pos_of_ne_zero
    intro h0
    have : up ω v 0 i = 0 := by
      by_cases e : i = v
      · rw [e, up_s]
      · rw [up_n _ _ _ e]; exact h0
    have := h i this
    omega
  · have := h v (up_s _ _ _)
    simp [this]
abbrev zT (c : Nat → Int32) (b : Int32) (q : Nat) (g l : Nat → Int32) (x0 x1 x2 : Int32) (kp : Nat → Int32) (md : Int32) (mg : Nat → Int32) : mZ := (c, b, nI q, g, l, x0, x1, x2, kp, md, mg)
def tM_tries : mT := fun as h k => ∃ n j c b q g l x0 x1 x2 kp md mg γ, h = mkM n j (zT c b q g l x0 x1 x2 kp md mg) ∧ q ≤ 12 ∧ hR q g γ ∧ (∀ v, v < q → γ v ≤ 20) ∧ as = [.inr 0] ∧
  (mkr q q γ (fun _ => 0) = none → ∀ l' md' mg', k (some 0) (mkM n j (zT c b q g l' x0 x1 x2 kp md' mg'))) ∧ (∀ s, mkr q q γ (fun _ => 0) = some s → ∀ l' e mg', hR q mg' s.2 → 2 * e = mt q s.2 → k (some 1) (mkM n j (zT c b q g l' x0 x1 x2 kp (nI e) mg')))
def k2_M_tries : List (Nat × mE) := [(0, .aload_n 0, 1, 0, 0, false), (1, .iconst 0, 2, 0, 0, false), (2, .putfield 100, 5, 0, 0, false), (5, .iconst 0, 6, 0, 0, false), (6, .istore_n 1, 7, 0, 0, false), (7, .iload_n 1, 8, 0, 0, true), (8, .bipush 12, 10, 0, 12, false), (10, .if_icmp .ge 40, 13, 50, 0, false), (13, .aload_n 0, 14, 0, 0, false), (14, .getfield 29, 17, 0, 0, false), (17, .iload_n 1, 18, 0, 0, false), (18, .iconst 0, 19, 0, 0, false), (19, .iastore, 20, 0, 0, false), (20, .aload_n 0, 21, 0, 0, false), (21, .getfield 23, 24, 0, 0, false), (24, .iload_n 1, 25, 0, 0, false), (25, .iload_n 1, 26, 0, 0, false), (26, .aload_n 0, 27, 0, 0, false), (27, .getfield 97, 30, 0, 0, false), (30, .if_icmp .ge 12, 33, 42, 0, false), (33, .aload_n 0, 34, 0, 0, false), (34, .getfield 20, 37, 0, 0, false), (37, .iload_n 1, 38, 0, 0, false), (38, .iaload, 39, 0, 0, false), (39, .goto 4, 42, 43, 0, false), (42, .iconst 0, 43, 0, 0, false), (43, .iastore, 44, 0, 0, false), (44, .iinc 1 1, 47, 0, 1, false), (47, .goto (-40), 50, 7, 0, false), (50, .iconst 1, 51, 0, 1, false), (51, .istore_n 1, 52, 0, 0, false), (52, .iload_n 1, 53, 0, 0, true), (53, .ifCond .eq 129, 56, 182, 0, false), (56, .aload_n 0, 57, 0, 0, false), (57, .iconst 0, 58, 0, 0, false), (58, .invokevirtual 103, 61, 0, 0, false), (61, .istore_n 2, 62, 0, 0, false), (62, .iload_n 2, 63, 0, 0, false), (63, .ifCond .lt 7, 66, 70, 0, false), (66, .iconst 1, 67, 0, 1, false), (67, .goto 4, 70, 71, 0, false), (70, .iconst 0, 71, 0, 0, false), (71, .istore_n 1, 72, 0, 0, false), (72, .iload_n 1, 73, 0, 0, true), (73, .ifCond .eq 106, 76, 179, 0, false), (76, .iconst 1, 77, 0, 1, false), (77, .iload_n 2, 78, 0, 0, false), (78, .ishl, 79, 0, 0, false), (79, .istore_n 3, 80, 0, 0, false), (80, .aload_n 0, 81, 0, 0, false), (81, .getfield 23, 84, 0, 0, false), (84, .iload_n 2, 85, 0, 0, false), (85, .iaload, 86, 0, 0, false), (86, .istore 4, 88, 0, 0, false), (88, .aload_n 0, 89, 0, 0, false), (89, .getfield 23, 92, 0, 0, false), (92, .iload_n 2, 93, 0, 0, false), (93, .iconst 0, 94, 0, 0, false), (94, .iastore, 95, 0, 0, false), (95, .iconst 0, 96, 0, 0, false), (96, .istore 5, 98, 0, 0, false), (98, .iload 5, 100, 0, 0, true), (100, .iload 4, 102, 0, 0, false), (102, .if_icmp .ge 77, 105, 179, 0, false), (105, .aload_n 0, 106, 0, 0, false), (106, .iload_n 3, 107, 0, 0, false), (107, .invokevirtual 103, 110, 0, 0, false), (110, .istore 6, 112, 0, 0, false), (112, .iload 6, 114, 0, 0, false), (114, .ifCond .ge 5, 117, 119, 0, false), (117, .iconst 0, 118, 0, 0, false), (118, .ireturn, 119, 0, 0, false), (119, .iload_n 3, 120, 0, 0, false), (120, .iconst 1, 121, 0, 1, false), (121, .iload 6, 123, 0, 0, false), (123, .ishl, 124, 0, 0, false), (124, .ior, 125, 0, 0, false), (125, .istore_n 3, 126, 0, 0, false), (126, .aload_n 0, 127, 0, 0, false), (127, .getfield 23, 130, 0, 0, false), (130, .iload 6, 132, 0, 0, false), (132, .dup2, 133, 0, 0, false), (133, .iaload, 134, 0, 0, false), (134, .iconst 1, 135, 0, 1, false), (135, .isub, 136, 0, 0, false), (136, .iastore, 137, 0, 0, false), (137, .aload_n 0, 138, 0, 0, false), (138, .getfield 29, 141, 0, 0, false), (141, .iload_n 2, 142, 0, 0, false), (142, .dup2, 143, 0, 0, false), (143, .iaload, 144, 0, 0, false), (144, .iconst 1, 145, 0, 1, false), (145, .iload 6, 147, 0, 0, false), (147, .ishl, 148, 0, 0, false), (148, .ior, 149, 0, 0, false), (149, .iastore, 150, 0, 0, false), (150, .aload_n 0, 151, 0, 0, false), (151, .getfield 29, 154, 0, 0, false), (154, .iload 6, 156, 0, 0, false), (156, .dup2, 157, 0, 0, false), (157, .iaload, 158, 0, 0, false), (158, .iconst 1, 159, 0, 1, false), (159, .iload_n 2, 160, 0, 0, false), (160, .ishl, 161, 0, 0, false), (161, .ior, 162, 0, 0, false), (162, .iastore, 163, 0, 0, false), (163, .aload_n 0, 164, 0, 0, false), (164, .dup, 165, 0, 0, false), (165, .getfield 100, 168, 0, 0, false), (168, .iconst 1, 169, 0, 1, false), (169, .iadd, 170, 0, 0, false), (170, .putfield 100, 173, 0, 0, false), (173, .iinc 5 1, 176, 0, 1, false), (176, .goto (-78), 179, 98, 0, false), (179, .goto (-127), 182, 52, 0, false), (182, .iconst 1, 183, 0, 1, false), (183, .ireturn, 184, 0, 0, false)]
theorem ok2_M_tries : k2_M_tries.all (m_ok b_M_tries 7) = true := by decide +kernel
set_option maxHeartbeats 4000000 in
set_option maxRecDepth 20000 in
theorem c_M_tries : m_Con cls 1 TB y_M_tries b_M_tries 7 (some .boolean) 1 1 tM_tries := by
  refine m_con (code := k2_M_tries) (fld := f_M) (fpt := p_M) (kon := []) (call := [(103, false, 2, tM_most)]) (C := R_M) (T := T_M) (N := 13) (by decide) (Or.inr (Or.inl ⟨rfl, rfl⟩)) ok2_M_tries tb_M (fun l D cA ad => m_calls ?_) ?_ ?_
  · exact List.forall_mem_cons.mpr ⟨o_M103 ⟨Nat.le_of_ble_eq_true rfl, Nat.le_of_ble_eq_true rfl⟩, fun _ h => absurd h List.not_mem_nil⟩
  · rintro as h k ⟨n, j, c, b, q, g, l, x0, x1, x2, kp, md, mg, γ, rfl, hq, hg, hg20, rfl, hk1, hk2⟩
    exact Nat.le_of_ble_eq_true rfl
  · rintro as h k ⟨n, j, c, b, q, g, l, x0, x1, x2, kp, md, mg, γ, rfl, hq, hg, hg20, rfl, hk1, hk2⟩ V hV
    have h12 := p12 hq
    generalize hR0 : mkr q q γ (fun _ => 0) = RR at hk1 hk2
    have lp : ∀ r ω μ l mg e (y2 y3 y4 y5 y6 : Option mV), nz q ω ≤ r → mkI q ω μ → hR q l ω → hR q mg μ → 2 * e = mt q μ → mkr q r ω μ = RR → V (52, [some (.inr 0), some (.inl (b2i true)), y2, y3, y4, y5, y6], [], mkM n j (zT c b q g l x0 x1 x2 kp (nI e) mg)) := by
      intro r
      have none_case : ∀ ω μ l mg e (y2 y3 y4 y5 y6 : Option mV), mkI q ω μ → hR q l ω → hR q mg μ → 2 * e = mt q μ → wm ω 0 q = none → some (ω, μ) = RR → V (52, [some (.inr 0), some (.inl (b2i true)), y2, y3, y4, y5, y6], [], mkM n j (zT c b q g l x0 x1 x2 kp (nI e) mg)) := by
        intro ω μ l mg e y2 y3 y4 y5 y6 hI hl hm he hw hr
        refine hV 80 52 _ _ _ (br_eq (b := true) (fun c => by cases c) (fun _ => ⟨n, j, c, b, q, g, l, _, ω, 0, rfl, hq, fun v hv => ⟨hl v hv, hI.2.1 v hv⟩, rfl, by omega, ?_⟩))
        rw [hw]
        refine And.intro (fun _ => ?_) (fun c => absurd (show (-1 : Int32) < 0 by decide) c)
        refine hV 80 72 _ _ _ (br_eq (b := false) (fun _ => ?_) (fun c => by cases c))
        refine hV 80 52 _ _ _ (br_eq (b := false) (fun _ => And.intro (Or.inr rfl) ?_) (fun c => by cases c))
        exact hk2 _ hr.symm _ e _ hm he
      induction r with
      | zero =>
        intro ω μ l mg e y2 y3 y4 y5 y6 hz hI hl hm he hr
        exact none_case ω μ l mg e _ _ _ _ _ hI hl hm he (nz_0 (by omega)) hr
      | succ r ih =>
        intro ω μ l mg e y2 y3 y4 y5 y6 hz hI hl hm he hr
        cases hw : wm ω 0 q with
        | none =>
          rw [mkr_none hw] at hr
          exact none_case ω μ l mg e _ _ _ _ _ hI hl hm he hw hr
        | some v =>
          obtain ⟨hv, hpos, hsv⟩ := sv_begin hI hw
          rw [mkr, hw] at hr
          dsimp only at hr
          have hv20 := hI.2.1 v hv
          have hcv : (nI v).toNatClampNeg = v := nI_clamp (by omega)
          have serve : ∀ m t P ω' μ' l mg e (y6 : Option mV), t + m = ω v → P < 2 ^ q → svI q v P ω' μ' → hR q l ω' → hR q mg μ' → 2 * e = mt q μ' → sv q m v ω' μ' P = sv q (ω v) v (up ω v 0) μ (2 ^ v) → V (98, [some (.inr 0), some (.inl (b2i true)), some (.inl (nI v)), some (.inl (nI P)), some (.inl (nI (ω v))), some (.inl (nI t)), y6], [], mkM n j (zT c b q g l x0 x1 x2 kp (nI e) mg)) := by
            intro m
            induction m with
            | zero =>
              intro t P ω' μ' l mg e y6 ht hP hI' hl hm he hs
              refine hV 80 98 _ _ _ (br_ge (a := t) (b := ω v) (by omega) (by omega) (fun _ => ?_) (fun c => absurd c (by omega)))
              rw [sv] at hs
              rw [← hs] at hr
              have hk := (sv_mk hsv hs.symm).2.2
              exact ih ω' μ' l mg e _ _ _ _ _ (by have := nz_lt (ω' := ω') hv hpos hk; omega) (svI_mk hI') hl hm he hr
            | succ m ih2 =>
              intro t P ω' μ' l mg e y6 ht hP hI' hl hm he hs
              refine hV 80 98 _ _ _ (br_ge (a := t) (b := ω v) (by omega) (by omega) (fun c => absurd c (by omega)) (fun _ => ⟨n, j, c, b, q, g, l, _, ω', P, rfl, hq, fun u hu => ⟨hl u hu, hI'.2.2.2.2.1 u hu⟩, rfl, by omega, ?_⟩))
              rw [sv] at hs
              cases hu : wm ω' P q with
              | none =>
                rw [hu] at hs
                rw [← hs] at hr
                exact And.intro (fun c => absurd c (by decide)) (fun _ => And.intro (Or.inl rfl) (hk1 hr.symm _ _ _))
              | some u =>
                rw [hu] at hs
                obtain ⟨b1, b2, b3, b4, b5⟩ := sv_step hI' hu
                have hcu : (nI u).toNatClampNeg = u := nI_clamp (by omega)
                have hu20 := hI'.2.2.2.2.1 u b1
                rw [show oI (some u) = nI u from rfl]
                refine And.intro (fun _ => nm_r (nx_shl u (by omega)) (nm_r (nx_or _ _) ?_)) (fun c => absurd (nI_pos' (by omega)) c)
                refine And.intro (vp_in_nI (by omega) (by omega)) (nm_r (e' := nI (ω' u)) (by rw [hcu]; exact hl u b1) (nm_r (pk_sub (b := 1) b3) (And.intro (vp_in_nI (by omega) (by omega)) ?_)))
                refine And.intro (vp_in_nI (by omega) (by omega)) (nm_r (e' := nI (μ' v)) (by rw [hcv]; exact hm v hv) (nm_r (nx_shl u (by omega)) (nm_r (nx_or _ _) (And.intro (vp_in_nI (by omega) (by omega)) ?_))))
                refine And.intro (vp_in_nI (by omega) (by omega)) (nm_r (e' := nI (μ' u)) (by rw [hcu, hcv]; exact (upd_n b2).trans (hm u b1)) (nm_r (nx_shl v (by omega)) (nm_r (nx_or _ _) (And.intro (vp_in_nI (by omega) (by omega)) (nm_r (nI_1 e) (nm_r (nI_1 t) ?_))))))
                have hmt := mt_ju hI'.1 hv b1 b2 b4
                have := ih2 (t + 1) (P ||| 2 ^ u) (up ω' u (ω' u - 1)) (ju μ' v u) (upd l u (nI (ω' u - 1))) (upd (upd mg v (nI (μ' v ||| 2 ^ u))) u (nI (μ' u ||| 2 ^ v))) (e + 1) (some (.inl (nI u))) (by omega) (Nat.or_lt_two_pow hP (Nat.pow_lt_pow_right (by decide) b1)) b5 (fun x hx => by
                  by_cases e : x = u
                  · rw [e, upd_u, up_s]
                  · rw [upd_n e, up_n _ _ _ e]; exact hl x hx) (hR_ju hm b2) (by omega) hs
                show V (98, [some (.inr 0), some (.inl (b2i true)), some (.inl (nI v)), some (.inl (nI (P ||| 2 ^ u))), some (.inl (nI (ω v))), some (.inl (nI (t + 1))), some (.inl (nI u))], [], mkM n j (zT c b q g (upd l (nI u).toNatClampNeg (nI (ω' u - 1))) x0 x1 x2 kp (nI (e + 1)) (upd (upd mg (nI v).toNatClampNeg (nI (μ' v ||| 2 ^ u))) (nI u).toNatClampNeg (nI (μ' u ||| 2 ^ v)))))
                rw [hcv, hcu]
                exact this
          refine hV 80 52 _ _ _ (br_eq (b := true) (fun c => by cases c) (fun _ => ⟨n, j, c, b, q, g, l, _, ω, 0, rfl, hq, fun v hv => ⟨hl v hv, hI.2.1 v hv⟩, rfl, by omega, ?_⟩))
          rw [hw, show oI (some v) = nI v from rfl]
          refine And.intro (fun c => absurd c (nI_pos (by omega))) (fun _ => ?_)
          refine hV 80 72 _ _ _ (br_eq (b := true) (fun c => by cases c) (fun _ => nm_r (nx_shl v (by omega)) (And.intro (vp_in_nI (by omega) (by omega)) (nm_r (e' := nI (ω v)) (by rw [hcv]; exact hl v hv) (And.intro (vp_in_nI (by omega) (by omega)) ?_)))))
          show V (98, [some (.inr 0), some (.inl (b2i true)), some (.inl (nI v)), some (.inl (nI (2 ^ v))), some (.inl (nI (ω v))), some (.inl (nI 0)), y6], [], mkM n j (zT c b q g (upd l (nI v).toNatClampNeg 0) x0 x1 x2 kp (nI e) mg))
          rw [hcv]
          refine serve (ω v) 0 (2 ^ v) (up ω v 0) μ _ mg e _ (by omega) (Nat.pow_lt_pow_right (by decide) hv) hsv (fun x hx => ?_) hm he rfl
          by_cases e : x = v
          · rw [e, upd_u, up_s]; rfl
          · rw [upd_n e, up_n _ _ _ e]; exact hl x hx
    have ini : ∀ m i l mg, i + m = 12 → (∀ v, v < i → v < q → l v = nI (γ v)) → (∀ v, v < i → mg v = 0) → V (7, [some (.inr 0), some (.inl (nI i)), none, none, none, none, none], [], mkM n j (zT c b q g l x0 x1 x2 kp 0 mg)) := by
      intro m
      induction m with
      | zero =>
        intro i l mg hi hl hm
        have e : i = 12 := by omega
        subst e
        refine hV 80 7 _ _ _ (br_ge (a := 12) (b := 12) (by omega) (by omega) (fun _ => ?_) (fun c => absurd c (by omega)))
        exact lp q γ (fun _ => 0) l mg 0 _ _ _ _ _ (cn_n _ _) (mk_0 hq hg20) (fun v hv => hl v (by omega) hv) (fun v hv => hm v (by omega)) (by
          show 2 * 0 = sm _ q
          rw [sm_zero' (fun v _ => pop_0)]) hR0
      | succ m ih =>
        intro i l mg hi hl hm
        have ei : (nI i).toNatClampNeg = i := nI_clamp (by omega)
        have go : ∀ w : Int32, (i < q → w = nI (γ i)) → V (7, [some (.inr 0), some (.inl (nI (i + 1))), none, none, none, none, none], [], mkM n j (zT c b q g (upd l (nI i).toNatClampNeg w) x0 x1 x2 kp 0 (upd mg (nI i).toNatClampNeg 0))) := by
          intro w hw
          rw [ei]
          refine ih (i + 1) _ _ (by omega) (fun v hv hvq => ?_) (fun v hv => ?_)
          · by_cases e : v = i
            · rw [e, upd_u, hw (by omega)]
            · rw [upd_n e]; exact hl v (by omega) hvq
          · by_cases e : v = i
            · rw [e, upd_u]
            · rw [upd_n e]; exact hm v (by omega)
        refine hV 80 7 _ _ _ (br_ge (a := i) (b := 12) (by omega) (by omega) (fun c => absurd c (by omega)) (fun _ => And.intro (vp_in_nI (by omega) (by omega)) (br_ge (a := i) (b := q) (by omega) (by omega) (fun c2 => And.intro (vp_in_nI (by omega) (by omega)) (nm_r (nI_1 i) (go 0 (fun h => by omega)))) (fun c2 => And.intro (vp_in_nI (by omega) (by omega)) (nm_r (e' := nI (γ i)) (by rw [ei]; exact hg i c2) (And.intro (vp_in_nI (by omega) (by omega)) (nm_r (nI_1 i) (go _ (fun _ => rfl)))))))))
    exact hV 80 0 _ _ _ (ini 12 0 l mg (by omega) (fun v hv => by omega) (fun v hv => by omega))
theorem o_M106 {D : va_G} {cA : ClassId} {ad : Nat → Nat} {l : Launch} {R : Room} (hR : 1 + 1 ≤ R.frames ∧ 32 * (1 + 1) ≤ R.locals) : m_OK D cls cA 1 ad TB l "DegreeCoresModel" R 106 false (0 + 1) tM_tries :=
  m_okV (C := R_M) (Tu := T_M) (N := 13) rfl c_M_tries (by decide) tb_good w_M106 ⟨rfl, by decide +kernel, by decide +kernel, by decide +kernel⟩ (by decide) hR (by rintro as h k ⟨n, j, c, b, q, g, l, x0, x1, x2, kp, md, mg, γ, rfl, hq, hg, hg20, rfl, hk1, hk2⟩; exact ⟨0, _, _, rfl, rfl⟩)
def tM_graphic : mT := fun as h k => ∃ n j c b q g l x0 x1 x2 kp md mg γ, h = mkM n j (zT c b q g l x0 x1 x2 kp md mg) ∧ q ≤ 12 ∧ hR q g γ ∧ (∀ v, v < q → γ v ≤ 20) ∧ as = [.inr 0] ∧ ∀ l' md' mg', k (some (b2i (mkr q q γ (fun _ => 0)).isSome)) (mkM n j (zT c b q g l' x0 x1 x2 kp md' mg'))
set_option maxHeartbeats 4000000 in
set_option maxRecDepth 20000 in
theorem c_M_graphic : m_Con cls 1 TB y_M_graphic b_M_graphic 1 (some .int) 0 2 tM_graphic := by
  refine m_con (code := k_M_graphic) (fld := f_M) (fpt := p_M) (kon := []) (call := [(106, false, 1, tM_tries)]) (C := R_M) (T := T_M) (N := 13) (by decide) (Or.inl ⟨rfl, rfl⟩) ok_M_graphic tb_M (fun l D cA ad => m_calls ?_) ?_ ?_
  · exact List.forall_mem_cons.mpr ⟨o_M106 ⟨Nat.le_of_ble_eq_true rfl, Nat.le_of_ble_eq_true rfl⟩, fun _ h => absurd h List.not_mem_nil⟩
  · rintro as h k ⟨n, j, c, b, q, g, l, x0, x1, x2, kp, md, mg, γ, rfl, hq, hg, hg20, rfl, hk⟩
    exact Nat.le_of_ble_eq_true rfl
  · rintro as h k ⟨n, j, c, b, q, g, l, x0, x1, x2, kp, md, mg, γ, rfl, hq, hg, hg20, rfl, hk⟩ V hV
    refine hV 80 0 _ _ _ ⟨n, j, c, b, q, g, l, x0, x1, x2, kp, md, mg, γ, rfl, hq, hg, hg20, rfl, fun e l' md' mg' => ?_, fun s e l' e1 mg' _ _ => ?_⟩
    · rw [e] at hk
      exact And.intro (fun _ => hk l' md' mg') (fun c => absurd rfl c)
    · rw [e] at hk
      exact And.intro (fun c => absurd c (by decide)) (fun _ => hk l' _ mg')
theorem e1_mt {q : Nat} {μ : Nat → Nat} (hG : Gr q μ) : 2 * e1 q μ (2 ^ q - 1) = mt q μ := by
  rw [← e2_e1 hG]
  refine sm_congr (fun v hv => ?_)
  rw [tb_all, decide_eq_true hv]
  show dg μ (2 ^ q - 1) v = pop (μ v)
  rw [dg_n hG hv, pop_n (hG.2.1 v hv) hG.1]
  exact cn_congr (fun u hu => by rw [tb_all]; simp [hu])
def tM_make : mT := fun as h k => ∃ n j c b q g l x0 x1 x2 kp md mg γ, h = mkM n j (zT c b q g l x0 x1 x2 kp md mg) ∧ q ≤ 12 ∧ hR q g γ ∧ (∀ v, v < q → γ v ≤ 20) ∧ as = [.inr 0] ∧
  (mkr q q γ (fun _ => 0) = none → ∀ l' md' mg', k (some (-3)) (mkM n j (zT c b q g l' x0 x1 x2 kp md' mg'))) ∧ (∀ s, mkr q q γ (fun _ => 0) = some s → ∀ j' l' md' mg', hR q j' s.2 → k (some (nI (e1 q s.2 (2 ^ q - 1)))) (mkM (nI q) j' (zT c 1 q g l' x0 x1 x2 kp md' mg')))
set_option maxHeartbeats 4000000 in
set_option maxRecDepth 20000 in
theorem c_M_make : m_Con cls 1 TB y_M_make b_M_make 2 (some .int) 0 2 tM_make := by
  refine m_con (code := k_M_make) (fld := f_M) (fpt := p_M) (kon := []) (call := [(106, false, 1, tM_tries)]) (C := R_M) (T := T_M) (N := 13) (by decide) (Or.inl ⟨rfl, rfl⟩) ok_M_make tb_M (fun l D cA ad => m_calls ?_) ?_ ?_
  · exact List.forall_mem_cons.mpr ⟨o_M106 ⟨Nat.le_of_ble_eq_true rfl, Nat.le_of_ble_eq_true rfl⟩, fun _ h => absurd h List.not_mem_nil⟩
  · rintro as h k ⟨n, j, c, b, q, g, l, x0, x1, x2, kp, md, mg, γ, rfl, hq, hg, hg20, rfl, hk1, hk2⟩
    exact Nat.le_of_ble_eq_true rfl
  · rintro as h k ⟨n, j, c, b, q, g, l, x0, x1, x2, kp, md, mg, γ, rfl, hq, hg, hg20, rfl, hk1, hk2⟩ V hV
    refine hV 80 0 _ _ _ ⟨n, j, c, b, q, g, l, x0, x1, x2, kp, md, mg, γ, rfl, hq, hg, hg20, rfl, fun e l' md' mg' => ?_, fun s e l' e1v mg' hm he => ?_⟩
    · exact And.intro (fun c => absurd rfl c) (fun _ => hk1 e l' md' mg')
    · refine And.intro (fun _ => ?_) (fun c => absurd c (by decide))
      have hG := (mkr_mk q (mk_0 hq hg20) e).1
      have h1 := e1_mt hG
      have ee : e1v = e1 q s.2 (2 ^ q - 1) := by omega
      have loop : ∀ m i j, i + m = q → hR i j s.2 → V (20, [some (.inr 0), some (.inl (nI i))], [], mkM (nI q) j (zT c b q g l' x0 x1 x2 kp (nI e1v) mg')) := by
        intro m
        induction m with
        | zero =>
          intro i j hi hj
          have e0 : i = q := by omega
          subst e0
          refine hV 80 20 _ _ _ (br_ge (a := i) (b := i) (by omega) (by omega) (fun _ => And.intro (Or.inr rfl) ?_) (fun c => absurd c (by omega)))
          rw [ee]
          exact hk2 s e j l' _ mg' hj
        | succ m ih =>
          intro i j hi hj
          have ei : (nI i).toNatClampNeg = i := nI_clamp (by omega)
          refine hV 80 20 _ _ _ (br_ge (a := i) (b := q) (by omega) (by omega) (fun c => absurd c (by omega)) (fun _ => And.intro (vp_in_nI (by omega) (by omega)) (nm_r (e' := nI (s.2 i)) (by rw [ei]; exact hm i (by omega)) (And.intro (vp_in_nI (by omega) (by omega)) (nm_r (nI_1 i) ?_)))))
          refine ih (i + 1) _ (by omega) (fun v hv => ?_)
          show upd j (nI i).toNatClampNeg (nI (s.2 i)) v = nI (s.2 v)
          rw [ei]
          by_cases e0 : v = i
          · rw [e0, upd_u]
          · rw [upd_n e0]; exact hj v (by omega)
      exact loop q 0 j (by omega) (fun v hv => by omega)
