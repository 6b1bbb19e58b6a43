/-! the reference: its cells; nodes, joins, cores, peeling, layers -/
/-- cuts, isNew, wants, want, left, found0, found1, found2, kept, made, making -/
abbrev mZ : Type := (Nat → Int32) × Int32 × Int32 × (Nat → Int32) × (Nat → Int32) × Int32 × Int32 × Int32 × (Nat → Int32) × Int32 × (Nat → Int32)
def mkM (n : Int32) (j : Nat → Int32) (z : mZ) : mH :=
  [.inl [.inl n, .inr 1, .inr 2, .inl z.2.1, .inl z.2.2.1, .inr 3, .inr 4, .inl z.2.2.2.2.2.1, .inl z.2.2.2.2.2.2.1, .inl z.2.2.2.2.2.2.2.1, .inr 5, .inl z.2.2.2.2.2.2.2.2.2.1, .inr 6],
    .inr (12, j), .inr (4096, z.1), .inr (12, z.2.2.2.1), .inr (12, z.2.2.2.2.1), .inr (12, z.2.2.2.2.2.2.2.2.1), .inr (12, z.2.2.2.2.2.2.2.2.2.2)]
def hM (h : mH) (n : Nat) (f : Nat → Nat) : Prop := ∃ j z, h = mkM (nI n) j z ∧ (∀ v, v < n → j v = nI (f v)) ∧ Gr n f
theorem br_bn {b : Bool} {A B : Prop} (f : b = false → A) (g : b = true → B) : (¬ nI b.toNat = 1 → A) ∧ (nI b.toNat = 1 → B) := by
  cases b with
  | false => exact ⟨fun _ => f rfl, fun h => absurd h (by decide)⟩
  | true => exact ⟨fun h => absurd rfl h, fun _ => g rfl⟩
theorem br_bz {b : Bool} {A B : Prop} (f : b = true → A) (g : b = false → B) : (¬ nI b.toNat = 0 → A) ∧ (nI b.toNat = 0 → B) := by
  cases b with
  | false => exact ⟨fun h => absurd rfl h, fun _ => g rfl⟩
  | true => exact ⟨fun _ => f rfl, fun h => absurd h (by decide)⟩
theorem nI_bool (b : Bool) : nI b.toNat = b2i b := by cases b <;> decide
def tM_isNode : mT := fun as h k => ∃ n f x, hM h n f ∧ as = [.inr 0, .inl x] ∧ k (some (b2i (isN n x))) h
set_option maxHeartbeats 4000000 in
set_option maxRecDepth 20000 in
theorem c_M_isNode : m_Con cls 1 TB y_M_isNode b_M_isNode 2 (some .boolean) 1 0 tM_isNode := by
  refine m_con (code := k_M_isNode) (fld := f_M) (fpt := p_M) (kon := []) (call := []) (C := R_M) (T := T_M) (N := 13) (by decide) (Or.inr (Or.inl ⟨rfl, rfl⟩)) ok_M_isNode tb_M (fun l D cA ad => m_calls ?_) ?_ ?_
  · exact fun _ h => absurd h List.not_mem_nil
  · rintro as h k ⟨n, f, x, ⟨j, z, rfl, hj, hG⟩, rfl, hk⟩
    exact Nat.le_of_ble_eq_true rfl
  · rintro as h k ⟨n, f, x, ⟨j, z, rfl, hj, hG⟩, rfl, hk⟩ V hV
    refine hV 60 0 _ _ _ (And.intro (fun c => And.intro (Or.inl rfl) ?_) (fun c => And.intro (fun c2 => And.intro (Or.inl rfl) ?_) (fun c2 => And.intro (Or.inr rfl) ?_)))
    · have e : isN n x = false := decide_eq_false (fun z => absurd c (Int32.not_lt.mpr z.1))
      rw [e] at hk; exact hk
    · have e : isN n x = false := decide_eq_false (fun z => absurd z.2 (Int32.not_lt.mpr c2))
      rw [e] at hk; exact hk
    · have e : isN n x = true := decide_eq_true ⟨Int32.not_lt.mp c, Int32.not_le.mp c2⟩
      rw [e] at hk; exact hk
theorem o_M36 {D : va_G} {cA : ClassId} {ad : Nat → Nat} {l : Launch} {R : Room} (hR : 0 + 1 ≤ R.frames ∧ 32 * (0 + 1) ≤ R.locals) : m_OK D cls cA 1 ad TB l "DegreeCoresModel" R 36 false (1 + 1) tM_isNode :=
  m_okV (C := R_M) (Tu := T_M) (N := 13) rfl c_M_isNode (by decide) tb_good w_M36 ⟨rfl, by decide +kernel, by decide +kernel, by decide +kernel⟩ (by decide) hR (by rintro as h k ⟨n, f, x, ⟨j, z, rfl, hj, hG⟩, rfl, hk⟩; exact ⟨0, _, _, rfl, rfl⟩)
def tM_areTwo : mT := fun as h k => ∃ n f x y, hM h n f ∧ as = [.inr 0, .inl x, .inl y] ∧ k (some (b2i (two n x y))) h
set_option maxHeartbeats 4000000 in
set_option maxRecDepth 20000 in
theorem c_M_areTwo : m_Con cls 1 TB y_M_areTwo b_M_areTwo 3 (some .boolean) 1 1 tM_areTwo := by
  refine m_con (code := k_M_areTwo) (fld := f_M) (fpt := p_M) (kon := []) (call := [(36, false, 2, tM_isNode)]) (C := R_M) (T := T_M) (N := 13) (by decide) (Or.inr (Or.inl ⟨rfl, rfl⟩)) ok_M_areTwo tb_M (fun l D cA ad => m_calls ?_) ?_ ?_
  · exact List.forall_mem_cons.mpr ⟨o_M36 ⟨Nat.le_of_ble_eq_true rfl, Nat.le_of_ble_eq_true rfl⟩, fun _ h => absurd h List.not_mem_nil⟩
  · rintro as h k ⟨n, f, x, y, ⟨j, z, rfl, hj, hG⟩, rfl, hk⟩
    exact Nat.le_of_ble_eq_true rfl
  · rintro as h k ⟨n, f, x, y, ⟨j, z, rfl, hj, hG⟩, rfl, hk⟩ V hV
    have hh : hM (mkM (nI n) j z) n f := ⟨j, z, rfl, hj, hG⟩
    refine hV 60 0 _ _ _ ⟨n, f, x, hh, rfl, br_eq (fun c => And.intro (Or.inl rfl) ?_) (fun c => ⟨n, f, y, hh, rfl, br_eq (fun c2 => And.intro (Or.inl rfl) ?_) (fun c2 => And.intro (fun c3 => And.intro (Or.inl rfl) ?_) (fun c3 => And.intro (Or.inr rfl) ?_))⟩)⟩
    · have e : two n x y = false := by simp [two, c]
      rw [e] at hk; exact hk
    · have e : two n x y = false := by simp [two, c2]
      rw [e] at hk; exact hk
    · have c3 : x = y := c3
      have e : two n x y = false := by simp [two, c3]
      rw [e] at hk; exact hk
    · have c3 : ¬ x = y := c3
      have e : two n x y = true := by simp [two, c, c2, c3]
      rw [e] at hk; exact hk
theorem o_M40 {D : va_G} {cA : ClassId} {ad : Nat → Nat} {l : Launch} {R : Room} (hR : 1 + 1 ≤ R.frames ∧ 32 * (1 + 1) ≤ R.locals) : m_OK D cls cA 1 ad TB l "DegreeCoresModel" R 40 false (2 + 1) tM_areTwo :=
  m_okV (C := R_M) (Tu := T_M) (N := 13) rfl c_M_areTwo (by decide) tb_good w_M40 ⟨rfl, by decide +kernel, by decide +kernel, by decide +kernel⟩ (by decide) hR (by rintro as h k ⟨n, f, x, y, ⟨j, z, rfl, hj, hG⟩, rfl, hk⟩; exact ⟨0, _, _, rfl, rfl⟩)
def tM_count : mT := fun as h k => ∃ S, as = [.inl (nI S)] ∧ S < 4096 ∧ k (some (nI (pop S))) h
set_option maxHeartbeats 4000000 in
set_option maxRecDepth 20000 in
theorem c_M_count : m_Con cls 1 TB y_M_count b_M_count 3 (some .int) 0 0 tM_count := by
  refine m_con (code := k_M_count) (fld := f_M) (fpt := p_M) (kon := []) (call := []) (C := R_M) (T := T_M) (N := 13) (by decide) (Or.inl ⟨rfl, rfl⟩) ok_M_count tb_M (fun l D cA ad => m_calls ?_) ?_ ?_
  · exact fun _ h => absurd h List.not_mem_nil
  · rintro as h k ⟨S, rfl, hS, hk⟩
    exact Nat.le_of_ble_eq_true rfl
  · rintro as h k ⟨S, rfl, hS, hk⟩ V hV
    have loop : ∀ m v acc, v + m = 12 → acc = cn S.testBit v → V (4, [some (.inl (nI S)), some (.inl (nI acc)), some (.inl (nI v))], [], h) := by
      intro m
      induction m with
      | zero =>
        intro v acc hv hacc
        have e : v = 12 := by omega
        subst e
        refine hV 60 4 _ _ _ (br_ge (a := 12) (b := 12) (by omega) (by omega) (fun _ => ?_) (fun c => absurd c (by omega)))
        rw [hacc]
        exact hk
      | succ m ih =>
        intro v acc hv hacc
        refine hV 60 4 _ _ _ (br_ge (a := v) (b := 12) (by omega) (by omega) (fun c => absurd c (by omega)) (fun _ => nm_e (nm_r (nx_bit (by omega) (by omega)) (nm_r (nI_add _ _) (nm_r (nI_1 v) ?_)))))
        exact ih (v + 1) _ (by omega) (by rw [hacc]; rfl)
    exact hV 60 0 _ _ _ (loop 12 0 0 (by omega) rfl)
theorem o_M44 {D : va_G} {cA : ClassId} {ad : Nat → Nat} {l : Launch} {R : Room} (hR : 0 + 1 ≤ R.frames ∧ 32 * (0 + 1) ≤ R.locals) : m_OK D cls cA 1 ad TB l "DegreeCoresModel" R 44 true 1 tM_count :=
  m_okS c_M_count (by decide) tb_good w_M44 ⟨by decide +kernel, by decide +kernel, by decide +kernel⟩ (by decide) hR
def tM_all : mT := fun as h k => ∃ n f, hM h n f ∧ as = [.inr 0] ∧ k (some (nI (2 ^ n - 1))) h
set_option maxHeartbeats 4000000 in
set_option maxRecDepth 20000 in
theorem c_M_all : m_Con cls 1 TB y_M_all b_M_all 1 (some .int) 0 0 tM_all := by
  refine m_con (code := k_M_all) (fld := f_M) (fpt := p_M) (kon := []) (call := []) (C := R_M) (T := T_M) (N := 13) (by decide) (Or.inl ⟨rfl, rfl⟩) ok_M_all tb_M (fun l D cA ad => m_calls ?_) ?_ ?_
  · exact fun _ h => absurd h List.not_mem_nil
  · rintro as h k ⟨n, f, ⟨j, z, rfl, hj, hG⟩, rfl, hk⟩
    exact Nat.le_of_ble_eq_true rfl
  · rintro as h k ⟨n, f, ⟨j, z, rfl, hj, hG⟩, rfl, hk⟩ V hV
    have hn := hG.1
    exact hV 60 0 _ _ _ (nm_r (nx_shl n (by omega)) (nm_r (nx_all n hn) hk))
theorem o_M48 {D : va_G} {cA : ClassId} {ad : Nat → Nat} {l : Launch} {R : Room} (hR : 0 + 1 ≤ R.frames ∧ 32 * (0 + 1) ≤ R.locals) : m_OK D cls cA 1 ad TB l "DegreeCoresModel" R 48 false (0 + 1) tM_all :=
  m_okV (C := R_M) (Tu := T_M) (N := 13) rfl c_M_all (by decide) tb_good w_M48 ⟨rfl, by decide +kernel, by decide +kernel, by decide +kernel⟩ (by decide) hR (by rintro as h k ⟨n, f, ⟨j, z, rfl, hj, hG⟩, rfl, hk⟩; exact ⟨0, _, _, rfl, rfl⟩)
def zNew (z : mZ) : mZ := (z.1, 1, z.2.2)
def tM_node : mT := fun as h k => ∃ j n f z, h = mkM (nI n) j z ∧ (∀ v, v < n → j v = nI (f v)) ∧ Gr n f ∧ as = [.inr 0] ∧ (n = 12 → k (some (-4)) h) ∧ (n < 12 → k (some (nI n)) (mkM (nI (n + 1)) (upd j n 0) (zNew z)))
set_option maxHeartbeats 4000000 in
set_option maxRecDepth 20000 in
theorem c_M_node : m_Con cls 1 TB y_M_node b_M_node 1 (some .int) 0 0 tM_node := by
  refine m_con (code := k_M_node) (fld := f_M) (fpt := p_M) (kon := []) (call := []) (C := R_M) (T := T_M) (N := 13) (by decide) (Or.inl ⟨rfl, rfl⟩) ok_M_node tb_M (fun l D cA ad => m_calls ?_) ?_ ?_
  · exact fun _ h => absurd h List.not_mem_nil
  · rintro as h k ⟨j, n, f, z, rfl, hj, hG, rfl, hk1, hk2⟩
    exact Nat.le_of_ble_eq_true rfl
  · rintro as h k ⟨j, n, f, z, rfl, hj, hG, rfl, hk1, hk2⟩ V hV
    have hn := hG.1
    refine hV 60 0 _ _ _ (br_n (a := n) (b := 12) (by omega) (by omega) (fun c => ?_) (fun c => hk1 c))
    refine And.intro (vp_in_nI (by omega) (by omega)) (nm_r (nI_1 n) (And.intro (Or.inr rfl) (nm_r (nI_pred n) ?_)))
    have e : (nI n).toNatClampNeg = n := nI_clamp (by omega)
    show k (some (nI n)) (mkM (nI (n + 1)) (upd j (nI n).toNatClampNeg 0) (zNew z))
    rw [e]
    exact hk2 (by omega)
def tM_join : mT := fun as h k => ∃ j n f z x y b, h = mkM (nI n) j z ∧ (∀ v, v < n → j v = nI (f v)) ∧ Gr n f ∧ as = [.inr 0, .inl x, .inl y, .inl (b2i b)] ∧ (two n x y = false → k (some (-1)) h) ∧
  ∀ u v, u < n → v < n → u ≠ v → x = nI u → y = nI v → ((f u).testBit v = b → k (some 0) h) ∧ ((f u).testBit v ≠ b → k (some 1) (mkM (nI n) (upd (upd j u (nI (tg (f u) v))) v (nI (tg (f v) u))) (zNew z)))
def k2_M_join : List (Nat × mE) := [(0, .aload_n 0, 1, 0, 0, false), (1, .iload_n 1, 2, 0, 0, false), (2, .iload_n 2, 3, 0, 0, false), (3, .invokevirtual 40, 6, 0, 0, false), (6, .ifCond .ne 5, 9, 11, 0, false), (9, .iconst (-1), 10, 0, (-1), false), (10, .ireturn, 11, 0, 0, false), (11, .aload_n 0, 12, 0, 0, false), (12, .getfield 7, 15, 0, 0, false), (15, .iload_n 1, 16, 0, 0, false), (16, .iaload, 17, 0, 0, false), (17, .iload_n 2, 18, 0, 0, false), (18, .ishr, 19, 0, 0, false), (19, .iconst 1, 20, 0, 1, false), (20, .iand, 21, 0, 0, false), (21, .iconst 1, 22, 0, 1, false), (22, .if_icmp .ne 7, 25, 29, 0, false), (25, .iconst 1, 26, 0, 1, false), (26, .goto 4, 29, 30, 0, false), (29, .iconst 0, 30, 0, 0, false), (30, .istore 4, 32, 0, 0, false), (32, .iload 4, 34, 0, 0, true), (34, .iload_n 3, 35, 0, 0, false), (35, .if_icmp .ne 5, 38, 40, 0, false), (38, .iconst 0, 39, 0, 0, false), (39, .ireturn, 40, 0, 0, false), (40, .aload_n 0, 41, 0, 0, false), (41, .getfield 7, 44, 0, 0, false), (44, .iload_n 1, 45, 0, 0, false), (45, .dup2, 46, 0, 0, false), (46, .iaload, 47, 0, 0, false), (47, .iconst 1, 48, 0, 1, false), (48, .iload_n 2, 49, 0, 0, false), (49, .ishl, 50, 0, 0, false), (50, .ixor, 51, 0, 0, false), (51, .iastore, 52, 0, 0, false), (52, .aload_n 0, 53, 0, 0, false), (53, .getfield 7, 56, 0, 0, false), (56, .iload_n 2, 57, 0, 0, false), (57, .dup2, 58, 0, 0, false), (58, .iaload, 59, 0, 0, false), (59, .iconst 1, 60, 0, 1, false), (60, .iload_n 1, 61, 0, 0, false), (61, .ishl, 62, 0, 0, false), (62, .ixor, 63, 0, 0, false), (63, .iastore, 64, 0, 0, false), (64, .aload_n 0, 65, 0, 0, false), (65, .iconst 1, 66, 0, 1, false), (66, .putfield 16, 69, 0, 0, false), (69, .iconst 1, 70, 0, 1, false), (70, .ireturn, 71, 0, 0, false)]
theorem ok2_M_join : k2_M_join.all (m_ok b_M_join 5) = true := by decide +kernel
set_option maxHeartbeats 4000000 in
set_option maxRecDepth 20000 in
theorem c_M_join : m_Con cls 1 TB y_M_join b_M_join 5 (some .int) 0 2 tM_join := by
  refine m_con (code := k2_M_join) (fld := f_M) (fpt := p_M) (kon := []) (call := [(40, false, 3, tM_areTwo)]) (C := R_M) (T := T_M) (N := 13) (by decide) (Or.inl ⟨rfl, rfl⟩) ok2_M_join tb_M (fun l D cA ad => m_calls ?_) ?_ ?_
  · exact List.forall_mem_cons.mpr ⟨o_M40 ⟨Nat.le_of_ble_eq_true rfl, Nat.le_of_ble_eq_true rfl⟩, fun _ h => absurd h List.not_mem_nil⟩
  · rintro as h k ⟨j, n, f, z, x, y, b, rfl, hj, hG, rfl, hk1, hk2⟩
    exact Nat.le_of_ble_eq_true rfl
  · rintro as h k ⟨j, n, f, z, x, y, b, rfl, hj, hG, rfl, hk1, hk2⟩ V hV
    have hh : hM (mkM (nI n) j z) n f := ⟨j, z, rfl, hj, hG⟩
    have hn := hG.1
    refine hV 60 0 _ _ _ ⟨n, f, x, y, hh, rfl, br_ne (fun c => ?_) (fun c => hk1 c)⟩
    obtain ⟨u, v, hu, hv, huv, rfl, rfl⟩ := two_t hn c
    obtain ⟨h0, h1⟩ := hk2 u v hu hv huv rfl rfl
    have gu := g31 hG hu
    have gv := g31 hG hv
    have eu := clamp12 hu hn
    have ev := clamp12 hv hn
    have tail : V (32, [some (.inr 0), some (.inl (nI u)), some (.inl (nI v)), some (.inl (b2i b)), some (.inl (b2i ((f u).testBit v)))], [], mkM (nI n) j z) := by
      refine hV 60 32 _ _ _ (And.intro (fun c2 => ?_) (fun c2 => h0 (b2i_in c2)))
      have c2 : ¬ b2i ((f u).testBit v) = b2i b := c2
      have h1 := h1 (fun z => c2 (by rw [z]))
      refine And.intro (vp_in_nI (by omega) (by omega)) (nm_r (by rw [eu, hj u hu]) (nm_r (nx_shl v (by omega)) (nm_r (nx_xor _ _) (And.intro (vp_in_nI (by omega) (by omega)) ?_))))
      refine And.intro (vp_in_nI (by omega) (by omega)) (nm_r (e' := nI (f v)) (by rw [eu, ev, upd_n (fun z => huv z.symm), hj v hv]) (nm_r (nx_shl u (by omega)) (nm_r (nx_xor _ _) (And.intro (vp_in_nI (by omega) (by omega)) (And.intro (Or.inr rfl) ?_)))))
      show k (some 1) (mkM (nI n) (upd (upd j (nI u).toNatClampNeg (nI (f u ^^^ 2 ^ v))) (nI v).toNatClampNeg (nI (f v ^^^ 2 ^ u))) (zNew z))
      rw [eu, ev]
      exact h1
    refine And.intro (vp_in_nI (by omega) (by omega)) (nm_r (by rw [eu, hj u hu]) (nm_e (nm_r (nx_bit (by omega) (by omega)) (br_bn (fun c2 => ?_) (fun c2 => ?_)))))
    · rw [c2] at tail; exact tail
    · rw [c2] at tail; exact tail
def tM_joined : mT := fun as h k => ∃ n f x y, hM h n f ∧ as = [.inr 0, .inl x, .inl y] ∧ k (some (aJd n f x y)) h
set_option maxHeartbeats 4000000 in
set_option maxRecDepth 20000 in
theorem c_M_joined : m_Con cls 1 TB y_M_joined b_M_joined 3 (some .int) 0 2 tM_joined := by
  refine m_con (code := k_M_joined) (fld := f_M) (fpt := p_M) (kon := []) (call := [(40, false, 3, tM_areTwo)]) (C := R_M) (T := T_M) (N := 13) (by decide) (Or.inl ⟨rfl, rfl⟩) ok_M_joined tb_M (fun l D cA ad => m_calls ?_) ?_ ?_
  · exact List.forall_mem_cons.mpr ⟨o_M40 ⟨Nat.le_of_ble_eq_true rfl, Nat.le_of_ble_eq_true rfl⟩, fun _ h => absurd h List.not_mem_nil⟩
  · rintro as h k ⟨n, f, x, y, ⟨j, z, rfl, hj, hG⟩, rfl, hk⟩
    exact Nat.le_of_ble_eq_true rfl
  · rintro as h k ⟨n, f, x, y, ⟨j, z, rfl, hj, hG⟩, rfl, hk⟩ V hV
    have hh : hM (mkM (nI n) j z) n f := ⟨j, z, rfl, hj, hG⟩
    have hn := hG.1
    refine hV 60 0 _ _ _ ⟨n, f, x, y, hh, rfl, br_ne (fun c => ?_) (fun c => ?_)⟩
    · obtain ⟨u, v, hu, hv, huv, rfl, rfl⟩ := two_t hn c
      have gu := g31 hG hu
      rw [aJd, c, clamp12 hu hn, clamp12 hv hn] at hk
      exact And.intro (vp_in_nI (by omega) (by omega)) (nm_r (by rw [clamp12 hu hn, hj u hu]) (nm_e (nm_r ((nx_bit (by omega) (by omega)).trans (nI_bool _)) hk)))
    · rw [aJd, c] at hk; exact hk
def tM_clear : mT := fun as h k => ∃ j n f z, h = mkM (nI n) j z ∧ (∀ v, v < n → j v = nI (f v)) ∧ Gr n f ∧ as = [.inr 0] ∧ k (some (nI n)) (mkM (nI 0) j (zNew z))
set_option maxHeartbeats 4000000 in
set_option maxRecDepth 20000 in
theorem c_M_clear : m_Con cls 1 TB y_M_clear b_M_clear 2 (some .int) 0 0 tM_clear := by
  refine m_con (code := k_M_clear) (fld := f_M) (fpt := p_M) (kon := []) (call := []) (C := R_M) (T := T_M) (N := 13) (by decide) (Or.inl ⟨rfl, rfl⟩) ok_M_clear tb_M (fun l D cA ad => m_calls ?_) ?_ ?_
  · exact fun _ h => absurd h List.not_mem_nil
  · rintro as h k ⟨j, n, f, z, rfl, hj, hG, rfl, hk⟩
    exact Nat.le_of_ble_eq_true rfl
  · rintro as h k ⟨j, n, f, z, rfl, hj, hG, rfl, hk⟩ V hV
    exact hV 60 0 _ _ _ (And.intro (Or.inr rfl) hk)
def tM_degree : mT := fun as h k => ∃ n f x, hM h n f ∧ as = [.inr 0, .inl x] ∧ k (some (aDeg n f x)) h
set_option maxHeartbeats 4000000 in
set_option maxRecDepth 20000 in
theorem c_M_degree : m_Con cls 1 TB y_M_degree b_M_degree 2 (some .int) 0 1 tM_degree := by
  refine m_con (code := k_M_degree) (fld := f_M) (fpt := p_M) (kon := []) (call := [(36, false, 2, tM_isNode), (44, true, 1, tM_count)]) (C := R_M) (T := T_M) (N := 13) (by decide) (Or.inl ⟨rfl, rfl⟩) ok_M_degree tb_M (fun l D cA ad => m_calls ?_) ?_ ?_
  · exact List.forall_mem_cons.mpr ⟨o_M36 ⟨Nat.le_of_ble_eq_true rfl, Nat.le_of_ble_eq_true rfl⟩, List.forall_mem_cons.mpr ⟨o_M44 ⟨Nat.le_of_ble_eq_true rfl, Nat.le_of_ble_eq_true rfl⟩, fun _ h => absurd h List.not_mem_nil⟩⟩
  · rintro as h k ⟨n, f, x, ⟨j, z, rfl, hj, hG⟩, rfl, hk⟩
    exact Nat.le_of_ble_eq_true rfl
  · rintro as h k ⟨n, f, x, ⟨j, z, rfl, hj, hG⟩, rfl, hk⟩ V hV
    have hh : hM (mkM (nI n) j z) n f := ⟨j, z, rfl, hj, hG⟩
    have hn := hG.1
    refine hV 60 0 _ _ _ ⟨n, f, x, hh, rfl, br_eq (fun c => ?_) (fun c => ?_)⟩
    · rw [aDeg, c] at hk; exact hk
    · obtain ⟨v, hv, rfl⟩ := isN_t hn c
      rw [aDeg, c, clamp12 hv hn] at hk
      exact And.intro (vp_in_nI (by omega) (by omega)) (nm_r (by rw [clamp12 hv hn, hj v hv]) ⟨_, rfl, g31 hG hv, hk⟩)
def tM_coreOf : mT := fun as h k => ∃ n f K, hM h n f ∧ as = [.inr 0, .inl (nI K)] ∧ K < 2 ^ 31 ∧ k (some (nI (coreC n f K n))) h
set_option maxHeartbeats 4000000 in
set_option maxRecDepth 20000 in
theorem c_M_coreOf : m_Con cls 1 TB y_M_coreOf b_M_coreOf 5 (some .int) 0 1 tM_coreOf := by
  refine m_con (code := k_M_coreOf) (fld := f_M) (fpt := p_M) (kon := []) (call := [(48, false, 1, tM_all), (44, true, 1, tM_count)]) (C := R_M) (T := T_M) (N := 13) (by decide) (Or.inl ⟨rfl, rfl⟩) ok_M_coreOf tb_M (fun l D cA ad => m_calls ?_) ?_ ?_
  · exact List.forall_mem_cons.mpr ⟨o_M48 ⟨Nat.le_of_ble_eq_true rfl, Nat.le_of_ble_eq_true rfl⟩, List.forall_mem_cons.mpr ⟨o_M44 ⟨Nat.le_of_ble_eq_true rfl, Nat.le_of_ble_eq_true rfl⟩, fun _ h => absurd h List.not_mem_nil⟩⟩
  · rintro as h k ⟨n, f, K, ⟨j, z, rfl, hj, hG⟩, rfl, hK, hk⟩
    exact Nat.le_of_ble_eq_true rfl
  · rintro as h k ⟨n, f, K, ⟨j, z, rfl, hj, hG⟩, rfl, hK, hk⟩ V hV
    have hh : hM (mkM (nI n) j z) n f := ⟨j, z, rfl, hj, hG⟩
    have hn := hG.1
    have h12 := p12 hn
    have fin : ∀ S (y : Option mV), S < 2 ^ n → cld n f K S → (∀ X, X < 2 ^ n → cld n f K X → sub X S) → V (7, [some (.inr 0), some (.inl (nI K)), some (.inl (nI S)), some (.inl (b2i false)), y], [], mkM (nI n) j z) := by
      intro S y hS hc ht
      refine hV 60 7 _ _ _ (br_eq (b := false) (fun _ => ?_) (fun c => by cases c))
      rw [core_one ⟨hS, hc, ht⟩ (coreC_is hG K)]
      exact hk
    have outer : ∀ p S (y : Option mV), pop S < p → S < 2 ^ n → (∀ X, X < 2 ^ n → cld n f K X → sub X S) → V (7, [some (.inr 0), some (.inl (nI K)), some (.inl (nI S)), some (.inl (b2i true)), y], [], mkM (nI n) j z) := by
      intro p
      induction p with
      | zero => intro S y hp; omega
      | succ p ih =>
        intro S0 y hp hS0 ht0
        have inner : ∀ m v S mo, v + m = n → S < 2 ^ n → (∀ X, X < 2 ^ n → cld n f K X → sub X S) → (mo = false → ∀ u, u < v → S.testBit u = true → K ≤ dg f S u) → (mo = true → pop S < p) → (mo = false → pop S ≤ p) → V (16, [some (.inr 0), some (.inl (nI K)), some (.inl (nI S)), some (.inl (b2i mo)), some (.inl (nI v))], [], mkM (nI n) j z) := by
          intro m
          induction m with
          | zero =>
            intro v S mo hv hS ht h1 h2 h3
            have e : v = n := by omega
            subst e
            refine hV 60 16 _ _ _ (br_ge (a := v) (b := v) (by omega) (by omega) (fun _ => ?_) (fun c => absurd c (by omega)))
            cases mo with
            | false => exact fin S _ hS (h1 rfl) ht
            | true => exact ih S _ (h2 rfl) hS ht
          | succ m ih2 =>
            intro v S mo hv hS ht h1 h2 h3
            have hd := dg_le hG (S := S) (v := v) (by omega)
            refine hV 60 16 _ _ _ (br_ge (a := v) (b := n) (by omega) (by omega) (fun c => absurd c (by omega)) (fun _ => nm_e (nm_r (nx_bit (by omega) (by omega)) (br_bn (fun c => nm_r (nI_1 v) ?_) (fun c => And.intro (vp_in_nI (by omega) (by omega)) (nm_r (by rw [clamp12 (v := v) (n := n) (by omega) hn, hj v (by omega)]) (nm_r (nx_and _ _) ⟨_, rfl, Nat.lt_of_le_of_lt Nat.and_le_left (g31 hG (by omega)), br_ge (a := dg f S v) (b := K) (by omega) hK (fun c2 => nm_r (nI_1 v) ?_) (fun c2 => nm_r (nx_shl v (by omega)) (nm_e (nm_r (nx_sd _ _) (nm_r (nI_1 v) ?_))))⟩)))))))
            · exact ih2 (v + 1) S mo (by omega) hS ht (fun e u hu hb => by
                by_cases huv : u = v
                · rw [huv, c] at hb; cases hb
                · exact h1 e u (by omega) hb) h2 h3
            · exact ih2 (v + 1) S mo (by omega) hS ht (fun e u hu hb => by
                by_cases huv : u = v
                · rw [huv]; exact c2
                · exact h1 e u (by omega) hb) h2 h3
            · have hr := pop_rm hS hn c
              refine ih2 (v + 1) _ true (by omega) (sd_lt hS) (fun X hX hc i hi => ?_) (fun e => by cases e) (fun _ => ?_) (fun e => by cases e)
              · rw [tb_sd, tb_pow, ht X hX hc i hi]
                by_cases hiv : v = i
                · subst hiv
                  have := cld_keep hG hc (ht X hX hc) (by omega) hi
                  omega
                · simp [hiv]
              · cases mo with
                | true => have := h2 rfl; omega
                | false => have := h3 rfl; omega
        refine hV 60 7 _ _ _ (br_eq (b := true) (fun c => by cases c) (fun _ => ?_))
        exact inner n 0 S0 false (by omega) hS0 ht0 (fun _ u hu => by omega) (fun e => by cases e) (fun _ => by omega)
    exact hV 60 0 _ _ _ ⟨n, f, hh, rfl, outer (pop (2 ^ n - 1) + 1) _ none (by omega) (pw_pos n) (fun X hX hc i hi => by rw [tb_all]; simp; exact tb_of_lt hX hi)⟩
theorem o_M52 {D : va_G} {cA : ClassId} {ad : Nat → Nat} {l : Launch} {R : Room} (hR : 1 + 1 ≤ R.frames ∧ 32 * (1 + 1) ≤ R.locals) : m_OK D cls cA 1 ad TB l "DegreeCoresModel" R 52 false (1 + 1) tM_coreOf :=
  m_okV (C := R_M) (Tu := T_M) (N := 13) rfl c_M_coreOf (by decide) tb_good w_M52 ⟨rfl, by decide +kernel, by decide +kernel, by decide +kernel⟩ (by decide) hR (by rintro as h k ⟨n, f, K, ⟨j, z, rfl, hj, hG⟩, rfl, hK, hk⟩; exact ⟨0, _, _, rfl, rfl⟩)
def tM_core : mT := fun as h k => ∃ n f x, hM h n f ∧ as = [.inr 0, .inl x] ∧ ∀ r, aCore n f x r → k (some r) h
set_option maxHeartbeats 4000000 in
set_option maxRecDepth 20000 in
theorem c_M_core : m_Con cls 1 TB y_M_core b_M_core 3 (some .int) 0 2 tM_core := by
  refine m_con (code := k_M_core) (fld := f_M) (fpt := p_M) (kon := []) (call := [(36, false, 2, tM_isNode), (52, false, 2, tM_coreOf)]) (C := R_M) (T := T_M) (N := 13) (by decide) (Or.inl ⟨rfl, rfl⟩) ok_M_core tb_M (fun l D cA ad => m_calls ?_) ?_ ?_
  · exact List.forall_mem_cons.mpr ⟨o_M36 ⟨Nat.le_of_ble_eq_true rfl, Nat.le_of_ble_eq_true rfl⟩, List.forall_mem_cons.mpr ⟨o_M52 ⟨Nat.le_of_ble_eq_true rfl, Nat.le_of_ble_eq_true rfl⟩, fun _ h => absurd h List.not_mem_nil⟩⟩
  · rintro as h k ⟨n, f, x, ⟨j, z, rfl, hj, hG⟩, rfl, hk⟩
    exact Nat.le_of_ble_eq_true rfl
  · rintro as h k ⟨n, f, x, ⟨j, z, rfl, hj, hG⟩, rfl, hk⟩ V hV
    have hh : hM (mkM (nI n) j z) n f := ⟨j, z, rfl, hj, hG⟩
    have hn := hG.1
    have h12 := p12 hn
    refine hV 60 0 _ _ _ ⟨n, f, x, hh, rfl, br_ne (fun c => ?_) (fun c => hk _ (Or.inl ⟨c, rfl⟩))⟩
    obtain ⟨v, hv, rfl⟩ := isN_t hn c
    have loop : ∀ m c, c + m = n → (c = 0 ∨ (coreC n f c n).testBit v = true) → V (12, [some (.inr 0), some (.inl (nI v)), some (.inl (nI c))], [], mkM (nI n) j z) := by
      intro m
      induction m with
      | zero =>
        intro c hc h1
        have hlt := coreC_lt (n := n) (f := f) (c + 1) n
        refine hV 60 12 _ _ _ (nm_r (nI_1 c) ⟨n, f, c + 1, hh, rfl, by omega, nm_e (nm_r (nx_bit (by omega) (by omega)) (br_bn (fun c2 => ?_) (fun c2 => ?_)))⟩)
        · exact hk _ (Or.inr ⟨v, c, hv, rfl, ⟨h1, c2⟩, rfl⟩)
        · rw [core_big hG (by omega) hv] at c2; cases c2
      | succ m ih =>
        intro c hc h1
        have hlt := coreC_lt (n := n) (f := f) (c + 1) n
        refine hV 60 12 _ _ _ (nm_r (nI_1 c) ⟨n, f, c + 1, hh, rfl, by omega, nm_e (nm_r (nx_bit (by omega) (by omega)) (br_bn (fun c2 => ?_) (fun c2 => nm_r (nI_1 c) ?_)))⟩)
        · exact hk _ (Or.inr ⟨v, c, hv, rfl, ⟨h1, c2⟩, rfl⟩)
        · exact ih (c + 1) (by omega) (Or.inr c2)
    exact loop n 0 (by omega) (Or.inl rfl)
def tM_coreSet : mT := fun as h k => ∃ n f x, hM h n f ∧ as = [.inr 0, .inl x] ∧ k (some (aCSet n f x)) h
set_option maxHeartbeats 4000000 in
set_option maxRecDepth 20000 in
theorem c_M_coreSet : m_Con cls 1 TB y_M_coreSet b_M_coreSet 2 (some .int) 0 2 tM_coreSet := by
  refine m_con (code := k_M_coreSet) (fld := f_M) (fpt := p_M) (kon := []) (call := [(52, false, 2, tM_coreOf)]) (C := R_M) (T := T_M) (N := 13) (by decide) (Or.inl ⟨rfl, rfl⟩) ok_M_coreSet tb_M (fun l D cA ad => m_calls ?_) ?_ ?_
  · exact List.forall_mem_cons.mpr ⟨o_M52 ⟨Nat.le_of_ble_eq_true rfl, Nat.le_of_ble_eq_true rfl⟩, fun _ h => absurd h List.not_mem_nil⟩
  · rintro as h k ⟨n, f, x, ⟨j, z, rfl, hj, hG⟩, rfl, hk⟩
    exact Nat.le_of_ble_eq_true rfl
  · rintro as h k ⟨n, f, x, ⟨j, z, rfl, hj, hG⟩, rfl, hk⟩ V hV
    have hh : hM (mkM (nI n) j z) n f := ⟨j, z, rfl, hj, hG⟩
    refine hV 60 0 _ _ _ (And.intro (fun c => ?_) (fun c => ?_))
    · have c : 0 ≤ x := c
      obtain ⟨K, hK, rfl⟩ := nI_of (Int32.not_lt.mpr c)
      rw [aCSet, if_neg (Int32.not_lt.mpr c), nI_clamp hK] at hk
      exact ⟨n, f, K, hh, rfl, hK, hk⟩
    · have c : ¬ 0 ≤ x := c
      rw [aCSet, if_pos (Int32.not_le.mp c)] at hk
      exact hk
