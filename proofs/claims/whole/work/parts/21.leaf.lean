/-! leaves of the object's methods -/
def t_bitCount : mT := fun as h k => ∃ x, as = [.inl x] ∧ k (some (bcI x)) h
set_option maxHeartbeats 4000000 in
set_option maxRecDepth 20000 in
theorem c_bitCount : m_Con cls 0 TB y_J_bitCount b_J_bitCount 1 (some .int) 0 0 t_bitCount := by
  refine m_con (code := k_J_bitCount) (fld := []) (fpt := []) (kon := kn_J) (call := []) (C := R_C) (T := T_C) (N := 7) (by decide) (Or.inl ⟨rfl, rfl⟩) ok_J_bitCount (tb_J _ rfl) (fun l D cA ad => m_calls ?_) ?_ ?_
  · exact fun _ h => absurd h List.not_mem_nil
  · rintro as h k ⟨x, rfl, hk⟩
    exact Nat.le_of_ble_eq_true rfl
  · rintro as h k ⟨x, rfl, hk⟩ V hV
    refine hV 60 0 _ _ _ ?_
    repeat (refine nm_e ?_)
    exact hk
theorem o_C43 {D : va_G} {cA : ClassId} {ad : Nat → Nat} {l : Launch} {R : Room} (hR : 0 + 1 ≤ R.frames ∧ 32 * (0 + 1) ≤ R.locals) : m_OK D cls cA 0 ad TB l "DegreeCores" R 43 true 1 t_bitCount :=
  m_okS c_bitCount (by decide) tb_good w_C43 ⟨by decide +kernel, by decide +kernel, by decide +kernel⟩ (by decide) hR
def tC_has : mT := fun as h k => ∃ S v, as = [.inl (nI S), .inl (nI v)] ∧ S < 2 ^ 31 ∧ v < 31 ∧ k (some (b2i (S.testBit v))) h
set_option maxHeartbeats 4000000 in
set_option maxRecDepth 20000 in
theorem c_C_has : m_Con cls 0 TB y_C_has b_C_has 2 (some .boolean) 1 0 tC_has := by
  refine m_con (code := k_C_has) (fld := f_C) (fpt := p_C) (kon := []) (call := []) (C := R_C) (T := T_C) (N := 7) (by decide) (Or.inr (Or.inl ⟨rfl, rfl⟩)) ok_C_has tb_C (fun l D cA ad => m_calls ?_) ?_ ?_
  · exact fun _ h => absurd h List.not_mem_nil
  · rintro as h k ⟨S, v, rfl, hS, hv, hk⟩
    exact Nat.le_of_ble_eq_true rfl
  · rintro as h k ⟨S, v, rfl, hS, hv, hk⟩ V hV
    refine hV 60 0 _ _ _ (nm_e (nm_r (nx_bit hS (by omega)) ?_))
    cases hb : S.testBit v with
    | true =>
      rw [hb] at hk
      exact And.intro (fun c => absurd rfl c) (fun _ => And.intro (Or.inr rfl) hk)
    | false =>
      rw [hb] at hk
      exact And.intro (fun _ => And.intro (Or.inl rfl) hk) (fun c => absurd c (by decide))
theorem o_C36 {D : va_G} {cA : ClassId} {ad : Nat → Nat} {l : Launch} {R : Room} (hR : 0 + 1 ≤ R.frames ∧ 32 * (0 + 1) ≤ R.locals) : m_OK D cls cA 0 ad TB l "DegreeCores" R 36 true 2 tC_has :=
  m_okS c_C_has (by decide) tb_good w_C36 ⟨by decide +kernel, by decide +kernel, by decide +kernel⟩ (by decide) hR
def tC_leastOf : mT := fun as h k => ∃ S, as = [.inl (nI S)] ∧ S < 4096 ∧ S ≠ 0 ∧ k (some (nI (lsb S))) h
set_option maxHeartbeats 4000000 in
set_option maxRecDepth 20000 in
theorem c_C_leastOf : m_Con cls 0 TB y_C_leastOf b_C_leastOf 1 (some .int) 0 1 tC_leastOf := by
  refine m_con (code := k_C_leastOf) (fld := f_C) (fpt := p_C) (kon := []) (call := [(43, true, 1, t_bitCount)]) (C := R_C) (T := T_C) (N := 7) (by decide) (Or.inl ⟨rfl, rfl⟩) ok_C_leastOf tb_C (fun l D cA ad => m_calls ?_) ?_ ?_
  · exact List.forall_mem_cons.mpr ⟨o_C43 ⟨Nat.le_of_ble_eq_true rfl, Nat.le_of_ble_eq_true rfl⟩, fun _ h => absurd h List.not_mem_nil⟩
  · rintro as h k ⟨S, rfl, hS, h0, hk⟩
    exact Nat.le_of_ble_eq_true rfl
  · rintro as h k ⟨S, rfl, hS, h0, hk⟩ V hV
    refine hV 60 0 _ _ _ (nm_e (nm_e (nm_e ?_)))
    refine ⟨_, rfl, ?_⟩
    show k (some (bcI ((nI S &&& -(nI S)) - 1))) h
    rw [bc_l hS h0]
    exact hk
theorem o_C66 {D : va_G} {cA : ClassId} {ad : Nat → Nat} {l : Launch} {R : Room} (hR : 1 + 1 ≤ R.frames ∧ 32 * (1 + 1) ≤ R.locals) : m_OK D cls cA 0 ad TB l "DegreeCores" R 66 true 1 tC_leastOf :=
  m_okS c_C_leastOf (by decide) tb_good w_C66 ⟨by decide +kernel, by decide +kernel, by decide +kernel⟩ (by decide) hR
def tC_isNode : mT := fun as h k => ∃ n f x, hC h n f ∧ as = [.inr 0, .inl x] ∧ k (some (b2i (isN n x))) h
set_option maxHeartbeats 4000000 in
set_option maxRecDepth 20000 in
theorem c_C_isNode : m_Con cls 0 TB y_C_isNode b_C_isNode 2 (some .boolean) 1 0 tC_isNode := by
  refine m_con (code := k_C_isNode) (fld := f_C) (fpt := p_C) (kon := []) (call := []) (C := R_C) (T := T_C) (N := 7) (by decide) (Or.inr (Or.inl ⟨rfl, rfl⟩)) ok_C_isNode tb_C (fun l D cA ad => m_calls ?_) ?_ ?_
  · exact fun _ h => absurd h List.not_mem_nil
  · rintro as h k ⟨n, f, x, ⟨j, r, q, t, d, w, rfl, hj, hG⟩, rfl, hk⟩
    exact Nat.le_of_ble_eq_true rfl
  · rintro as h k ⟨n, f, x, ⟨j, r, q, t, d, w, rfl, hj, hG⟩, rfl, hk⟩ V hV
    refine hV 60 0 _ _ _ (And.intro (fun c => And.intro (Or.inl rfl) ?_) (fun c => And.intro (fun c2 => And.intro (Or.inl rfl) ?_) (fun c2 => And.intro (Or.inr rfl) ?_)))
    · have e : isN n x = false := decide_eq_false (fun z => absurd c (Int32.not_lt.mpr z.1))
      rw [e] at hk; exact hk
    · have e : isN n x = false := decide_eq_false (fun z => absurd z.2 (Int32.not_lt.mpr c2))
      rw [e] at hk; exact hk
    · have e : isN n x = true := decide_eq_true ⟨Int32.not_lt.mp c, Int32.not_le.mp c2⟩
      rw [e] at hk; exact hk
theorem o_C39 {D : va_G} {cA : ClassId} {ad : Nat → Nat} {l : Launch} {R : Room} (hR : 0 + 1 ≤ R.frames ∧ 32 * (0 + 1) ≤ R.locals) : m_OK D cls cA 0 ad TB l "DegreeCores" R 39 false (1 + 1) tC_isNode :=
  m_okV (C := R_C) (Tu := T_C) (N := 7) rfl c_C_isNode (by decide) tb_good w_C39 ⟨rfl, by decide +kernel, by decide +kernel, by decide +kernel⟩ (by decide) hR (by rintro as h k ⟨n, f, x, ⟨j, r, q, t, d, w, rfl, hj, hG⟩, rfl, hk⟩; exact ⟨0, _, _, rfl, rfl⟩)
def two (n : Nat) (x y : Int32) : Bool := isN n x && isN n y && !decide (x = y)
theorem two_t {n : Nat} {x y : Int32} (hn : n ≤ 12) (h : two n x y = true) : ∃ u v, u < n ∧ v < n ∧ u ≠ v ∧ x = nI u ∧ y = nI v := by
  simp only [two, Bool.and_eq_true, Bool.not_eq_true', decide_eq_false_iff_not] at h
  obtain ⟨u, hu, rfl⟩ := isN_t hn h.1.1
  obtain ⟨v, hv, rfl⟩ := isN_t hn h.1.2
  exact ⟨u, v, hu, hv, fun z => h.2 (by rw [z]), rfl, rfl⟩
def tC_areTwoNodes : mT := fun as h k => ∃ n f x y, hC h n f ∧ as = [.inr 0, .inl x, .inl y] ∧ k (some (b2i (two n x y))) h
set_option maxHeartbeats 4000000 in
set_option maxRecDepth 20000 in
theorem c_C_areTwoNodes : m_Con cls 0 TB y_C_areTwoNodes b_C_areTwoNodes 3 (some .boolean) 1 1 tC_areTwoNodes := by
  refine m_con (code := k_C_areTwoNodes) (fld := f_C) (fpt := p_C) (kon := []) (call := [(39, false, 2, tC_isNode)]) (C := R_C) (T := T_C) (N := 7) (by decide) (Or.inr (Or.inl ⟨rfl, rfl⟩)) ok_C_areTwoNodes tb_C (fun l D cA ad => m_calls ?_) ?_ ?_
  · exact List.forall_mem_cons.mpr ⟨o_C39 ⟨Nat.le_of_ble_eq_true rfl, Nat.le_of_ble_eq_true rfl⟩, fun _ h => absurd h List.not_mem_nil⟩
  · rintro as h k ⟨n, f, x, y, ⟨j, r, q, t, d, w, rfl, hj, hG⟩, rfl, hk⟩
    exact Nat.le_of_ble_eq_true rfl
  · rintro as h k ⟨n, f, x, y, ⟨j, r, q, t, d, w, rfl, hj, hG⟩, rfl, hk⟩ V hV
    have hh : hC (mkC j (nI n) r q t d w) n f := ⟨j, r, q, t, d, w, rfl, hj, hG⟩
    refine hV 60 0 _ _ _ ⟨n, f, x, hh, rfl, br_eq (fun c => And.intro (Or.inl rfl) ?_) (fun c => ⟨n, f, y, hh, rfl, br_eq (fun c2 => And.intro (Or.inl rfl) ?_) (fun c2 => And.intro (fun c3 => And.intro (Or.inl rfl) ?_) (fun c3 => And.intro (Or.inr rfl) ?_))⟩)⟩
    · have e : two n x y = false := by simp [two, c]
      rw [e] at hk; exact hk
    · have e : two n x y = false := by simp [two, c2]
      rw [e] at hk; exact hk
    · have c3 : x = y := c3
      have e : two n x y = false := by simp [two, c3]
      rw [e] at hk; exact hk
    · have c3 : ¬ x = y := c3
      have e : two n x y = true := by simp [two, c, c2, c3]
      rw [e] at hk; exact hk
theorem o_C32 {D : va_G} {cA : ClassId} {ad : Nat → Nat} {l : Launch} {R : Room} (hR : 1 + 1 ≤ R.frames ∧ 32 * (1 + 1) ≤ R.locals) : m_OK D cls cA 0 ad TB l "DegreeCores" R 32 false (2 + 1) tC_areTwoNodes :=
  m_okV (C := R_C) (Tu := T_C) (N := 7) rfl c_C_areTwoNodes (by decide) tb_good w_C32 ⟨rfl, by decide +kernel, by decide +kernel, by decide +kernel⟩ (by decide) hR (by rintro as h k ⟨n, f, x, y, ⟨j, r, q, t, d, w, rfl, hj, hG⟩, rfl, hk⟩; exact ⟨0, _, _, rfl, rfl⟩)
/-- the places of x and y, where they are nodes -/
def edg (n : Nat) (f : Nat → Nat) (x y : Int32) : Bool := two n x y && (f x.toNatClampNeg).testBit y.toNatClampNeg
theorem clamp12 {v n : Nat} (hv : v < n) (hn : n ≤ 12) : (nI v).toNatClampNeg = v := nI_clamp (by omega)
theorem g31 {n : Nat} {f : Nat → Nat} (hG : Gr n f) {v : Nat} (hv : v < n) : f v < 4096 := Nat.lt_of_lt_of_le (hG.2.1 v hv) (p12 hG.1)
def tC_isEdge : mT := fun as h k => ∃ n f x y, hC h n f ∧ as = [.inr 0, .inl x, .inl y] ∧ k (some (b2i (edg n f x y))) h
set_option maxHeartbeats 4000000 in
set_option maxRecDepth 20000 in
theorem c_C_isEdge : m_Con cls 0 TB y_C_isEdge b_C_isEdge 3 (some .boolean) 1 2 tC_isEdge := by
  refine m_con (code := k_C_isEdge) (fld := f_C) (fpt := p_C) (kon := []) (call := [(32, false, 3, tC_areTwoNodes), (36, true, 2, tC_has)]) (C := R_C) (T := T_C) (N := 7) (by decide) (Or.inr (Or.inl ⟨rfl, rfl⟩)) ok_C_isEdge tb_C (fun l D cA ad => m_calls ?_) ?_ ?_
  · exact List.forall_mem_cons.mpr ⟨o_C32 ⟨Nat.le_of_ble_eq_true rfl, Nat.le_of_ble_eq_true rfl⟩, List.forall_mem_cons.mpr ⟨o_C36 ⟨Nat.le_of_ble_eq_true rfl, Nat.le_of_ble_eq_true rfl⟩, fun _ h => absurd h List.not_mem_nil⟩⟩
  · rintro as h k ⟨n, f, x, y, ⟨j, r, q, t, d, w, rfl, hj, hG⟩, rfl, hk⟩
    exact Nat.le_of_ble_eq_true rfl
  · rintro as h k ⟨n, f, x, y, ⟨j, r, q, t, d, w, rfl, hj, hG⟩, rfl, hk⟩ V hV
    have hh : hC (mkC j (nI n) r q t d w) n f := ⟨j, r, q, t, d, w, rfl, hj, hG⟩
    refine hV 60 0 _ _ _ ⟨n, f, x, y, hh, rfl, br_eq (fun c => And.intro (Or.inl rfl) ?_) (fun c => ?_)⟩
    · have e : edg n f x y = false := by simp [edg, c]
      rw [e] at hk; exact hk
    · obtain ⟨u, v, hu, hv, huv, rfl, rfl⟩ := two_t hG.1 c
      have hn := hG.1
      have eq : edg n f (nI u) (nI v) = (f u).testBit v := by simp [edg, c, clamp12 hu hn, clamp12 hv hn]
      rw [eq] at hk
      have g := g31 hG hu
      refine And.intro (vp_in_nI (by omega) (by omega)) (nm_r (by rw [clamp12 hu hn, hj u hu]) ⟨f u, v, rfl, by omega, by omega, br_eq (fun c2 => And.intro (Or.inl rfl) ?_) (fun c2 => And.intro (Or.inr rfl) ?_)⟩)
      · rw [c2] at hk; exact hk
      · rw [c2] at hk; exact hk
theorem o_C88 {D : va_G} {cA : ClassId} {ad : Nat → Nat} {l : Launch} {R : Room} (hR : 2 + 1 ≤ R.frames ∧ 32 * (2 + 1) ≤ R.locals) : m_OK D cls cA 0 ad TB l "DegreeCores" R 88 false (2 + 1) tC_isEdge :=
  m_okV (C := R_C) (Tu := T_C) (N := 7) rfl c_C_isEdge (by decide) tb_good w_C88 ⟨rfl, by decide +kernel, by decide +kernel, by decide +kernel⟩ (by decide) hR (by rintro as h k ⟨n, f, x, y, ⟨j, r, q, t, d, w, rfl, hj, hG⟩, rfl, hk⟩; exact ⟨0, _, _, rfl, rfl⟩)
def tC_allNodes : mT := fun as h k => ∃ n f, hC h n f ∧ as = [.inr 0] ∧ k (some (nI (2 ^ n - 1))) h
theorem nx_all : ∀ n, n ≤ 12 → nI (2 ^ n) - 1 = nI (2 ^ n - 1) := by decide +kernel
set_option maxHeartbeats 4000000 in
set_option maxRecDepth 20000 in
theorem c_C_allNodes : m_Con cls 0 TB y_C_allNodes b_C_allNodes 1 (some .int) 0 0 tC_allNodes := by
  refine m_con (code := k_C_allNodes) (fld := f_C) (fpt := p_C) (kon := []) (call := []) (C := R_C) (T := T_C) (N := 7) (by decide) (Or.inl ⟨rfl, rfl⟩) ok_C_allNodes tb_C (fun l D cA ad => m_calls ?_) ?_ ?_
  · exact fun _ h => absurd h List.not_mem_nil
  · rintro as h k ⟨n, f, ⟨j, r, q, t, d, w, rfl, hj, hG⟩, rfl, hk⟩
    exact Nat.le_of_ble_eq_true rfl
  · rintro as h k ⟨n, f, ⟨j, r, q, t, d, w, rfl, hj, hG⟩, rfl, hk⟩ V hV
    have hn := hG.1
    exact hV 60 0 _ _ _ (nm_r (nx_shl n (by omega)) (nm_r (nx_all n hn) hk))
theorem o_C56 {D : va_G} {cA : ClassId} {ad : Nat → Nat} {l : Launch} {R : Room} (hR : 0 + 1 ≤ R.frames ∧ 32 * (0 + 1) ≤ R.locals) : m_OK D cls cA 0 ad TB l "DegreeCores" R 56 false (0 + 1) tC_allNodes :=
  m_okV (C := R_C) (Tu := T_C) (N := 7) rfl c_C_allNodes (by decide) tb_good w_C56 ⟨rfl, by decide +kernel, by decide +kernel, by decide +kernel⟩ (by decide) hR (by rintro as h k ⟨n, f, ⟨j, r, q, t, d, w, rfl, hj, hG⟩, rfl, hk⟩; exact ⟨0, _, _, rfl, rfl⟩)
def tC_degreeWithin : mT := fun as h k => ∃ n f S v, hC h n f ∧ as = [.inr 0, .inl (nI S), .inl (nI v)] ∧ v < n ∧ k (some (nI (dg f S v))) h
set_option maxHeartbeats 4000000 in
set_option maxRecDepth 20000 in
theorem c_C_degreeWithin : m_Con cls 0 TB y_C_degreeWithin b_C_degreeWithin 3 (some .int) 0 1 tC_degreeWithin := by
  refine m_con (code := k_C_degreeWithin) (fld := f_C) (fpt := p_C) (kon := []) (call := [(43, true, 1, t_bitCount)]) (C := R_C) (T := T_C) (N := 7) (by decide) (Or.inl ⟨rfl, rfl⟩) ok_C_degreeWithin tb_C (fun l D cA ad => m_calls ?_) ?_ ?_
  · exact List.forall_mem_cons.mpr ⟨o_C43 ⟨Nat.le_of_ble_eq_true rfl, Nat.le_of_ble_eq_true rfl⟩, fun _ h => absurd h List.not_mem_nil⟩
  · rintro as h k ⟨n, f, S, v, ⟨j, r, q, t, d, w, rfl, hj, hG⟩, rfl, hv, hk⟩
    exact Nat.le_of_ble_eq_true rfl
  · rintro as h k ⟨n, f, S, v, ⟨j, r, q, t, d, w, rfl, hj, hG⟩, rfl, hv, hk⟩ V hV
    have hn := hG.1
    refine hV 60 0 _ _ _ (And.intro (vp_in_nI (by omega) (by omega)) (nm_r (by rw [clamp12 hv hn, hj v hv]) (nm_r (nx_and (f v) S) ⟨_, rfl, ?_⟩)))
    show k (some (bcI (nI (f v &&& S)))) _
    rw [bc_n (Nat.lt_of_le_of_lt Nat.and_le_left (g31 hG hv))]
    exact hk
theorem o_C49 {D : va_G} {cA : ClassId} {ad : Nat → Nat} {l : Launch} {R : Room} (hR : 1 + 1 ≤ R.frames ∧ 32 * (1 + 1) ≤ R.locals) : m_OK D cls cA 0 ad TB l "DegreeCores" R 49 false (2 + 1) tC_degreeWithin :=
  m_okV (C := R_C) (Tu := T_C) (N := 7) rfl c_C_degreeWithin (by decide) tb_good w_C49 ⟨rfl, by decide +kernel, by decide +kernel, by decide +kernel⟩ (by decide) hR (by rintro as h k ⟨n, f, S, v, ⟨j, r, q, t, d, w, rfl, hj, hG⟩, rfl, hv, hk⟩; exact ⟨0, _, _, rfl, rfl⟩)
