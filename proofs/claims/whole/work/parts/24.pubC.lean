/-! the object's public methods: the graph, cores -/
theorem br_lt {a b : Nat} {A B : Prop} (ha : a < 2 ^ 31) (hb : b < 2 ^ 31) (f : a < b → A) (g : b ≤ a → B) : (nI a < nI b → A) ∧ (¬ nI a < nI b → B) :=
  ⟨fun h => f ((nI_ltI ha hb).mp h), fun h => g (Nat.le_of_not_lt (fun z => h ((nI_ltI ha hb).mpr z)))⟩
theorem br_le {a b : Nat} {A B : Prop} (ha : a < 2 ^ 31) (hb : b < 2 ^ 31) (f : a ≤ b → A) (g : b < a → B) : (nI a ≤ nI b → A) ∧ (¬ nI a ≤ nI b → B) :=
  ⟨fun h => f ((nI_leI ha hb).mp h), fun h => g (Nat.lt_of_not_le (fun z => h ((nI_leI ha hb).mpr z)))⟩
theorem upd_u (f : Nat → Int32) (k : Nat) (x : Int32) : upd f k x k = x := pk_us
theorem upd_n {f : Nat → Int32} {k j : Nat} {x : Int32} (h : j ≠ k) : upd f k x j = f j := pk_un h
def tC_node : mT := fun as h k => ∃ j n f r q t d w, h = mkC j (nI n) r q t d w ∧ (∀ v, v < n → j v = nI (f v)) ∧ Gr n f ∧ as = [.inr 0] ∧ (n = 12 → k (some (-4)) h) ∧ (n < 12 → k (some (nI n)) (mkC (upd j n 0) (nI (n + 1)) r q t d w))
set_option maxHeartbeats 4000000 in
set_option maxRecDepth 20000 in
theorem c_C_node : m_Con cls 0 TB y_C_node b_C_node 1 (some .int) 0 0 tC_node := by
  refine m_con (code := k_C_node) (fld := f_C) (fpt := p_C) (kon := []) (call := []) (C := R_C) (T := T_C) (N := 7) (by decide) (Or.inl ⟨rfl, rfl⟩) ok_C_node tb_C (fun l D cA ad => m_calls ?_) ?_ ?_
  · exact fun _ h => absurd h List.not_mem_nil
  · rintro as h k ⟨j, n, f, r, q, t, d, w, rfl, hj, hG, rfl, hk1, hk2⟩
    exact Nat.le_of_ble_eq_true rfl
  · rintro as h k ⟨j, n, f, r, q, t, d, w, rfl, hj, hG, rfl, hk1, hk2⟩ V hV
    have hn := hG.1
    refine hV 60 0 _ _ _ (br_lt (a := n) (b := 12) (by omega) (by omega) (fun c => ?_) (fun c => hk1 (by omega)))
    refine And.intro (vp_in_nI c (by omega)) (nm_r (nI_1 n) (nm_r (nI_pred n) ?_))
    have h2 := hk2 c
    have e : (nI n).toNatClampNeg = n := nI_clamp (by omega)
    rw [← e] at h2
    rw [e] at h2
    show k (some (nI n)) (mkC (upd j (nI n).toNatClampNeg 0) (nI (n + 1)) r q t d w)
    rw [e]
    exact h2
def tC_join : mT := fun as h k => ∃ j n f r q t d w x y b, h = mkC j (nI n) r q t d w ∧ (∀ v, v < n → j v = nI (f v)) ∧ Gr n f ∧ as = [.inr 0, .inl x, .inl y, .inl (b2i b)] ∧ (two n x y = false → k (some (-1)) h) ∧
  ∀ u v, u < n → v < n → u ≠ v → x = nI u → y = nI v → ((f u).testBit v = b → k (some 0) h) ∧ ((f u).testBit v ≠ b → k (some 1) (mkC (upd (upd j u (nI (tg (f u) v))) v (nI (tg (f v) u))) (nI n) r q t d w))
theorem b2i_in {a b : Bool} (h : b2i a = b2i b) : a = b := by cases a <;> cases b <;> first | rfl | exact absurd h (by decide)
set_option maxHeartbeats 4000000 in
set_option maxRecDepth 20000 in
theorem c_C_join : m_Con cls 0 TB y_C_join b_C_join 4 (some .int) 0 2 tC_join := by
  refine m_con (code := k_C_join) (fld := f_C) (fpt := p_C) (kon := []) (call := [(32, false, 3, tC_areTwoNodes), (36, true, 2, tC_has)]) (C := R_C) (T := T_C) (N := 7) (by decide) (Or.inl ⟨rfl, rfl⟩) ok_C_join tb_C (fun l D cA ad => m_calls ?_) ?_ ?_
  · exact List.forall_mem_cons.mpr ⟨o_C32 ⟨Nat.le_of_ble_eq_true rfl, Nat.le_of_ble_eq_true rfl⟩, List.forall_mem_cons.mpr ⟨o_C36 ⟨Nat.le_of_ble_eq_true rfl, Nat.le_of_ble_eq_true rfl⟩, fun _ h => absurd h List.not_mem_nil⟩⟩
  · rintro as h k ⟨j, n, f, r, q, t, d, w, x, y, b, rfl, hj, hG, rfl, hk1, hk2⟩
    exact Nat.le_of_ble_eq_true rfl
  · rintro as h k ⟨j, n, f, r, q, t, d, w, x, y, b, rfl, hj, hG, rfl, hk1, hk2⟩ V hV
    have hh : hC (mkC j (nI n) r q t d w) n f := ⟨j, r, q, t, d, w, rfl, hj, hG⟩
    have hn := hG.1
    refine hV 60 0 _ _ _ ⟨n, f, x, y, hh, rfl, br_ne (fun c => ?_) (fun c => hk1 c)⟩
    obtain ⟨u, v, hu, hv, huv, rfl, rfl⟩ := two_t hn c
    obtain ⟨h0, h1⟩ := hk2 u v hu hv huv rfl rfl
    have gu := g31 hG hu
    have gv := g31 hG hv
    have eu := clamp12 hu hn
    have ev := clamp12 hv hn
    refine And.intro (vp_in_nI (by omega) (by omega)) (nm_r (by rw [eu, hj u hu]) ⟨f u, v, rfl, by omega, by omega, And.intro (fun c2 => ?_) (fun c2 => h0 (b2i_in c2))⟩)
    have c2 : ¬ b2i ((f u).testBit v) = b2i b := c2
    have h1 := h1 (fun z => c2 (by rw [z]))
    refine And.intro (vp_in_nI (by omega) (by omega)) (nm_r (by rw [eu, hj u hu]) (nm_r (nx_shl v (by omega)) (nm_r (nx_xor _ _) (And.intro (vp_in_nI (by omega) (by omega)) ?_))))
    refine And.intro (vp_in_nI (by omega) (by omega)) (nm_r (e' := nI (f v)) (by rw [eu, ev, upd_n (fun z => huv z.symm), hj v hv]) (nm_r (nx_shl u (by omega)) (nm_r (nx_xor _ _) (And.intro (vp_in_nI (by omega) (by omega)) ?_))))
    show k (some 1) (mkC (upd (upd j (nI u).toNatClampNeg (nI (f u ^^^ 2 ^ v))) (nI v).toNatClampNeg (nI (f v ^^^ 2 ^ u))) (nI n) r q t d w)
    rw [eu, ev]
    exact h1
def aJd (n : Nat) (f : Nat → Nat) (x y : Int32) : Int32 := bif two n x y then b2i ((f x.toNatClampNeg).testBit y.toNatClampNeg) else -1
def tC_joined : mT := fun as h k => ∃ n f x y, hC h n f ∧ as = [.inr 0, .inl x, .inl y] ∧ k (some (aJd n f x y)) h
set_option maxHeartbeats 4000000 in
set_option maxRecDepth 20000 in
theorem c_C_joined : m_Con cls 0 TB y_C_joined b_C_joined 3 (some .int) 0 2 tC_joined := by
  refine m_con (code := k_C_joined) (fld := f_C) (fpt := p_C) (kon := []) (call := [(32, false, 3, tC_areTwoNodes), (36, true, 2, tC_has)]) (C := R_C) (T := T_C) (N := 7) (by decide) (Or.inl ⟨rfl, rfl⟩) ok_C_joined tb_C (fun l D cA ad => m_calls ?_) ?_ ?_
  · exact List.forall_mem_cons.mpr ⟨o_C32 ⟨Nat.le_of_ble_eq_true rfl, Nat.le_of_ble_eq_true rfl⟩, List.forall_mem_cons.mpr ⟨o_C36 ⟨Nat.le_of_ble_eq_true rfl, Nat.le_of_ble_eq_true rfl⟩, fun _ h => absurd h List.not_mem_nil⟩⟩
  · rintro as h k ⟨n, f, x, y, ⟨j, r, q, t, d, w, rfl, hj, hG⟩, rfl, hk⟩
    exact Nat.le_of_ble_eq_true rfl
  · rintro as h k ⟨n, f, x, y, ⟨j, r, q, t, d, w, rfl, hj, hG⟩, rfl, hk⟩ V hV
    have hh : hC (mkC j (nI n) r q t d w) n f := ⟨j, r, q, t, d, w, rfl, hj, hG⟩
    have hn := hG.1
    refine hV 60 0 _ _ _ ⟨n, f, x, y, hh, rfl, br_ne (fun c => ?_) (fun c => ?_)⟩
    · obtain ⟨u, v, hu, hv, huv, rfl, rfl⟩ := two_t hn c
      have gu := g31 hG hu
      rw [aJd, c, clamp12 hu hn, clamp12 hv hn] at hk
      refine And.intro (vp_in_nI (by omega) (by omega)) (nm_r (by rw [clamp12 hu hn, hj u hu]) ⟨f u, v, rfl, by omega, by omega, br_eq (fun c2 => ?_) (fun c2 => ?_)⟩)
      · rw [c2] at hk; exact hk
      · rw [c2] at hk; exact hk
    · rw [aJd, c] at hk; exact hk
def tC_clear : mT := fun as h k => ∃ j n f r q t d w, h = mkC j (nI n) r q t d w ∧ (∀ v, v < n → j v = nI (f v)) ∧ Gr n f ∧ as = [.inr 0] ∧ k (some (nI n)) (mkC j (nI 0) r q t d w)
set_option maxHeartbeats 4000000 in
set_option maxRecDepth 20000 in
theorem c_C_clear : m_Con cls 0 TB y_C_clear b_C_clear 2 (some .int) 0 0 tC_clear := by
  refine m_con (code := k_C_clear) (fld := f_C) (fpt := p_C) (kon := []) (call := []) (C := R_C) (T := T_C) (N := 7) (by decide) (Or.inl ⟨rfl, rfl⟩) ok_C_clear tb_C (fun l D cA ad => m_calls ?_) ?_ ?_
  · exact fun _ h => absurd h List.not_mem_nil
  · rintro as h k ⟨j, n, f, r, q, t, d, w, rfl, hj, hG, rfl, hk⟩
    exact Nat.le_of_ble_eq_true rfl
  · rintro as h k ⟨j, n, f, r, q, t, d, w, rfl, hj, hG, rfl, hk⟩ V hV
    exact hV 60 0 _ _ _ hk
def aDeg (n : Nat) (f : Nat → Nat) (x : Int32) : Int32 := bif isN n x then nI (pop (f x.toNatClampNeg)) else -1
def tC_degree : mT := fun as h k => ∃ n f x, hC h n f ∧ as = [.inr 0, .inl x] ∧ k (some (aDeg n f x)) h
set_option maxHeartbeats 4000000 in
set_option maxRecDepth 20000 in
theorem c_C_degree : m_Con cls 0 TB y_C_degree b_C_degree 2 (some .int) 0 1 tC_degree := by
  refine m_con (code := k_C_degree) (fld := f_C) (fpt := p_C) (kon := []) (call := [(39, false, 2, tC_isNode), (43, true, 1, t_bitCount)]) (C := R_C) (T := T_C) (N := 7) (by decide) (Or.inl ⟨rfl, rfl⟩) ok_C_degree tb_C (fun l D cA ad => m_calls ?_) ?_ ?_
  · exact List.forall_mem_cons.mpr ⟨o_C39 ⟨Nat.le_of_ble_eq_true rfl, Nat.le_of_ble_eq_true rfl⟩, List.forall_mem_cons.mpr ⟨o_C43 ⟨Nat.le_of_ble_eq_true rfl, Nat.le_of_ble_eq_true rfl⟩, fun _ h => absurd h List.not_mem_nil⟩⟩
  · rintro as h k ⟨n, f, x, ⟨j, r, q, t, d, w, rfl, hj, hG⟩, rfl, hk⟩
    exact Nat.le_of_ble_eq_true rfl
  · rintro as h k ⟨n, f, x, ⟨j, r, q, t, d, w, rfl, hj, hG⟩, rfl, hk⟩ V hV
    have hh : hC (mkC j (nI n) r q t d w) n f := ⟨j, r, q, t, d, w, rfl, hj, hG⟩
    have hn := hG.1
    refine hV 60 0 _ _ _ ⟨n, f, x, hh, rfl, br_eq (fun c => ?_) (fun c => ?_)⟩
    · rw [aDeg, c] at hk; exact hk
    · obtain ⟨v, hv, rfl⟩ := isN_t hn c
      rw [aDeg, c, clamp12 hv hn] at hk
      refine And.intro (vp_in_nI (by omega) (by omega)) (nm_r (by rw [clamp12 hv hn, hj v hv]) ⟨_, rfl, ?_⟩)
      show k (some (bcI (nI (f v)))) _
      rw [bc_n (g31 hG hv)]
      exact hk
def aCore (n : Nat) (f : Nat → Nat) (x r : Int32) : Prop := (isN n x = false ∧ r = -1) ∨ ∃ v c, v < n ∧ x = nI v ∧ isCN n f v c ∧ r = nI c
def tC_core : mT := fun as h k => ∃ n f x, hC h n f ∧ as = [.inr 0, .inl x] ∧ ∀ r, aCore n f x r → k (some r) h
set_option maxHeartbeats 4000000 in
set_option maxRecDepth 20000 in
theorem c_C_core : m_Con cls 0 TB y_C_core b_C_core 4 (some .int) 0 4 tC_core := by
  refine m_con (code := k_C_core) (fld := f_C) (fpt := p_C) (kon := []) (call := [(39, false, 2, tC_isNode), (53, false, 2, tC_coreBits), (36, true, 2, tC_has)]) (C := R_C) (T := T_C) (N := 7) (by decide) (Or.inl ⟨rfl, rfl⟩) ok_C_core tb_C (fun l D cA ad => m_calls ?_) ?_ ?_
  · exact List.forall_mem_cons.mpr ⟨o_C39 ⟨Nat.le_of_ble_eq_true rfl, Nat.le_of_ble_eq_true rfl⟩, List.forall_mem_cons.mpr ⟨o_C53 ⟨Nat.le_of_ble_eq_true rfl, Nat.le_of_ble_eq_true rfl⟩, List.forall_mem_cons.mpr ⟨o_C36 ⟨Nat.le_of_ble_eq_true rfl, Nat.le_of_ble_eq_true rfl⟩, fun _ h => absurd h List.not_mem_nil⟩⟩⟩
  · rintro as h k ⟨n, f, x, ⟨j, r, q, t, d, w, rfl, hj, hG⟩, rfl, hk⟩
    exact Nat.le_of_ble_eq_true rfl
  · rintro as h k ⟨n, f, x, ⟨j, r, q, t, d, w, rfl, hj, hG⟩, rfl, hk⟩ V hV
    have hh : hC (mkC j (nI n) r q t d w) n f := ⟨j, r, q, t, d, w, rfl, hj, hG⟩
    have hn := hG.1
    have h12 := p12 hn
    refine hV 60 0 _ _ _ ⟨n, f, x, hh, rfl, br_ne (fun c => ?_) (fun c => hk _ (Or.inl ⟨c, rfl⟩))⟩
    obtain ⟨v, hv, rfl⟩ := isN_t hn c
    have loop : ∀ m c, c + 1 + m = n → (c = 0 ∨ (coreC n f c n).testBit v = true) → V (14, [some (.inr 0), some (.inl (nI v)), some (.inl (nI c)), some (.inl (nI (c + 1)))], [], mkC j (nI n) r q t d w) := by
      intro m
      induction m with
      | zero =>
        intro c hc h1
        refine hV 60 14 _ _ _ (br_ge (a := c + 1) (b := n) (by omega) (by omega) (fun _ => ?_) (fun c => absurd c (by omega)))
        exact hk _ (Or.inr ⟨v, c, hv, rfl, ⟨h1, core_big hG (by omega) hv⟩, rfl⟩)
      | succ m ih =>
        intro c hc h1
        have hlt := coreC_lt (n := n) (f := f) (c + 1) n
        refine hV 60 14 _ _ _ (br_ge (a := c + 1) (b := n) (by omega) (by omega) (fun c => absurd c (by omega)) (fun _ => ⟨n, f, c + 1, hh, rfl, by omega, ⟨_, v, rfl, by omega, by omega, br_eq (fun c2 => ?_) (fun c2 => nm_r (nI_1 (c + 1)) ?_)⟩⟩))
        · exact hk _ (Or.inr ⟨v, c, hv, rfl, ⟨h1, c2⟩, rfl⟩)
        · exact ih (c + 1) (by omega) (Or.inr c2)
    exact loop (n - 1) 0 (by omega) (Or.inl rfl)
def aCSet (n : Nat) (f : Nat → Nat) (x : Int32) : Int32 := if x < 0 then -2 else nI (coreC n f x.toNatClampNeg n)
def tC_coreSet : mT := fun as h k => ∃ n f x, hC h n f ∧ as = [.inr 0, .inl x] ∧ k (some (aCSet n f x)) h
set_option maxHeartbeats 4000000 in
set_option maxRecDepth 20000 in
theorem c_C_coreSet : m_Con cls 0 TB y_C_coreSet b_C_coreSet 2 (some .int) 0 4 tC_coreSet := by
  refine m_con (code := k_C_coreSet) (fld := f_C) (fpt := p_C) (kon := []) (call := [(53, false, 2, tC_coreBits)]) (C := R_C) (T := T_C) (N := 7) (by decide) (Or.inl ⟨rfl, rfl⟩) ok_C_coreSet tb_C (fun l D cA ad => m_calls ?_) ?_ ?_
  · exact List.forall_mem_cons.mpr ⟨o_C53 ⟨Nat.le_of_ble_eq_true rfl, Nat.le_of_ble_eq_true rfl⟩, fun _ h => absurd h List.not_mem_nil⟩
  · rintro as h k ⟨n, f, x, ⟨j, r, q, t, d, w, rfl, hj, hG⟩, rfl, hk⟩
    exact Nat.le_of_ble_eq_true rfl
  · rintro as h k ⟨n, f, x, ⟨j, r, q, t, d, w, rfl, hj, hG⟩, rfl, hk⟩ V hV
    have hh : hC (mkC j (nI n) r q t d w) n f := ⟨j, r, q, t, d, w, rfl, hj, hG⟩
    refine hV 60 0 _ _ _ (And.intro (fun c => ?_) (fun c => ?_))
    · have c : 0 ≤ x := c
      obtain ⟨K, hK, rfl⟩ := nI_of (Int32.not_lt.mpr c)
      rw [aCSet, if_neg (Int32.not_lt.mpr c), nI_clamp hK] at hk
      exact ⟨n, f, K, hh, rfl, hK, hk⟩
    · have c : ¬ 0 ≤ x := c
      rw [aCSet, if_pos (Int32.not_le.mp c)] at hk
      exact hk
def aPeel (n : Nat) (f : Nat → Nat) (x : Int32) : Int32 := bif isN n x then nI (tkS n f (pS n f x.toNatClampNeg)) else -1
theorem lo_nI {n : Nat} {f : Nat → Nat} (hG : Gr n f) (S : Nat) {k : Nat} (hk : k ≤ 12) : lo n f S (fun d => decide (nI d ≤ nI k)) = lo n f S (fun d => decide (d ≤ k)) := lo_congr (fun v hv => by
  have := dg_le hG (S := S) hv
  have := hG.1
  exact decide_eq_decide.mpr (nI_leI (by omega) (by omega)))
def tC_peeled : mT := fun as h k => ∃ n f x, hC h n f ∧ as = [.inr 0, .inl x] ∧ k (some (aPeel n f x)) h
set_option maxHeartbeats 4000000 in
set_option maxRecDepth 20000 in
theorem c_C_peeled : m_Con cls 0 TB y_C_peeled b_C_peeled 5 (some .int) 0 3 tC_peeled := by
  refine m_con (code := k_C_peeled) (fld := f_C) (fpt := p_C) (kon := []) (call := [(39, false, 2, tC_isNode), (56, false, 1, tC_allNodes), (60, false, 2, tC_leastDegreeWithin), (63, false, 3, tC_looseIn), (66, true, 1, tC_leastOf)]) (C := R_C) (T := T_C) (N := 7) (by decide) (Or.inl ⟨rfl, rfl⟩) ok_C_peeled tb_C (fun l D cA ad => m_calls ?_) ?_ ?_
  · exact List.forall_mem_cons.mpr ⟨o_C39 ⟨Nat.le_of_ble_eq_true rfl, Nat.le_of_ble_eq_true rfl⟩, List.forall_mem_cons.mpr ⟨o_C56 ⟨Nat.le_of_ble_eq_true rfl, Nat.le_of_ble_eq_true rfl⟩, List.forall_mem_cons.mpr ⟨o_C60 ⟨Nat.le_of_ble_eq_true rfl, Nat.le_of_ble_eq_true rfl⟩, List.forall_mem_cons.mpr ⟨o_C63 ⟨Nat.le_of_ble_eq_true rfl, Nat.le_of_ble_eq_true rfl⟩, List.forall_mem_cons.mpr ⟨o_C66 ⟨Nat.le_of_ble_eq_true rfl, Nat.le_of_ble_eq_true rfl⟩, fun _ h => absurd h List.not_mem_nil⟩⟩⟩⟩⟩
  · rintro as h k ⟨n, f, x, ⟨j, r, q, t, d, w, rfl, hj, hG⟩, rfl, hk⟩
    exact Nat.le_of_ble_eq_true rfl
  · rintro as h k ⟨n, f, x, ⟨j, r, q, t, d, w, rfl, hj, hG⟩, rfl, hk⟩ V hV
    have hh : hC (mkC j (nI n) r q t d w) n f := ⟨j, r, q, t, d, w, rfl, hj, hG⟩
    have hn := hG.1
    have h12 := p12 hn
    refine hV 60 0 _ _ _ ⟨n, f, x, hh, rfl, br_ne (fun c => ?_) (fun c => ?_)⟩
    · obtain ⟨v, hv, rfl⟩ := isN_t hn c
      rw [aPeel, c, clamp12 hv hn] at hk
      have loop : ∀ m u tk, u + m = v + 1 → (0 < u → tk = nI (tkS n f (pS n f (u - 1)))) → V (20, [some (.inr 0), some (.inl (nI v)), some (.inl (nI (pS n f u))), some (.inl tk), some (.inl (nI u))], [], mkC j (nI n) r q t d w) := by
        intro m
        induction m with
        | zero =>
          intro u tk hu htk
          refine hV 60 20 _ _ _ (br_gt (a := u) (b := v) (by omega) (by omega) (fun _ => ?_) (fun c => absurd c (by omega)))
          have e := htk (by omega)
          have e2 : u - 1 = v := by omega
          rw [e2] at e
          subst e
          exact hk
        | succ m ih =>
          intro u tk hu htk
          have hlt := pS_lt (n := n) (f := f) u
          have hne := pS_ne hG (t := u) (by omega)
          have h12' := ld_12 f (pS n f u) n
          have hlo := lo_lt n f (pS n f u) (fun d => decide (d ≤ ld f (pS n f u) n))
          obtain ⟨z, -, -, hz⟩ := lo_ne hG hlt hne (Nat.le_refl _)
          refine hV 60 20 _ _ _ (br_gt (a := u) (b := v) (by omega) (by omega) (fun c => absurd c (by omega)) (fun _ => ⟨n, f, _, hh, rfl, by omega, ⟨n, f, _, _, hh, rfl, by omega, ?_⟩⟩))
          rw [lo_nI hG _ h12']
          have htk2 := (tk_is hG hlt hne).1
          refine ⟨_, rfl, by omega, ne_of_tb hz, nm_r (nx_shl (tkS n f (pS n f u)) (by omega)) (nm_e (nm_r (nx_sd _ _) (nm_r (nI_1 u) ?_)))⟩
          exact ih (u + 1) _ (by omega) (fun _ => rfl)
      exact ⟨n, f, hh, rfl, loop (v + 1) 0 (-1) (by omega) (fun h => by omega)⟩
    · rw [aPeel, c] at hk; exact hk
def aLay (n : Nat) (f : Nat → Nat) (x r : Int32) : Prop := (isN n x = false ∧ r = -1) ∨ ∃ v c, v < n ∧ x = nI v ∧ isLy n f v c ∧ r = nI c
def tC_layer : mT := fun as h k => ∃ n f x, hC h n f ∧ as = [.inr 0, .inl x] ∧ ∀ r, aLay n f x r → k (some r) h
set_option maxHeartbeats 4000000 in
set_option maxRecDepth 20000 in
theorem c_C_layer : m_Con cls 0 TB y_C_layer b_C_layer 5 (some .int) 0 3 tC_layer := by
  refine m_con (code := k_C_layer) (fld := f_C) (fpt := p_C) (kon := []) (call := [(39, false, 2, tC_isNode), (56, false, 1, tC_allNodes), (36, true, 2, tC_has), (60, false, 2, tC_leastDegreeWithin), (69, true, 2, t_max), (63, false, 3, tC_looseIn)]) (C := R_C) (T := T_C) (N := 7) (by decide) (Or.inl ⟨rfl, rfl⟩) ok_C_layer tb_C (fun l D cA ad => m_calls ?_) ?_ ?_
  · exact List.forall_mem_cons.mpr ⟨o_C39 ⟨Nat.le_of_ble_eq_true rfl, Nat.le_of_ble_eq_true rfl⟩, List.forall_mem_cons.mpr ⟨o_C56 ⟨Nat.le_of_ble_eq_true rfl, Nat.le_of_ble_eq_true rfl⟩, List.forall_mem_cons.mpr ⟨o_C36 ⟨Nat.le_of_ble_eq_true rfl, Nat.le_of_ble_eq_true rfl⟩, List.forall_mem_cons.mpr ⟨o_C60 ⟨Nat.le_of_ble_eq_true rfl, Nat.le_of_ble_eq_true rfl⟩, List.forall_mem_cons.mpr ⟨o_C69 ⟨Nat.le_of_ble_eq_true rfl, Nat.le_of_ble_eq_true rfl⟩, List.forall_mem_cons.mpr ⟨o_C63 ⟨Nat.le_of_ble_eq_true rfl, Nat.le_of_ble_eq_true rfl⟩, fun _ h => absurd h List.not_mem_nil⟩⟩⟩⟩⟩⟩
  · rintro as h k ⟨n, f, x, ⟨j, r, q, t, d, w, rfl, hj, hG⟩, rfl, hk⟩
    exact Nat.le_of_ble_eq_true rfl
  · rintro as h k ⟨n, f, x, ⟨j, r, q, t, d, w, rfl, hj, hG⟩, rfl, hk⟩ V hV
    have hh : hC (mkC j (nI n) r q t d w) n f := ⟨j, r, q, t, d, w, rfl, hj, hG⟩
    have hn := hG.1
    have h12 := p12 hn
    refine hV 60 0 _ _ _ ⟨n, f, x, hh, rfl, br_ne (fun c => ?_) (fun c => hk _ (Or.inl ⟨c, rfl⟩))⟩
    obtain ⟨v, hv, rfl⟩ := isN_t hn c
    have loop : ∀ m u, u + m = n → (∀ s, s < u → (Ly n f s).1.testBit v = true) → V (20, [some (.inr 0), some (.inl (nI v)), some (.inl (nI (Ly n f u).1)), some (.inl (nI (Ly n f u).2)), some (.inl (nI u))], [], mkC j (nI n) r q t d w) := by
      intro m
      induction m with
      | zero =>
        intro u hu hi
        refine hV 60 20 _ _ _ (br_ge (a := u) (b := n) (by omega) (by omega) (fun _ => ?_) (fun c => absurd c (by omega)))
        refine hk _ (Or.inr ⟨v, u, hv, rfl, ⟨?_, hi⟩, rfl⟩)
        rcases Ly_pop hG u with h0 | h0
        · rw [h0]; simp
        · have h1 : pop (Ly n f u).1 = 0 := by omega
          rw [pop_n (Ly_lt u) hn] at h1
          exact cn_0 h1 v hv
      | succ m ih =>
        intro u hu hi
        have hlt := Ly_lt (n := n) (f := f) u
        have hk12 := Ly_k (n := n) (f := f) u
        have hl12 := ld_12 f (Ly n f u).1 n
        refine hV 60 20 _ _ _ (br_ge (a := u) (b := n) (by omega) (by omega) (fun c => absurd c (by omega)) (fun _ => ⟨_, v, rfl, by omega, by omega, br_eq (fun c2 => ?_) (fun c2 => ⟨n, f, _, hh, rfl, by omega, ⟨_, _, rfl, ?_⟩⟩)⟩))
        · exact hk _ (Or.inr ⟨v, u, hv, rfl, ⟨c2, hi⟩, rfl⟩)
        · have e : (if nI (Ly n f u).2 < nI (ld f (Ly n f u).1 n) then nI (ld f (Ly n f u).1 n) else nI (Ly n f u).2) = nI (Ly n f (u + 1)).2 := by
            show _ = nI (if _ then _ else _)
            by_cases hc : (Ly n f u).2 < ld f (Ly n f u).1 n
            · rw [if_pos hc, if_pos (nI_lt hc (by omega))]
            · rw [if_neg hc, if_neg (nI_nlt (by omega) (by omega))]
          have hk2 := Ly_k (n := n) (f := f) (u + 1)
          rw [e]
          refine ⟨n, f, _, _, hh, rfl, by omega, ?_⟩
          rw [lo_nI hG _ hk2]
          refine nm_e (nm_r (nx_sd _ _) (nm_r (nI_1 u) ?_))
          exact ih (u + 1) (by omega) (fun s hs => by
            by_cases hsu : s = u
            · rw [hsu]; exact c2
            · exact hi s (by omega))
    exact ⟨n, f, hh, rfl, loop n 0 (by omega) (fun s hs => by omega)⟩
def aSup (n : Nat) (f : Nat → Nat) (x y : Int32) : Int32 := bif edg n f x y then nI (pop (f x.toNatClampNeg &&& f y.toNatClampNeg)) else -1
theorem edg_t {n : Nat} {f : Nat → Nat} {x y : Int32} (hn : n ≤ 12) (h : edg n f x y = true) : ∃ u v, u < n ∧ v < n ∧ u ≠ v ∧ x = nI u ∧ y = nI v ∧ (f u).testBit v = true := by
  rw [edg, Bool.and_eq_true] at h
  obtain ⟨u, v, hu, hv, huv, rfl, rfl⟩ := two_t hn h.1
  have h2 := h.2
  rw [clamp12 hu hn, clamp12 hv hn] at h2
  exact ⟨u, v, hu, hv, huv, rfl, rfl, h2⟩
def tC_support : mT := fun as h k => ∃ n f x y, hC h n f ∧ as = [.inr 0, .inl x, .inl y] ∧ k (some (aSup n f x y)) h
set_option maxHeartbeats 4000000 in
set_option maxRecDepth 20000 in
theorem c_C_support : m_Con cls 0 TB y_C_support b_C_support 3 (some .int) 0 3 tC_support := by
  refine m_con (code := k_C_support) (fld := f_C) (fpt := p_C) (kon := []) (call := [(88, false, 3, tC_isEdge), (43, true, 1, t_bitCount)]) (C := R_C) (T := T_C) (N := 7) (by decide) (Or.inl ⟨rfl, rfl⟩) ok_C_support tb_C (fun l D cA ad => m_calls ?_) ?_ ?_
  · exact List.forall_mem_cons.mpr ⟨o_C88 ⟨Nat.le_of_ble_eq_true rfl, Nat.le_of_ble_eq_true rfl⟩, List.forall_mem_cons.mpr ⟨o_C43 ⟨Nat.le_of_ble_eq_true rfl, Nat.le_of_ble_eq_true rfl⟩, fun _ h => absurd h List.not_mem_nil⟩⟩
  · rintro as h k ⟨n, f, x, y, ⟨j, r, q, t, d, w, rfl, hj, hG⟩, rfl, hk⟩
    exact Nat.le_of_ble_eq_true rfl
  · rintro as h k ⟨n, f, x, y, ⟨j, r, q, t, d, w, rfl, hj, hG⟩, rfl, hk⟩ V hV
    have hh : hC (mkC j (nI n) r q t d w) n f := ⟨j, r, q, t, d, w, rfl, hj, hG⟩
    have hn := hG.1
    refine hV 60 0 _ _ _ ⟨n, f, x, y, hh, rfl, br_eq (fun c => ?_) (fun c => ?_)⟩
    · rw [aSup, c] at hk; exact hk
    · obtain ⟨u, v, hu, hv, huv, rfl, rfl, hb⟩ := edg_t hn c
      rw [aSup, c, clamp12 hu hn, clamp12 hv hn] at hk
      refine And.intro (vp_in_nI (by omega) (by omega)) (nm_r (by rw [clamp12 hu hn, hj u hu]) (And.intro (vp_in_nI (by omega) (by omega)) (nm_r (by rw [clamp12 hv hn, hj v hv]) (nm_r (nx_and _ _) ⟨_, rfl, ?_⟩))))
      show k (some (bcI (nI (f u &&& f v)))) _
      rw [bc_n (Nat.lt_of_le_of_lt Nat.and_le_left (g31 hG hu))]
      exact hk
