/-! the reference: triangles, shares -/
def tM_areJoined : mT := fun as h k => ∃ n f a b, hM h n f ∧ as = [.inr 0, .inl (nI a), .inl (nI b)] ∧ a < n ∧ b < n ∧ k (some (b2i ((f a).testBit b))) h
set_option maxHeartbeats 4000000 in
set_option maxRecDepth 20000 in
theorem c_M_areJoined : m_Con cls 1 TB y_M_areJoined b_M_areJoined 3 (some .boolean) 1 0 tM_areJoined := by
  refine m_con (code := k_M_areJoined) (fld := f_M) (fpt := p_M) (kon := []) (call := []) (C := R_M) (T := T_M) (N := 13) (by decide) (Or.inr (Or.inl ⟨rfl, rfl⟩)) ok_M_areJoined tb_M (fun l D cA ad => m_calls ?_) ?_ ?_
  · exact fun _ h => absurd h List.not_mem_nil
  · rintro as h k ⟨n, f, a, b, ⟨j, z, rfl, hj, hG⟩, rfl, ha, hb, hk⟩
    exact Nat.le_of_ble_eq_true rfl
  · rintro as h k ⟨n, f, a, b, ⟨j, z, rfl, hj, hG⟩, rfl, ha, hb, hk⟩ V hV
    have hn := hG.1
    have ga := g31 hG ha
    refine hV 60 0 _ _ _ (And.intro (vp_in_nI (by omega) (by omega)) (nm_r (by rw [clamp12 ha hn, hj a ha]) (nm_e (nm_r (nx_bit (by omega) (by omega)) (br_bn (fun c => And.intro (Or.inl rfl) ?_) (fun c => And.intro (Or.inr rfl) ?_))))))
    · rw [c] at hk; exact hk
    · rw [c] at hk; exact hk
theorem o_M55 {D : va_G} {cA : ClassId} {ad : Nat → Nat} {l : Launch} {R : Room} (hR : 0 + 1 ≤ R.frames ∧ 32 * (0 + 1) ≤ R.locals) : m_OK D cls cA 1 ad TB l "DegreeCoresModel" R 55 false (2 + 1) tM_areJoined :=
  m_okV (C := R_M) (Tu := T_M) (N := 13) rfl c_M_areJoined (by decide) tb_good w_M55 ⟨rfl, by decide +kernel, by decide +kernel, by decide +kernel⟩ (by decide) hR (by rintro as h k ⟨n, f, a, b, ⟨j, z, rfl, hj, hG⟩, rfl, ha, hb, hk⟩; exact ⟨0, _, _, rfl, rfl⟩)
def tM_isEdge : mT := fun as h k => ∃ n f x y, hM h n f ∧ as = [.inr 0, .inl x, .inl y] ∧ k (some (b2i (edg n f x y))) h
set_option maxHeartbeats 4000000 in
set_option maxRecDepth 20000 in
theorem c_M_isEdge : m_Con cls 1 TB y_M_isEdge b_M_isEdge 3 (some .boolean) 1 2 tM_isEdge := by
  refine m_con (code := k_M_isEdge) (fld := f_M) (fpt := p_M) (kon := []) (call := [(40, false, 3, tM_areTwo), (55, false, 3, tM_areJoined)]) (C := R_M) (T := T_M) (N := 13) (by decide) (Or.inr (Or.inl ⟨rfl, rfl⟩)) ok_M_isEdge tb_M (fun l D cA ad => m_calls ?_) ?_ ?_
  · exact List.forall_mem_cons.mpr ⟨o_M40 ⟨Nat.le_of_ble_eq_true rfl, Nat.le_of_ble_eq_true rfl⟩, List.forall_mem_cons.mpr ⟨o_M55 ⟨Nat.le_of_ble_eq_true rfl, Nat.le_of_ble_eq_true rfl⟩, fun _ h => absurd h List.not_mem_nil⟩⟩
  · rintro as h k ⟨n, f, x, y, ⟨j, z, rfl, hj, hG⟩, rfl, hk⟩
    exact Nat.le_of_ble_eq_true rfl
  · rintro as h k ⟨n, f, x, y, ⟨j, z, rfl, hj, hG⟩, rfl, hk⟩ V hV
    have hh : hM (mkM (nI n) j z) n f := ⟨j, z, rfl, hj, hG⟩
    refine hV 60 0 _ _ _ ⟨n, f, x, y, hh, rfl, br_eq (fun c => And.intro (Or.inl rfl) ?_) (fun c => ?_)⟩
    · have e : edg n f x y = false := by simp [edg, c]
      rw [e] at hk; exact hk
    · obtain ⟨u, v, hu, hv, huv, rfl, rfl⟩ := two_t hG.1 c
      have hn := hG.1
      have eq : edg n f (nI u) (nI v) = (f u).testBit v := by simp [edg, c, clamp12 hu hn, clamp12 hv hn]
      rw [eq] at hk
      refine ⟨n, f, u, v, hh, rfl, hu, hv, br_eq (fun c2 => And.intro (Or.inl rfl) ?_) (fun c2 => And.intro (Or.inr rfl) ?_)⟩
      · rw [c2] at hk; exact hk
      · rw [c2] at hk; exact hk
theorem o_M70 {D : va_G} {cA : ClassId} {ad : Nat → Nat} {l : Launch} {R : Room} (hR : 2 + 1 ≤ R.frames ∧ 32 * (2 + 1) ≤ R.locals) : m_OK D cls cA 1 ad TB l "DegreeCoresModel" R 70 false (2 + 1) tM_isEdge :=
  m_okV (C := R_M) (Tu := T_M) (N := 13) rfl c_M_isEdge (by decide) tb_good w_M70 ⟨rfl, by decide +kernel, by decide +kernel, by decide +kernel⟩ (by decide) hR (by rintro as h k ⟨n, f, x, y, ⟨j, z, rfl, hj, hG⟩, rfl, hk⟩; exact ⟨0, _, _, rfl, rfl⟩)
def tM_support : mT := fun as h k => ∃ n f x y, hM h n f ∧ as = [.inr 0, .inl x, .inl y] ∧ k (some (aSup n f x y)) h
set_option maxHeartbeats 4000000 in
set_option maxRecDepth 20000 in
theorem c_M_support : m_Con cls 1 TB y_M_support b_M_support 3 (some .int) 0 3 tM_support := by
  refine m_con (code := k_M_support) (fld := f_M) (fpt := p_M) (kon := []) (call := [(70, false, 3, tM_isEdge), (44, true, 1, tM_count)]) (C := R_M) (T := T_M) (N := 13) (by decide) (Or.inl ⟨rfl, rfl⟩) ok_M_support tb_M (fun l D cA ad => m_calls ?_) ?_ ?_
  · exact List.forall_mem_cons.mpr ⟨o_M70 ⟨Nat.le_of_ble_eq_true rfl, Nat.le_of_ble_eq_true rfl⟩, List.forall_mem_cons.mpr ⟨o_M44 ⟨Nat.le_of_ble_eq_true rfl, Nat.le_of_ble_eq_true rfl⟩, fun _ h => absurd h List.not_mem_nil⟩⟩
  · rintro as h k ⟨n, f, x, y, ⟨j, z, rfl, hj, hG⟩, rfl, hk⟩
    exact Nat.le_of_ble_eq_true rfl
  · rintro as h k ⟨n, f, x, y, ⟨j, z, rfl, hj, hG⟩, rfl, hk⟩ V hV
    have hh : hM (mkM (nI n) j z) n f := ⟨j, z, rfl, hj, hG⟩
    have hn := hG.1
    refine hV 60 0 _ _ _ ⟨n, f, x, y, hh, rfl, br_eq (fun c => ?_) (fun c => ?_)⟩
    · rw [aSup, c] at hk; exact hk
    · obtain ⟨u, v, hu, hv, huv, rfl, rfl, hb⟩ := edg_t hn c
      rw [aSup, c, clamp12 hu hn, clamp12 hv hn] at hk
      exact And.intro (vp_in_nI (by omega) (by omega)) (nm_r (by rw [clamp12 hu hn, hj u hu]) (And.intro (vp_in_nI (by omega) (by omega)) (nm_r (by rw [clamp12 hv hn, hj v hv]) (nm_r (nx_and _ _) ⟨_, rfl, Nat.lt_of_le_of_lt Nat.and_le_left (g31 hG hu), hk⟩))))
abbrev I3 : Type := Int32 × Int32 × Int32
def zF (z : mZ) (l : I3) : mZ := (z.1, z.2.1, z.2.2.1, z.2.2.2.1, z.2.2.2.2.1, l.1, l.2.1, l.2.2, z.2.2.2.2.2.2.2.2)
def z3 (z : mZ) : I3 := (z.2.2.2.2.2.1, z.2.2.2.2.2.2.1, z.2.2.2.2.2.2.2.1)
def q3 (q : Nat × Nat × Nat) : I3 := (nI q.1, nI q.2.1, nI q.2.2)
def wk (till : Int32) : Nat → I3 → List (Nat × Nat × Nat) → Nat × I3
  | c, l, [] => (c, l)
  | c, _, q :: t => if nI (c + 1) = till then (c + 1, q3 q) else wk till (c + 1) (q3 q) t
def tM_walk : mT := fun as h k => ∃ n f j z till, h = mkM (nI n) j z ∧ (∀ v, v < n → j v = nI (f v)) ∧ Gr n f ∧ as = [.inr 0, .inl till] ∧ k (some (nI (wk till 0 (z3 z) (tls n f)).1)) (mkM (nI n) j (zF z (wk till 0 (z3 z) (tls n f)).2))
set_option maxHeartbeats 4000000 in
set_option maxRecDepth 20000 in
theorem c_M_walk : m_Con cls 1 TB y_M_walk b_M_walk 6 (some .int) 0 1 tM_walk := by
  refine m_con (code := k_M_walk) (fld := f_M) (fpt := p_M) (kon := []) (call := [(55, false, 3, tM_areJoined)]) (C := R_M) (T := T_M) (N := 13) (by decide) (Or.inl ⟨rfl, rfl⟩) ok_M_walk tb_M (fun l D cA ad => m_calls ?_) ?_ ?_
  · exact List.forall_mem_cons.mpr ⟨o_M55 ⟨Nat.le_of_ble_eq_true rfl, Nat.le_of_ble_eq_true rfl⟩, fun _ h => absurd h List.not_mem_nil⟩
  · rintro as h k ⟨n, f, j, z, till, rfl, hj, hG, rfl, hk⟩
    exact Nat.le_of_ble_eq_true rfl
  · rintro as h k ⟨n, f, j, z, till, rfl, hj, hG, rfl, hk⟩ V hV
    have hn := hG.1
    generalize hans : wk till 0 (z3 z) (tls n f) = ans at hk
    have l3 : ∀ m a b c bef l rest, a < n → b < n → c + m = n → (∀ bef' l' (y : Option mV), wk till bef' l' rest = ans → V (17, [some (.inr 0), some (.inl till), some (.inl (nI bef')), some (.inl (nI a)), some (.inl (nI (b + 1))), y], [], mkM (nI n) j (zF z l'))) → wk till bef l (tl3 f a b m c ++ rest) = ans → V (32, [some (.inr 0), some (.inl till), some (.inl (nI bef)), some (.inl (nI a)), some (.inl (nI b)), some (.inl (nI c))], [], mkM (nI n) j (zF z l)) := by
      intro m
      induction m with
      | zero =>
        intro a b c bef l rest ha hb hc hcont he
        exact hV 60 32 _ _ _ (br_ge (a := c) (b := n) (by omega) (by omega) (fun _ => nm_r (nI_1 b) (hcont bef l _ he)) (fun c => absurd c (by omega)))
      | succ m ih =>
        intro a b c bef l rest ha hb hc hcont he
        have hh : hM (mkM (nI n) j (zF z l)) n f := ⟨j, _, rfl, hj, hG⟩
        rw [tl3] at he
        have no : tri f a b c = false → V (32, [some (.inr 0), some (.inl till), some (.inl (nI bef)), some (.inl (nI a)), some (.inl (nI b)), some (.inl (nI (c + 1)))], [], mkM (nI n) j (zF z l)) := fun e => by
          rw [e] at he
          exact ih a b (c + 1) bef l rest ha hb (by omega) hcont he
        refine hV 60 32 _ _ _ (br_ge (a := c) (b := n) (by omega) (by omega) (fun c => absurd c (by omega)) (fun _ => ⟨n, f, a, b, hh, rfl, ha, hb, br_eq (fun c1 => nm_r (nI_1 c) (no (by simp [tri, c1]))) (fun c1 => ⟨n, f, a, c, hh, rfl, ha, by omega, br_eq (fun c2 => nm_r (nI_1 c) (no (by simp [tri, c2]))) (fun c2 => ⟨n, f, b, c, hh, rfl, hb, by omega, br_eq (fun c3 => nm_r (nI_1 c) (no (by simp [tri, c3]))) (fun c3 => nm_r (nI_1 bef) (And.intro (fun c4 => nm_r (nI_1 c) ?_) (fun c4 => ?_)))⟩)⟩)⟩))
        · have c4 : ¬ nI (bef + 1) = till := c4
          have e : tri f a b c = true := by simp [tri, c1, c2, c3]
          rw [e] at he
          have he : (if nI (bef + 1) = till then (bef + 1, q3 (a, b, c)) else wk till (bef + 1) (q3 (a, b, c)) (tl3 f a b m (c + 1) ++ rest)) = ans := he
          rw [if_neg c4] at he
          exact ih a b (c + 1) (bef + 1) (q3 (a, b, c)) rest ha hb (by omega) hcont he
        · have c4 : nI (bef + 1) = till := c4
          have e : tri f a b c = true := by simp [tri, c1, c2, c3]
          rw [e] at he
          have he : (if nI (bef + 1) = till then (bef + 1, q3 (a, b, c)) else wk till (bef + 1) (q3 (a, b, c)) (tl3 f a b m (c + 1) ++ rest)) = ans := he
          rw [if_pos c4] at he
          rw [← he] at hk
          exact hk
    have l2 : ∀ m a b bef l rest (y : Option mV), a < n → b + m = n → (∀ bef' l' (x y : Option mV), wk till bef' l' rest = ans → V (4, [some (.inr 0), some (.inl till), some (.inl (nI bef')), some (.inl (nI (a + 1))), x, y], [], mkM (nI n) j (zF z l'))) → wk till bef l (tl2 f n a m b ++ rest) = ans → V (17, [some (.inr 0), some (.inl till), some (.inl (nI bef)), some (.inl (nI a)), some (.inl (nI b)), y], [], mkM (nI n) j (zF z l)) := by
      intro m
      induction m with
      | zero =>
        intro a b bef l rest y ha hb hcont he
        exact hV 60 17 _ _ _ (br_ge (a := b) (b := n) (by omega) (by omega) (fun _ => nm_r (nI_1 a) (hcont bef l _ _ he)) (fun c => absurd c (by omega)))
      | succ m ih =>
        intro a b bef l rest y ha hb hcont he
        refine hV 60 17 _ _ _ (br_ge (a := b) (b := n) (by omega) (by omega) (fun c => absurd c (by omega)) (fun _ => nm_r (nI_1 b) ?_))
        rw [tl2, List.append_assoc] at he
        exact l3 (n - (b + 1)) a b (b + 1) bef l _ ha (by omega) (by omega) (fun bef' l' y' he' => ih a (b + 1) bef' l' rest y' ha (by omega) hcont he') he
    have l1 : ∀ m a bef l (x y : Option mV), a + m = n → wk till bef l (tl1 f n m a) = ans → V (4, [some (.inr 0), some (.inl till), some (.inl (nI bef)), some (.inl (nI a)), x, y], [], mkM (nI n) j (zF z l)) := by
      intro m
      induction m with
      | zero =>
        intro a bef l x y ha he
        have he : (bef, l) = ans := he
        refine hV 60 4 _ _ _ (br_ge (a := a) (b := n) (by omega) (by omega) (fun _ => ?_) (fun c => absurd c (by omega)))
        rw [← he] at hk
        exact hk
      | succ m ih =>
        intro a bef l x y ha he
        refine hV 60 4 _ _ _ (br_ge (a := a) (b := n) (by omega) (by omega) (fun c => absurd c (by omega)) (fun _ => nm_r (nI_1 a) ?_))
        rw [tl1] at he
        exact l2 (n - (a + 1)) a (a + 1) bef l _ y (by omega) (by omega) (fun bef' l' x' y' he' => ih (a + 1) bef' l' x' y' (by omega) he') he
    exact hV 60 0 _ _ _ (l1 n 0 0 (z3 z) none none (by omega) hans)
theorem o_M67 {D : va_G} {cA : ClassId} {ad : Nat → Nat} {l : Launch} {R : Room} (hR : 1 + 1 ≤ R.frames ∧ 32 * (1 + 1) ≤ R.locals) : m_OK D cls cA 1 ad TB l "DegreeCoresModel" R 67 false (1 + 1) tM_walk :=
  m_okV (C := R_M) (Tu := T_M) (N := 13) rfl c_M_walk (by decide) tb_good w_M67 ⟨rfl, by decide +kernel, by decide +kernel, by decide +kernel⟩ (by decide) hR (by rintro as h k ⟨n, f, j, z, till, rfl, hj, hG, rfl, hk⟩; exact ⟨0, _, _, rfl, rfl⟩)
-- how long the list is
theorem tl3_len (f : Nat → Nat) (a b m : Nat) : ∀ c, sm (fun i => (tri f a b i).toNat) (c + m) = sm (fun i => (tri f a b i).toNat) c + (tl3 f a b m c).length := by
  induction m with
  | zero => intro c; rfl
  | succ m ih =>
    intro c
    have h := ih (c + 1)
    rw [show c + (m + 1) = c + 1 + m by omega, h]
    show sm _ c + (tri f a b c).toNat + _ = _
    rw [tl3]
    cases tri f a b c with
    | true => simp; omega
    | false => simp
theorem tl3_le (f : Nat → Nat) (a b m : Nat) : ∀ c, (tl3 f a b m c).length ≤ m := by
  induction m with
  | zero => intro c; exact Nat.le_refl _
  | succ m ih =>
    intro c
    have h := ih (c + 1)
    rw [tl3]
    cases tri f a b c with
    | true => simp; exact h
    | false => simp; omega
theorem tI_in (f : Nat → Nat) {n a b : Nat} (hab : a < b) (hb : b < n) : sm (tI f a b) n = (tl3 f a b (n - (b + 1)) (b + 1)).length := by
  have h := tl3_len f a b (n - (b + 1)) (b + 1)
  rw [show b + 1 + (n - (b + 1)) = n by omega] at h
  have h0 : sm (tI f a b) (b + 1) = 0 := sm_zero' (fun i hi => by simp [tI, show ¬ b < i by omega])
  have key : ∀ m, b + 1 + m ≤ n → sm (tI f a b) (b + 1 + m) + sm (fun i => (tri f a b i).toNat) (b + 1) = sm (fun i => (tri f a b i).toNat) (b + 1 + m) := by
    intro m
    induction m with
    | zero => intro _; rw [h0]; simp
    | succ m ih =>
      intro hm
      have := ih (by omega)
      show sm (tI f a b) (b + 1 + m) + tI f a b (b + 1 + m) + _ = sm _ (b + 1 + m) + (tri f a b (b + 1 + m)).toNat
      have e : tI f a b (b + 1 + m) = (tri f a b (b + 1 + m)).toNat := by simp [tI, hab, show b < b + 1 + m by omega]
      omega
  have k := key (n - (b + 1)) (by omega)
  rw [show b + 1 + (n - (b + 1)) = n by omega] at k
  omega
theorem tl2_len (f : Nat → Nat) {n a : Nat} (m : Nat) : ∀ b, a < b → b + m = n → sm (fun i => sm (tI f a i) n) n = sm (fun i => sm (tI f a i) n) b + (tl2 f n a m b).length := by
  induction m with
  | zero => intro b _ hb; have e : b = n := by omega
            subst e; rfl
  | succ m ih =>
    intro b hab hb
    rw [ih (b + 1) (by omega) (by omega), tl2, List.length_append]
    show sm _ b + sm (tI f a b) n + _ = _
    rw [tI_in f hab (by omega)]
    omega
theorem tl1_len (f : Nat → Nat) {n : Nat} (m : Nat) : ∀ a, a + m = n → sm (fun i => sm (fun b => sm (tI f i b) n) n) n = sm (fun i => sm (fun b => sm (tI f i b) n) n) a + (tl1 f n m a).length := by
  induction m with
  | zero => intro a ha; have e : a = n := by omega
            subst e; rfl
  | succ m ih =>
    intro a ha
    rw [ih (a + 1) (by omega), tl1, List.length_append]
    show sm _ a + sm (fun b => sm (tI f a b) n) n + _ = _
    have h := tl2_len f (n := n) (a := a) (n - (a + 1)) (a + 1) (by omega) (by omega)
    have h0 : sm (fun i => sm (tI f a i) n) (a + 1) = 0 := sm_zero' (fun i hi => sm_zero' (fun c _ => by simp [tI, show ¬ a < i by omega]))
    rw [h0] at h
    omega
theorem tls_len (n : Nat) (f : Nat → Nat) : (tls n f).length = tc n f := by
  have h := tl1_len f (n := n) n 0 (by omega)
  show _ = sm _ n
  rw [h]
  show _ = 0 + _
  rw [Nat.zero_add]
  rfl
theorem wk_m1 (l : I3) (L : List (Nat × Nat × Nat)) (c : Nat) (h : c + L.length < 2 ^ 31) : (wk (-1) c l L).1 = c + L.length := by
  induction L generalizing c l with
  | nil => rfl
  | cons q t ih =>
    have hne : ¬ nI (c + 1) = -1 := fun z => by
      have h2 := nI_pos' (n := c + 1) (by simp at h; omega)
      rw [z] at h2
      exact absurd h2 (by decide)
    rw [wk, if_neg hne, ih (q3 q) (c + 1) (by simp at h; omega)]
    simp
    omega
theorem wk_at (l : I3) (L : List (Nat × Nat × Nat)) (c i : Nat) (hi : c + i < 2 ^ 31 - 1) (hL : c + L.length < 2 ^ 31) : (∀ q, L[i]? = some q → wk (nI (c + i + 1)) c l L = (c + i + 1, q3 q)) ∧ (L[i]? = none → (wk (nI (c + i + 1)) c l L).1 = c + L.length) := by
  induction L generalizing c l i with
  | nil => exact ⟨fun q h => by simp at h, fun _ => rfl⟩
  | cons q t ih =>
    simp at hL
    rw [wk]
    cases i with
    | zero =>
      refine ⟨fun q' h => ?_, fun h => by simp at h⟩
      simp at h
      rw [if_pos rfl, h]
    | succ i =>
      have hne : ¬ nI (c + 1) = nI (c + (i + 1) + 1) := fun z => by
        have := (nI_eq (by omega) (by omega)).mp z
        omega
      rw [if_neg hne]
      obtain ⟨h1, h2⟩ := ih (q3 q) (c + 1) i (by omega) (by omega)
      rw [show c + 1 + i + 1 = c + (i + 1) + 1 by omega] at h1 h2
      refine ⟨fun q' h => h1 q' (by simpa using h), fun h => ?_⟩
      rw [h2 (by simpa using h)]
      simp
      omega
theorem fnd_at {p : Int32} (L : List (Nat × Nat × Nat)) (c i : Nat) (hi : c + i < 2 ^ 31) (hL : c + L.length < 2 ^ 31) : (∀ q, L[i]? = some q → fnd (nI (c + i)) p c L = crn (nI q.1) (nI q.2.1) (nI q.2.2) p) ∧ (L[i]? = none → fnd (nI (c + i)) p c L = -1) := by
  induction L generalizing c i with
  | nil => exact ⟨fun q h => by simp at h, fun _ => rfl⟩
  | cons q t ih =>
    simp at hL
    rw [fnd]
    cases i with
    | zero =>
      refine ⟨fun q' h => ?_, fun h => by simp at h⟩
      simp at h
      rw [Nat.add_zero, if_pos rfl, h]
    | succ i =>
      have hne : ¬ nI c = nI (c + (i + 1)) := fun z => by
        have := (nI_eq (by omega) (by omega)).mp z
        omega
      rw [if_neg hne]
      obtain ⟨h1, h2⟩ := ih (c + 1) i (by omega) (by omega)
      rw [show c + 1 + i = c + (i + 1) by omega] at h1 h2
      exact ⟨fun q' h => h1 q' (by simpa using h), fun h => h2 (by simpa using h)⟩
theorem fnd_neg {p x : Int32} (hx : x < 0) (L : List (Nat × Nat × Nat)) (c : Nat) (hL : c + L.length < 2 ^ 31) : fnd x p c L = -1 := by
  induction L generalizing c with
  | nil => rfl
  | cons q t ih =>
    simp at hL
    have hne : ¬ nI c = x := fun z => by
      have h2 := nI_pos (n := c) (by omega)
      rw [z] at h2
      exact h2 hx
    rw [fnd, if_neg hne]
    exact ih (c + 1) (by omega)
def tM_triangles : mT := fun as h k => ∃ n f j z, h = mkM (nI n) j z ∧ (∀ v, v < n → j v = nI (f v)) ∧ Gr n f ∧ as = [.inr 0] ∧ ∀ l, k (some (nI (tc n f))) (mkM (nI n) j (zF z l))
set_option maxHeartbeats 4000000 in
set_option maxRecDepth 20000 in
theorem c_M_triangles : m_Con cls 1 TB y_M_triangles b_M_triangles 1 (some .int) 0 2 tM_triangles := by
  refine m_con (code := k_M_triangles) (fld := f_M) (fpt := p_M) (kon := []) (call := [(67, false, 2, tM_walk)]) (C := R_M) (T := T_M) (N := 13) (by decide) (Or.inl ⟨rfl, rfl⟩) ok_M_triangles tb_M (fun l D cA ad => m_calls ?_) ?_ ?_
  · exact List.forall_mem_cons.mpr ⟨o_M67 ⟨Nat.le_of_ble_eq_true rfl, Nat.le_of_ble_eq_true rfl⟩, fun _ h => absurd h List.not_mem_nil⟩
  · rintro as h k ⟨n, f, j, z, rfl, hj, hG, rfl, hk⟩
    exact Nat.le_of_ble_eq_true rfl
  · rintro as h k ⟨n, f, j, z, rfl, hj, hG, rfl, hk⟩ V hV
    have h1 := tc_le hG
    refine hV 60 0 _ _ _ ⟨n, f, j, z, -1, rfl, hj, hG, rfl, ?_⟩
    rw [wk_m1 _ _ _ (by rw [tls_len]; omega), tls_len, Nat.zero_add]
    exact hk _
def tM_triangle : mT := fun as h k => ∃ n f j z x p, h = mkM (nI n) j z ∧ (∀ v, v < n → j v = nI (f v)) ∧ Gr n f ∧ as = [.inr 0, .inl x, .inl p] ∧ ∀ l, k (some (fnd x p 0 (tls n f))) (mkM (nI n) j (zF z l))
set_option maxHeartbeats 4000000 in
set_option maxRecDepth 20000 in
theorem c_M_triangle : m_Con cls 1 TB y_M_triangle b_M_triangle 3 (some .int) 0 2 tM_triangle := by
  refine m_con (code := k_M_triangle) (fld := f_M) (fpt := p_M) (kon := []) (call := [(67, false, 2, tM_walk)]) (C := R_M) (T := T_M) (N := 13) (by decide) (Or.inl ⟨rfl, rfl⟩) ok_M_triangle tb_M (fun l D cA ad => m_calls ?_) ?_ ?_
  · exact List.forall_mem_cons.mpr ⟨o_M67 ⟨Nat.le_of_ble_eq_true rfl, Nat.le_of_ble_eq_true rfl⟩, fun _ h => absurd h List.not_mem_nil⟩
  · rintro as h k ⟨n, f, j, z, x, p, rfl, hj, hG, rfl, hk⟩
    exact Nat.le_of_ble_eq_true rfl
  · rintro as h k ⟨n, f, j, z, x, p, rfl, hj, hG, rfl, hk⟩ V hV
    have h1 := tc_le hG
    have hl := tls_len n f
    refine hV 60 0 _ _ _ (And.intro (fun c => ?_) (fun c => And.intro (fun c2 => ?_) (fun c2 => ?_)))
    · have c : x < 0 := c
      rw [fnd_neg c _ _ (by omega)] at hk
      exact hk (z3 z)
    · have c : ¬ x < 0 := c
      have c2 : (1000 : Int32) < x := c2
      obtain ⟨I, hI, rfl⟩ := nI_of c
      have hI2 : 1000 < I := (nI_ltI (a := 1000) (by omega) hI).mp c2
      have h2 := (fnd_at (p := p) (tls n f) 0 I (by omega) (by omega)).2 (List.getElem?_eq_none (by omega))
      rw [Nat.zero_add] at h2
      rw [h2] at hk
      exact hk (z3 z)
    · have c : ¬ x < 0 := c
      have c2 : ¬ (1000 : Int32) < x := c2
      obtain ⟨I, hI, rfl⟩ := nI_of c
      have hI2 : I ≤ 1000 := Nat.le_of_not_lt (fun z => c2 ((nI_ltI (a := 1000) (by omega) hI).mpr z))
      refine nm_r (nI_1 I) ⟨n, f, j, z, _, rfl, hj, hG, rfl, ?_⟩
      obtain ⟨w1, w2⟩ := wk_at (z3 z) (tls n f) 0 I (by omega) (by omega)
      obtain ⟨f1, f2⟩ := fnd_at (p := p) (tls n f) 0 I (by omega) (by omega)
      rw [Nat.zero_add] at w1 w2 f1 f2
      cases hq : (tls n f)[I]? with
      | none =>
        have hlen : (tls n f).length ≤ I := List.getElem?_eq_none_iff.mp hq
        rw [f2 hq] at hk
        have e := w2 hq
        generalize wk (nI (I + 1)) 0 (z3 z) (tls n f) = W at e
        rw [e]
        refine br_gt (a := 0 + (tls n f).length) (b := I) (by omega) (by omega) (fun c => absurd c (by omega)) (fun _ => hk W.2)
      | some q =>
        rw [f1 q hq] at hk
        rw [w1 q hq]
        refine br_gt (a := I + 1) (b := I) (by omega) (by omega) (fun _ => And.intro (fun c3 => And.intro (fun c4 => And.intro (fun c5 => ?_) (fun c5 => ?_)) (fun c4 => ?_)) (fun c3 => ?_)) (fun c => absurd c (by omega))
        · have c3 : ¬ p = 0 := c3
          have c4 : ¬ p = 1 := c4
          have c5 : ¬ p = 2 := c5
          rw [crn, if_neg c3, if_neg c4, if_neg c5] at hk
          exact hk (q3 q)
        · have c3 : ¬ p = 0 := c3
          have c4 : ¬ p = 1 := c4
          have c5 : p = 2 := c5
          rw [crn, if_neg c3, if_neg c4, if_pos c5] at hk
          exact hk (q3 q)
        · have c3 : ¬ p = 0 := c3
          have c4 : p = 1 := c4
          rw [crn, if_neg c3, if_pos c4] at hk
          exact hk (q3 q)
        · have c3 : p = 0 := c3
          rw [crn, if_pos c3] at hk
          exact hk (q3 q)
def tM_isPart : mT := fun as h k => ∃ x, as = [.inl x] ∧ k (some (b2i (isP x))) h
set_option maxHeartbeats 4000000 in
set_option maxRecDepth 20000 in
theorem c_M_isPart : m_Con cls 1 TB y_M_isPart b_M_isPart 1 (some .boolean) 1 0 tM_isPart := by
  refine m_con (code := k_M_isPart) (fld := f_M) (fpt := p_M) (kon := []) (call := []) (C := R_M) (T := T_M) (N := 13) (by decide) (Or.inr (Or.inl ⟨rfl, rfl⟩)) ok_M_isPart tb_M (fun l D cA ad => m_calls ?_) ?_ ?_
  · exact fun _ h => absurd h List.not_mem_nil
  · rintro as h k ⟨x, rfl, hk⟩
    exact Nat.le_of_ble_eq_true rfl
  · rintro as h k ⟨x, rfl, hk⟩ V hV
    refine hV 60 0 _ _ _ (And.intro (fun c => And.intro (Or.inr rfl) ?_) (fun c => And.intro (fun c2 => And.intro (Or.inl rfl) ?_) (fun c2 => And.intro (Or.inr rfl) ?_)))
    · have c : x = 0 := c
      have e : isP x = true := by simp [isP, c]
      rw [e] at hk; exact hk
    · have c : ¬ x = 0 := c
      have c2 : ¬ x = 1 := c2
      have e : isP x = false := by simp [isP, c, c2]
      rw [e] at hk; exact hk
    · have c2 : x = 1 := c2
      have e : isP x = true := by simp [isP, c2]
      rw [e] at hk; exact hk
theorem o_M77 {D : va_G} {cA : ClassId} {ad : Nat → Nat} {l : Launch} {R : Room} (hR : 0 + 1 ≤ R.frames ∧ 32 * (0 + 1) ≤ R.locals) : m_OK D cls cA 1 ad TB l "DegreeCoresModel" R 77 true 1 tM_isPart :=
  m_okS c_M_isPart (by decide) tb_good w_M77 ⟨by decide +kernel, by decide +kernel, by decide +kernel⟩ (by decide) hR
def tM_part : mT := fun as h k => ∃ av A B p, as = [.inl av, .inl (nI B), .inl p] ∧ (if 0 ≤ av then av else 0 - av) = nI A ∧ A < 2 ^ 25 ∧ 0 < B ∧ B < 2 ^ 25 ∧ k (some (shr av A B p)) h
def k2_M_part : List (Nat × mE) := [(0, .iload_n 0, 1, 0, 0, false), (1, .ifCond .ge 8, 4, 9, 0, false), (4, .iload_n 0, 5, 0, 0, false), (5, .ineg, 6, 0, 0, false), (6, .goto 4, 9, 10, 0, false), (9, .iload_n 0, 10, 0, 0, false), (10, .istore_n 3, 11, 0, 0, false), (11, .iload_n 1, 12, 0, 0, true), (12, .ifCond .ge 8, 15, 20, 0, false), (15, .iload_n 1, 16, 0, 0, false), (16, .ineg, 17, 0, 0, false), (17, .goto 4, 20, 21, 0, false), (20, .iload_n 1, 21, 0, 0, false), (21, .istore 4, 23, 0, 0, false), (23, .iload 4, 25, 0, 0, true), (25, .ifCond .eq 19, 28, 44, 0, false), (28, .iload_n 3, 29, 0, 0, false), (29, .iload 4, 31, 0, 0, false), (31, .irem, 32, 0, 0, false), (32, .istore 5, 34, 0, 0, false), (34, .iload 4, 36, 0, 0, false), (36, .istore_n 3, 37, 0, 0, false), (37, .iload 5, 39, 0, 0, false), (39, .istore 4, 41, 0, 0, false), (41, .goto (-18), 44, 23, 0, false), (44, .iload_n 1, 45, 0, 0, false), (45, .ifCond .ge 7, 48, 52, 0, false), (48, .iconst (-1), 49, 0, (-1), false), (49, .goto 4, 52, 53, 0, false), (52, .iconst 1, 53, 0, 1, false), (53, .istore 5, 55, 0, 0, false), (55, .iload 5, 57, 0, 0, false), (57, .iload_n 2, 58, 0, 0, false), (58, .ifCond .ne 7, 61, 65, 0, false), (61, .iload_n 0, 62, 0, 0, false), (62, .goto 4, 65, 66, 0, false), (65, .iload_n 1, 66, 0, 0, false), (66, .imul, 67, 0, 0, false), (67, .iload_n 3, 68, 0, 0, false), (68, .idiv, 69, 0, 0, false), (69, .ireturn, 70, 0, 0, false)]
theorem ok2_M_part : k2_M_part.all (m_ok b_M_part 6) = true := by decide +kernel
set_option maxHeartbeats 4000000 in
set_option maxRecDepth 20000 in
theorem c_M_part : m_Con cls 1 TB y_M_part b_M_part 6 (some .int) 0 0 tM_part := by
  refine m_con (code := k2_M_part) (fld := f_M) (fpt := p_M) (kon := []) (call := []) (C := R_M) (T := T_M) (N := 13) (by decide) (Or.inl ⟨rfl, rfl⟩) ok2_M_part tb_M (fun l D cA ad => m_calls ?_) ?_ ?_
  · exact fun _ h => absurd h List.not_mem_nil
  · rintro as h k ⟨av, A, B, p, rfl, hA, hA2, hB0, hB, hk⟩
    exact Nat.le_of_ble_eq_true rfl
  · rintro as h k ⟨av, A, B, p, rfl, hA, hA2, hB0, hB, hk⟩ V hV
    have hg : 0 < Nat.gcd A B := Nat.gcd_pos_of_pos_right _ hB0
    have hgl : Nat.gcd A B ≤ B := Nat.gcd_le_right _ hB0
    have loop : ∀ m x y (z5 : Option mV), x < 2 ^ 25 → y < 2 ^ 25 → eu m (x, y) = (Nat.gcd A B, 0) → V (23, [some (.inl av), some (.inl (nI B)), some (.inl p), some (.inl (nI x)), some (.inl (nI y)), z5], [], h) := by
      have fin : ∀ (z5 : Option mV), V (23, [some (.inl av), some (.inl (nI B)), some (.inl p), some (.inl (nI (Nat.gcd A B))), some (.inl (nI 0)), z5], [], h) := by
        intro z5
        rw [shr, if_neg (by omega)] at hk
        refine hV 60 23 _ _ _ (br_e (a := 0) (b := 0) (by omega) (by omega) (fun _ => And.intro (fun _ => And.intro (fun c3 => nm_r (Int32.one_mul _) (And.intro (nI_ne0 hg (by omega)) (nm_e ?_))) (fun c3 => nm_r (Int32.one_mul _) (And.intro (nI_ne0 hg (by omega)) (nm_e ?_)))) (fun c => absurd (nI_pos' (by omega)) c)) (fun c => absurd rfl c))
        · have c3 : ¬ p = 0 := c3
          rw [if_neg c3] at hk; exact hk
        · have c3 : p = 0 := c3
          rw [if_pos c3] at hk; exact hk
      intro m
      induction m with
      | zero =>
        intro x y z5 hx hy he
        rw [eu] at he
        have e1 : x = Nat.gcd A B := congrArg Prod.fst he
        have e2 : y = 0 := congrArg Prod.snd he
        rw [e1, e2]
        exact fin z5
      | succ m ih =>
        intro x y z5 hx hy he
        by_cases c : y = 0
        · rw [eu, if_pos c] at he
          have e1 : x = Nat.gcd A B := congrArg Prod.fst he
          rw [e1, c]
          exact fin z5
        · rw [eu, if_neg c] at he
          have hm : x % y < y := Nat.mod_lt _ (by omega)
          refine hV 60 23 _ _ _ (br_e (a := y) (b := 0) (by omega) (by omega) (fun c2 => absurd c2 c) (fun _ => And.intro (nI_ne0 (by omega) (by omega)) (nm_r (pk_rem (by omega) (by omega) (by omega)) ?_)))
          exact ih y (x % y) _ hy (by omega) he
    have start : V (11, [some (.inl av), some (.inl (nI B)), some (.inl p), some (.inl (nI A)), none, none], [], h) := by
      refine hV 60 11 _ _ _ (And.intro (fun _ => ?_) (fun c => absurd (nI_pos' (by omega)) c))
      exact loop 50 A B none hA2 hB (eu_end 25 50 A B hB (by omega))
    refine hV 60 0 _ _ _ (And.intro (fun c => ?_) (fun c => nm_r (e' := nI A) ?_ start))
    · have c : 0 ≤ av := c
      rw [if_pos c] at hA
      rw [← hA] at start
      exact start
    · have c : ¬ 0 ≤ av := c
      rw [if_neg c] at hA
      rw [← hA, Int32.zero_sub]
theorem o_M80 {D : va_G} {cA : ClassId} {ad : Nat → Nat} {l : Launch} {R : Room} (hR : 0 + 1 ≤ R.frames ∧ 32 * (0 + 1) ≤ R.locals) : m_OK D cls cA 1 ad TB l "DegreeCoresModel" R 80 true 3 tM_part :=
  m_okS c_M_part (by decide) tb_good w_M80 ⟨by decide +kernel, by decide +kernel, by decide +kernel⟩ (by decide) hR
def tM_cluster : mT := fun as h k => ∃ n f x p, hM h n f ∧ as = [.inr 0, .inl x, .inl p] ∧ k (some (aClu n f x p)) h
theorem prs_0 : ∀ c, c < 2 → prs c = 0 := by decide
theorem prs_p : ∀ c, c ≤ 12 → 2 ≤ c → 0 < prs c := by decide
set_option maxHeartbeats 4000000 in
set_option maxRecDepth 20000 in
theorem c_M_cluster : m_Con cls 1 TB y_M_cluster b_M_cluster 6 (some .int) 0 1 tM_cluster := by
  refine m_con (code := k_M_cluster) (fld := f_M) (fpt := p_M) (kon := []) (call := [(36, false, 2, tM_isNode), (77, true, 1, tM_isPart), (44, true, 1, tM_count), (55, false, 3, tM_areJoined), (80, true, 3, tM_part)]) (C := R_M) (T := T_M) (N := 13) (by decide) (Or.inl ⟨rfl, rfl⟩) ok_M_cluster tb_M (fun l D cA ad => m_calls ?_) ?_ ?_
  · exact List.forall_mem_cons.mpr ⟨o_M36 ⟨Nat.le_of_ble_eq_true rfl, Nat.le_of_ble_eq_true rfl⟩, List.forall_mem_cons.mpr ⟨o_M77 ⟨Nat.le_of_ble_eq_true rfl, Nat.le_of_ble_eq_true rfl⟩, List.forall_mem_cons.mpr ⟨o_M44 ⟨Nat.le_of_ble_eq_true rfl, Nat.le_of_ble_eq_true rfl⟩, List.forall_mem_cons.mpr ⟨o_M55 ⟨Nat.le_of_ble_eq_true rfl, Nat.le_of_ble_eq_true rfl⟩, List.forall_mem_cons.mpr ⟨o_M80 ⟨Nat.le_of_ble_eq_true rfl, Nat.le_of_ble_eq_true rfl⟩, fun _ h => absurd h List.not_mem_nil⟩⟩⟩⟩⟩
  · rintro as h k ⟨n, f, x, p, ⟨j, z, rfl, hj, hG⟩, rfl, hk⟩
    exact Nat.le_of_ble_eq_true rfl
  · rintro as h k ⟨n, f, x, p, ⟨j, z, rfl, hj, hG⟩, rfl, hk⟩ V hV
    have hh : hM (mkM (nI n) j z) n f := ⟨j, z, rfl, hj, hG⟩
    have hn := hG.1
    refine hV 60 0 _ _ _ ⟨n, f, x, hh, rfl, br_ne (fun c => ⟨p, rfl, br_ne (fun c2 => ?_) (fun c2 => ?_)⟩) (fun c => ?_)⟩
    · obtain ⟨v, hv, rfl⟩ := isN_t hn c
      rw [aClu, c, c2, clamp12 hv hn] at hk
      have h1 := e1_72 hG (f v)
      have hp12 : pop (f v) ≤ 12 := by have := pop_le (hG.2.1 v hv) hn; omega
      have h2 := prs_66 (pop (f v)) hp12
      have loop : ∀ m u acc, u + m = n → acc = e2 u f (f v) → V (36, [some (.inr 0), some (.inl (nI v)), some (.inl p), some (.inl (nI (pop (f v)))), some (.inl (nI acc)), some (.inl (nI u))], [], mkM (nI n) j z) := by
        intro m
        induction m with
        | zero =>
          intro u acc hu hacc
          have e : u = n := by omega
          subst e
          have hb := e2_lt hG (f v) u (Nat.le_refl _)
          refine hV 60 36 _ _ _ (br_ge (a := u) (b := u) (by omega) (by omega) (fun _ => br_ge (a := pop (f v)) (b := 2) (by omega) (by omega) (fun c3 => And.intro (by decide) (nm_r (pk_div (d := 2) (by omega) (by decide) (by decide)) (nm_e (nm_e (And.intro (by decide) (nm_r (prs_I _ hp12) ?_)))))) (fun c3 => ?_)) (fun c => absurd c (by omega)))
          · rw [hacc, e1_half hG]
            have := prs_p _ hp12 c3
            exact ⟨_, _, _, p, rfl, abs_n (by omega), by omega, by omega, by omega, hk⟩
          · rw [prs_0 _ c3] at hk
            exact hk
        | succ m ih =>
          intro u acc hu hacc
          refine hV 60 36 _ _ _ (br_ge (a := u) (b := n) (by omega) (by omega) (fun c => absurd c (by omega)) (fun _ => ⟨n, f, v, u, hh, rfl, hv, by omega, br_eq (fun c3 => nm_r (nI_add _ 0) (nm_r (nI_1 u) ?_)) (fun c3 => And.intro (vp_in_nI (by omega) (by omega)) (nm_r (by rw [clamp12 (v := u) (n := n) (by omega) hn, hj u (by omega)]) (And.intro (vp_in_nI (by omega) (by omega)) (nm_r (by rw [clamp12 hv hn, hj v hv]) (nm_r (nx_and _ _) ⟨_, rfl, Nat.lt_of_le_of_lt Nat.and_le_left (g31 hG (by omega)), nm_r (nI_add _ _) (nm_r (nI_1 u) ?_)⟩)))))⟩))
          · exact ih (u + 1) (acc + 0) (by omega) (by rw [hacc]; show _ = sm _ u + _; simp only [c3]; rfl)
          · exact ih (u + 1) _ (by omega) (by rw [hacc]; show _ = sm _ u + _; simp only [c3]; rfl)
      exact And.intro (vp_in_nI (by omega) (by omega)) (nm_r (by rw [clamp12 hv hn, hj v hv]) ⟨_, rfl, g31 hG hv, loop n 0 0 (by omega) rfl⟩)
    · rw [aClu, c, c2] at hk; exact hk
    · rw [aClu, c] at hk; exact hk
def tM_closed : mT := fun as h k => ∃ n f j z p, h = mkM (nI n) j z ∧ (∀ v, v < n → j v = nI (f v)) ∧ Gr n f ∧ as = [.inr 0, .inl p] ∧ ∀ l, k (some (aClo n f p)) (mkM (nI n) j (zF z l))
set_option maxHeartbeats 4000000 in
set_option maxRecDepth 20000 in
theorem c_M_closed : m_Con cls 1 TB y_M_closed b_M_closed 5 (some .int) 0 2 tM_closed := by
  refine m_con (code := k_M_closed) (fld := f_M) (fpt := p_M) (kon := []) (call := [(77, true, 1, tM_isPart), (44, true, 1, tM_count), (67, false, 2, tM_walk), (80, true, 3, tM_part)]) (C := R_M) (T := T_M) (N := 13) (by decide) (Or.inl ⟨rfl, rfl⟩) ok_M_closed tb_M (fun l D cA ad => m_calls ?_) ?_ ?_
  · exact List.forall_mem_cons.mpr ⟨o_M77 ⟨Nat.le_of_ble_eq_true rfl, Nat.le_of_ble_eq_true rfl⟩, List.forall_mem_cons.mpr ⟨o_M44 ⟨Nat.le_of_ble_eq_true rfl, Nat.le_of_ble_eq_true rfl⟩, List.forall_mem_cons.mpr ⟨o_M67 ⟨Nat.le_of_ble_eq_true rfl, Nat.le_of_ble_eq_true rfl⟩, List.forall_mem_cons.mpr ⟨o_M80 ⟨Nat.le_of_ble_eq_true rfl, Nat.le_of_ble_eq_true rfl⟩, fun _ h => absurd h List.not_mem_nil⟩⟩⟩⟩
  · rintro as h k ⟨n, f, j, z, p, rfl, hj, hG, rfl, hk⟩
    exact Nat.le_of_ble_eq_true rfl
  · rintro as h k ⟨n, f, j, z, p, rfl, hj, hG, rfl, hk⟩ V hV
    have hn := hG.1
    refine hV 60 0 _ _ _ ⟨p, rfl, br_ne (fun c => ?_) (fun c => ?_)⟩
    · rw [aClo, c] at hk
      have loop : ∀ m v acc (y : Option mV), v + m = n → acc = pth v f → V (14, [some (.inr 0), some (.inl p), some (.inl (nI acc)), some (.inl (nI v)), y], [], mkM (nI n) j z) := by
        intro m
        induction m with
        | zero =>
          intro v acc y hv hacc
          have e : v = n := by omega
          subst e
          have h1 := tc_le hG
          have h2 := pth_le hG (Nat.le_refl v)
          refine hV 60 14 _ _ _ (br_ge (a := v) (b := v) (by omega) (by omega) (fun _ => br_n (a := acc) (b := 0) (by omega) (by omega) (fun c2 => ⟨v, f, j, z, -1, rfl, hj, hG, rfl, ?_⟩) (fun c2 => ?_)) (fun c => absurd c (by omega)))
          · rw [wk_m1 _ _ _ (by rw [tls_len]; omega), tls_len, Nat.zero_add]
            refine nm_r (pk_mul 3 (tc v f)) ⟨_, _, acc, p, rfl, abs_n (by omega), by omega, by omega, by omega, ?_⟩
            rw [hacc]
            exact hk _
          · have e : pth v f = 0 := by omega
            rw [e] at hk
            exact hk (z3 z)
        | succ m ih =>
          intro v acc y hv hacc
          have hp12 : pop (f v) ≤ 12 := by have := pop_le (hG.2.1 v (by omega)) hn; omega
          refine hV 60 14 _ _ _ (br_ge (a := v) (b := n) (by omega) (by omega) (fun c => absurd c (by omega)) (fun _ => And.intro (vp_in_nI (by omega) (by omega)) (nm_r (by rw [clamp12 (v := v) (n := n) (by omega) hn, hj v (by omega)]) ⟨_, rfl, g31 hG (by omega), nm_e (nm_e (And.intro (by decide) (nm_r (prs_I _ hp12) (nm_r (nI_add _ _) (nm_r (nI_1 v) ?_)))))⟩)))
          exact ih (v + 1) _ _ (by omega) (by rw [hacc]; rfl)
      exact loop n 0 0 none (by omega) rfl
    · rw [aClo, c] at hk
      exact hk (z3 z)
