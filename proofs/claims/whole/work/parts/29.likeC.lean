/-! likeness and the rich: pure, then of the object -/
theorem cs_step (α β q s m x y : Int) : α * α * (q + (x * x + y * y)) - 2 * (α * β) * (s + (x + y)) + 2 * (m + 1) * (β * β) = (α * α * q - 2 * (α * β) * s + 2 * m * (β * β)) + (α * x - β) * (α * x - β) + (α * y - β) * (α * y - β) := by grind
theorem sq_nn (a : Int) : 0 ≤ a * a := by
  rcases Int.le_total 0 a with h | h
  · exact Int.mul_nonneg h h
  · exact Int.mul_nonneg_of_nonpos_of_nonpos h h
abbrev Lk : Type := Nat × Nat × Nat × Nat
def lks (f : Nat → Nat) (a b : Nat) (c : Lk) : Lk := bif (f a).testBit b then (c.1 + 1, c.2.1 + pop (f a) * pop (f b), c.2.2.1 + (pop (f a) + pop (f b)), c.2.2.2 + (pop (f a) * pop (f a) + pop (f b) * pop (f b))) else c
def lk2 (f : Nat → Nat) (a : Nat) : Nat → Nat → Lk → Lk
  | 0, _, c => c
  | m + 1, b, c => lk2 f a m (b + 1) (lks f a b c)
def lk1 (f : Nat → Nat) (n : Nat) : Nat → Nat → Lk → Lk
  | 0, _, c => c
  | m + 1, a, c => lk1 f n m (a + 1) (lk2 f a (n - (a + 1)) (a + 1) c)
def LK (n : Nat) (f : Nat → Nat) : Lk := lk1 f n n 0 (0, 0, 0, 0)
def okL (t : Nat) (c : Lk) : Prop := c.1 ≤ t ∧ c.2.1 ≤ 144 * c.1 ∧ c.2.2.1 ≤ 24 * c.1 ∧ c.2.2.2 ≤ 288 * c.1 ∧ ∀ α β : Int, 0 ≤ α * α * (c.2.2.2 : Int) - 2 * (α * β) * (c.2.2.1 : Int) + 2 * (c.1 : Int) * (β * β)
theorem lks_ok {f : Nat → Nat} {a b t : Nat} {c : Lk} (ha : pop (f a) ≤ 12) (hb : pop (f b) ≤ 12) (h : okL t c) : okL (t + 1) (lks f a b c) := by
  unfold lks
  cases (f a).testBit b with
  | false => exact ⟨Nat.le_succ_of_le h.1, h.2⟩
  | true =>
    obtain ⟨h1, h2, h3, h4, h5⟩ := h
    have x1 : pop (f a) * pop (f b) ≤ 12 * 12 := Nat.mul_le_mul ha hb
    have x2 : pop (f a) * pop (f a) ≤ 12 * 12 := Nat.mul_le_mul ha ha
    have x3 : pop (f b) * pop (f b) ≤ 12 * 12 := Nat.mul_le_mul hb hb
    refine ⟨by show c.1 + 1 ≤ t + 1; omega, by show c.2.1 + _ ≤ 144 * (c.1 + 1); omega, by show c.2.2.1 + _ ≤ 24 * (c.1 + 1); omega, by show c.2.2.2 + _ ≤ 288 * (c.1 + 1); omega, fun α β => ?_⟩
    show 0 ≤ α * α * ((c.2.2.2 + (pop (f a) * pop (f a) + pop (f b) * pop (f b)) : Nat) : Int) - 2 * (α * β) * ((c.2.2.1 + (pop (f a) + pop (f b)) : Nat) : Int) + 2 * ((c.1 + 1 : Nat) : Int) * (β * β)
    push_cast
    rw [cs_step]
    have y1 := h5 α β
    have y2 := sq_nn (α * (pop (f a) : Int) - β)
    have y3 := sq_nn (α * (pop (f b) : Int) - β)
    omega
theorem lk2_ok {f : Nat → Nat} {n a : Nat} (hp : ∀ v, v < n → pop (f v) ≤ 12) (ha : a < n) (m : Nat) : ∀ b t c, b + m = n → okL t c → okL (t + m) (lk2 f a m b c) := by
  induction m with
  | zero => intro b t c _ h; exact h
  | succ m ih =>
    intro b t c hb h
    have := ih (b + 1) (t + 1) (lks f a b c) (by omega) (lks_ok (hp a ha) (hp b (by omega)) h)
    rw [show t + (m + 1) = t + 1 + m by omega]
    exact this
theorem okL_mono {t t' : Nat} {c : Lk} (h : okL t c) (ht : t ≤ t') : okL t' c := ⟨Nat.le_trans h.1 ht, h.2⟩
theorem lk1_ok {f : Nat → Nat} {n : Nat} (hp : ∀ v, v < n → pop (f v) ≤ 12) (m : Nat) : ∀ a t c, a + m = n → okL t c → okL (t + m * n) (lk1 f n m a c) := by
  induction m with
  | zero => intro a t c _ h; rw [Nat.zero_mul]; exact h
  | succ m ih =>
    intro a t c ha h
    have h1 := lk2_ok hp (by omega : a < n) (n - (a + 1)) (a + 1) t c (by omega) h
    have h2 := ih (a + 1) _ _ (by omega) h1
    refine okL_mono h2 ?_
    rw [Nat.succ_mul]
    omega
theorem LK_ok {n : Nat} {f : Nat → Nat} (hG : Gr n f) : okL 144 (LK n f) := by
  have hn := hG.1
  have := lk1_ok (f := f) (n := n) (fun v hv => by have := pop_le (hG.2.1 v hv) hn; omega) n 0 0 (0, 0, 0, 0) (by omega) ⟨Nat.le_refl _, Nat.zero_le _, Nat.zero_le _, Nat.zero_le _, fun α β => by simp⟩
  refine okL_mono this ?_
  have : n * n ≤ 12 * 12 := Nat.mul_le_mul hn hn
  omega
theorem LK_cs {t : Nat} {c : Lk} (h : okL t c) : c.2.2.1 * c.2.2.1 ≤ 2 * c.1 * c.2.2.2 := by
  obtain ⟨-, -, h3, -, h5⟩ := h
  rcases Nat.eq_zero_or_pos c.1 with h0 | h0
  · have : c.2.2.1 = 0 := by omega
    rw [this, Nat.zero_mul]
    exact Nat.zero_le _
  · have h6 := h5 (2 * (c.1 : Int)) (c.2.2.1 : Int)
    have h7 : (2 * (c.1 : Int)) * (2 * (c.1 : Int)) * (c.2.2.2 : Int) - 2 * ((2 * (c.1 : Int)) * (c.2.2.1 : Int)) * (c.2.2.1 : Int) + 2 * (c.1 : Int) * ((c.2.2.1 : Int) * (c.2.2.1 : Int)) = (2 * (c.1 : Int)) * (2 * (c.1 : Int) * (c.2.2.2 : Int) - (c.2.2.1 : Int) * (c.2.2.1 : Int)) := by grind
    rw [h7] at h6
    have h8 : 0 ≤ 2 * (c.1 : Int) * (c.2.2.2 : Int) - (c.2.2.1 : Int) * (c.2.2.1 : Int) := Int.nonneg_of_mul_nonneg_right h6 (by omega)
    have h9 : ((c.2.2.1 * c.2.2.1 : Nat) : Int) ≤ ((2 * c.1 * c.2.2.2 : Nat) : Int) := by push_cast; omega
    exact Int.ofNat_le.mp h9
theorem LK_b {c : Lk} (h : okL 144 c) : 4 * c.1 * c.2.1 < 2 ^ 25 ∧ c.2.2.1 * c.2.2.1 < 2 ^ 25 ∧ 2 * c.1 * c.2.2.2 < 2 ^ 25 := by
  obtain ⟨h1, h2, h3, h4, -⟩ := h
  have a1 : 4 * c.1 ≤ 576 := by omega
  have a2 : c.2.1 ≤ 20736 := by omega
  have a3 : c.2.2.1 ≤ 3456 := by omega
  have a4 : c.2.2.2 ≤ 41472 := by omega
  have a5 : 2 * c.1 ≤ 288 := by omega
  have b1 := Nat.mul_le_mul a1 a2
  have b2 := Nat.mul_le_mul a3 a3
  have b3 := Nat.mul_le_mul a5 a4
  omega
theorem abs_d {a b : Nat} (ha : a < 2 ^ 25) (hb : b < 2 ^ 25) : (if 0 ≤ nI a - nI b then nI a - nI b else 0 - (nI a - nI b)) = nI ((a - b) + (b - a)) := by
  rcases Nat.lt_or_ge a b with h | h
  · have h1 : ¬ 0 ≤ nI a - nI b := Int32.not_le.mpr (pk_sneg (by omega) h)
    rw [if_neg h1]
    have e : 0 - (nI a - nI b) = nI b - nI a := by
      rw [Int32.sub_eq_add_neg, Int32.zero_add, Int32.neg_sub]
    rw [e, pk_sub (by omega)]
    congr 1
    omega
  · rw [pk_sub h, if_pos (nI_pos' (by omega))]
    congr 1
    omega
def aLik (n : Nat) (f : Nat → Nat) (p : Int32) : Int32 := bif isP p then shr (nI (4 * (LK n f).1 * (LK n f).2.1) - nI ((LK n f).2.2.1 * (LK n f).2.2.1)) ((4 * (LK n f).1 * (LK n f).2.1 - (LK n f).2.2.1 * (LK n f).2.2.1) + ((LK n f).2.2.1 * (LK n f).2.2.1 - 4 * (LK n f).1 * (LK n f).2.1)) (2 * (LK n f).1 * (LK n f).2.2.2 - (LK n f).2.2.1 * (LK n f).2.2.1) p else -2
def tC_likeness : mT := fun as h k => ∃ n f p, hC h n f ∧ as = [.inr 0, .inl p] ∧ k (some (aLik n f p)) h
set_option maxHeartbeats 4000000 in
set_option maxRecDepth 20000 in
theorem c_C_likeness : m_Con cls 0 TB y_C_likeness b_C_likeness 10 (some .int) 0 2 tC_likeness := by
  refine m_con (code := k_C_likeness) (fld := f_C) (fpt := p_C) (kon := []) (call := [(101, true, 1, tC_isPart), (36, true, 2, tC_has), (43, true, 1, t_bitCount), (110, true, 3, tC_share)]) (C := R_C) (T := T_C) (N := 7) (by decide) (Or.inl ⟨rfl, rfl⟩) ok_C_likeness tb_C (fun l D cA ad => m_calls ?_) ?_ ?_
  · exact List.forall_mem_cons.mpr ⟨o_C101 ⟨Nat.le_of_ble_eq_true rfl, Nat.le_of_ble_eq_true rfl⟩, List.forall_mem_cons.mpr ⟨o_C36 ⟨Nat.le_of_ble_eq_true rfl, Nat.le_of_ble_eq_true rfl⟩, List.forall_mem_cons.mpr ⟨o_C43 ⟨Nat.le_of_ble_eq_true rfl, Nat.le_of_ble_eq_true rfl⟩, List.forall_mem_cons.mpr ⟨o_C110 ⟨Nat.le_of_ble_eq_true rfl, Nat.le_of_ble_eq_true rfl⟩, fun _ h => absurd h List.not_mem_nil⟩⟩⟩⟩
  · rintro as h k ⟨n, f, p, ⟨j, r, q, t, d, w, rfl, hj, hG⟩, rfl, hk⟩
    exact Nat.le_of_ble_eq_true rfl
  · rintro as h k ⟨n, f, p, ⟨j, r, q, t, d, w, rfl, hj, hG⟩, rfl, hk⟩ V hV
    have hn := hG.1
    refine hV 60 0 _ _ _ ⟨p, rfl, br_ne (fun c => ?_) (fun c => ?_)⟩
    · rw [aLik, c] at hk
      generalize hans : LK n f = R at hk
      have hR : okL 144 R := by rw [← hans]; exact LK_ok hG
      have inner : ∀ m a b (c : Lk) (y8 y9 : Option mV), a < n → b + m = n →
          (∀ (c' : Lk) (y7 y8 y9 : Option mV), c' = lk2 f a m b c → V (23, [some (.inr 0), some (.inl p), some (.inl (nI c'.1)), some (.inl (nI c'.2.1)), some (.inl (nI c'.2.2.1)), some (.inl (nI c'.2.2.2)), some (.inl (nI (a + 1))), y7, y8, y9], [], mkC j (nI n) r q t d w)) →
          V (38, [some (.inr 0), some (.inl p), some (.inl (nI c.1)), some (.inl (nI c.2.1)), some (.inl (nI c.2.2.1)), some (.inl (nI c.2.2.2)), some (.inl (nI a)), some (.inl (nI b)), y8, y9], [], mkC j (nI n) r q t d w) := by
        intro m
        induction m with
        | zero =>
          intro a b c y8 y9 ha hb hcont
          exact hV 80 38 _ _ _ (br_ge (a := b) (b := n) (by omega) (by omega) (fun _ => nm_r (nI_1 a) (hcont c _ _ _ rfl)) (fun c => absurd c (by omega)))
        | succ m ih =>
          intro a b c y8 y9 ha hb hcont
          have ga := g31 hG ha
          have gb := g31 hG (v := b) (by omega)
          refine hV 80 38 _ _ _ (br_ge (a := b) (b := n) (by omega) (by omega) (fun c => absurd c (by omega)) (fun _ => And.intro (vp_in_nI (by omega) (by omega)) (nm_r (by rw [clamp12 ha hn, hj a ha]) ⟨f a, b, rfl, by omega, by omega, br_eq (fun c1 => nm_r (nI_1 b) ?_) (fun c1 => ?_)⟩)))
          · refine ih a (b + 1) c _ _ ha (by omega) (fun c' y7 y8 y9 hc' => hcont c' y7 y8 y9 ?_)
            rw [hc', lk2, lks, c1]
            rfl
          · refine And.intro (vp_in_nI (by omega) (by omega)) (nm_r (by rw [clamp12 ha hn, hj a ha]) ⟨_, rfl, ?_⟩)
            rw [bc_n ga]
            refine And.intro (vp_in_nI (by omega) (by omega)) (nm_r (by rw [clamp12 (v := b) (n := n) (by omega) hn, hj b (by omega)]) ⟨_, rfl, ?_⟩)
            rw [bc_n gb]
            refine nm_r (nI_1 _) (nm_r (pk_mul _ _) (nm_r (nI_add _ _) (nm_r (nI_add _ _) (nm_r (nI_add _ _) (nm_r (pk_mul _ _) (nm_r (pk_mul _ _) (nm_r (nI_add _ _) (nm_r (nI_add _ _) (nm_r (nI_1 b) ?_)))))))))
            refine ih a (b + 1) (c.1 + 1, c.2.1 + pop (f a) * pop (f b), c.2.2.1 + (pop (f a) + pop (f b)), c.2.2.2 + (pop (f a) * pop (f a) + pop (f b) * pop (f b))) _ _ ha (by omega) (fun c' y7 y8 y9 hc' => hcont c' y7 y8 y9 ?_)
            rw [hc', lk2, lks, c1]
            rfl
      have outer : ∀ m a (c : Lk) (y7 y8 y9 : Option mV), a + m = n → lk1 f n m a c = R → V (23, [some (.inr 0), some (.inl p), some (.inl (nI c.1)), some (.inl (nI c.2.1)), some (.inl (nI c.2.2.1)), some (.inl (nI c.2.2.2)), some (.inl (nI a)), y7, y8, y9], [], mkC j (nI n) r q t d w) := by
        intro m
        induction m with
        | zero =>
          intro a c y7 y8 y9 ha he
          have he : c = R := he
          subst he
          obtain ⟨b1, b2, b3⟩ := LK_b hR
          have hcs := LK_cs hR
          refine hV 80 23 _ _ _ (br_ge (a := a) (b := n) (by omega) (by omega) (fun _ => nm_r (pk_mul 4 c.1) (nm_r (pk_mul _ _) (nm_r (pk_mul _ _) (nm_e (nm_r (pk_mul 2 c.1) (nm_r (pk_mul _ _) (nm_r (pk_mul _ _) (nm_r (pk_sub hcs) ⟨_, _, _, p, rfl, abs_d b1 b2, by omega, by omega, hk⟩)))))))) (fun c => absurd c (by omega)))
        | succ m ih =>
          intro a c y7 y8 y9 ha he
          refine hV 80 23 _ _ _ (br_ge (a := a) (b := n) (by omega) (by omega) (fun c => absurd c (by omega)) (fun _ => nm_r (nI_1 a) ?_))
          refine inner (n - (a + 1)) a (a + 1) c _ _ (by omega) (by omega) (fun c' y7 y8 y9 hc' => ih (a + 1) c' y7 y8 y9 (by omega) ?_)
          rw [hc']
          exact he
      exact outer n 0 (0, 0, 0, 0) none none none (by omega) hans
    · rw [aLik, c] at hk; exact hk
def rS (n : Nat) (f : Nat → Nat) (x : Int32) : Nat := mk (fun v => decide (x < nI (pop (f v)))) n
def aRich (n : Nat) (f : Nat → Nat) (x p : Int32) : Int32 := bif isP p && decide (0 ≤ x) then shr (nI (e1 n f (rS n f x))) (e1 n f (rS n f x)) (prs (pop (rS n f x))) p else -2
theorem rS_eq {n : Nat} {f : Nat → Nat} (hG : Gr n f) (x : Int32) : sd (2 ^ n - 1) (lo n f (2 ^ n - 1) (fun d => decide (nI d ≤ x))) = rS n f x := by
  refine tb_ext (sd_lt (pw_pos n)) (mk_lt _ _) (fun i hi => ?_)
  have e : dg f (2 ^ n - 1) i = pop (f i) := by
    rw [dg_n hG hi, pop_n (hG.2.1 i hi) hG.1]
    exact cn_congr (fun u hu => by rw [tb_all]; simp [hu])
  rw [tb_sd, tb_lo, rS, tb_mk, tb_all, e]
  by_cases h : nI (pop (f i)) ≤ x
  · simp [hi, h, Int32.not_lt.mpr h]
  · simp [hi, h, Int32.not_le.mp h]
def tC_rich : mT := fun as h k => ∃ n f x p, hC h n f ∧ as = [.inr 0, .inl x, .inl p] ∧ k (some (aRich n f x p)) h
set_option maxHeartbeats 4000000 in
set_option maxRecDepth 20000 in
theorem c_C_rich : m_Con cls 0 TB y_C_rich b_C_rich 4 (some .int) 0 3 tC_rich := by
  refine m_con (code := k_C_rich) (fld := f_C) (fpt := p_C) (kon := []) (call := [(101, true, 1, tC_isPart), (56, false, 1, tC_allNodes), (63, false, 3, tC_looseIn), (114, false, 2, tC_edgesWithin), (43, true, 1, t_bitCount), (117, true, 1, tC_pairsOf), (110, true, 3, tC_share)]) (C := R_C) (T := T_C) (N := 7) (by decide) (Or.inl ⟨rfl, rfl⟩) ok_C_rich tb_C (fun l D cA ad => m_calls ?_) ?_ ?_
  · exact List.forall_mem_cons.mpr ⟨o_C101 ⟨Nat.le_of_ble_eq_true rfl, Nat.le_of_ble_eq_true rfl⟩, List.forall_mem_cons.mpr ⟨o_C56 ⟨Nat.le_of_ble_eq_true rfl, Nat.le_of_ble_eq_true rfl⟩, List.forall_mem_cons.mpr ⟨o_C63 ⟨Nat.le_of_ble_eq_true rfl, Nat.le_of_ble_eq_true rfl⟩, List.forall_mem_cons.mpr ⟨o_C114 ⟨Nat.le_of_ble_eq_true rfl, Nat.le_of_ble_eq_true rfl⟩, List.forall_mem_cons.mpr ⟨o_C43 ⟨Nat.le_of_ble_eq_true rfl, Nat.le_of_ble_eq_true rfl⟩, List.forall_mem_cons.mpr ⟨o_C117 ⟨Nat.le_of_ble_eq_true rfl, Nat.le_of_ble_eq_true rfl⟩, List.forall_mem_cons.mpr ⟨o_C110 ⟨Nat.le_of_ble_eq_true rfl, Nat.le_of_ble_eq_true rfl⟩, fun _ h => absurd h List.not_mem_nil⟩⟩⟩⟩⟩⟩⟩
  · rintro as h k ⟨n, f, x, p, ⟨j, r, q, t, d, w, rfl, hj, hG⟩, rfl, hk⟩
    exact Nat.le_of_ble_eq_true rfl
  · rintro as h k ⟨n, f, x, p, ⟨j, r, q, t, d, w, rfl, hj, hG⟩, rfl, hk⟩ V hV
    have hh : hC (mkC j (nI n) r q t d w) n f := ⟨j, r, q, t, d, w, rfl, hj, hG⟩
    have hn := hG.1
    have h12 := p12 hn
    refine hV 60 0 _ _ _ ⟨p, rfl, br_eq (fun c => ?_) (fun c => And.intro (fun c2 => ?_) (fun c2 => ?_))⟩
    · rw [aRich, c] at hk; exact hk
    · have c2 : 0 ≤ x := c2
      rw [aRich, c, decide_eq_true c2] at hk
      have hp := pw_pos n
      refine ⟨n, f, hh, rfl, ⟨n, f, hh, rfl, ⟨n, f, _, _, hh, rfl, by omega, nm_e (nm_r (nx_sd _ _) ?_)⟩⟩⟩
      rw [rS_eq hG]
      have hr : rS n f x < 2 ^ n := mk_lt _ _
      have x1 := e1_72 hG (rS n f x)
      have x2 := pop_le hr hn
      have x3 := prs_66 (pop (rS n f x)) (by omega)
      refine ⟨n, f, _, hh, rfl, by omega, ⟨_, rfl, ?_⟩⟩
      rw [bc_n (by omega)]
      exact ⟨_, rfl, by omega, ⟨_, _, _, p, rfl, abs_n (by omega), by omega, by omega, hk⟩⟩
    · have c2 : ¬ 0 ≤ x := c2
      rw [aRich, decide_eq_false c2, Bool.and_false] at hk
      exact hk
