/-! the densest, firmness, the sets that few edges can't part: of the object -/
theorem nI_addneg (a d : Nat) : nI (a + d) + -(nI d) = nI a := by
  rw [← Int32.sub_eq_add_neg, pk_sub (by omega)]
  congr 1
  omega
theorem nI_mix {a b c d : Nat} (h : a + b = d + c) : nI a + (nI b - nI c) = nI d := by
  have e : nI a + (nI b - nI c) = nI a + nI b - nI c := by
    rw [Int32.sub_eq_add_neg, Int32.sub_eq_add_neg, Int32.add_assoc]
  rw [e, nI_add, h, pk_sub (by omega)]
  congr 1
  omega
def dn (e s oe os : Nat) : Bool := decide (oe * s < e * os) || (decide (e * os = oe * s) && decide (os < s))
def tC_isDenser : mT := fun as h k => ∃ e s oe os, as = [.inl (nI e), .inl (nI s), .inl (nI oe), .inl (nI os)] ∧ e ≤ 100 ∧ s ≤ 100 ∧ oe ≤ 100 ∧ os ≤ 100 ∧ k (some (b2i (dn e s oe os))) h
theorem mul_100 {a b : Nat} (ha : a ≤ 100) (hb : b ≤ 100) : a * b ≤ 10000 := Nat.mul_le_mul ha hb
set_option maxHeartbeats 4000000 in
set_option maxRecDepth 20000 in
theorem c_C_isDenser : m_Con cls 0 TB y_C_isDenser b_C_isDenser 6 (some .boolean) 1 0 tC_isDenser := by
  refine m_con (code := k_C_isDenser) (fld := f_C) (fpt := p_C) (kon := []) (call := []) (C := R_C) (T := T_C) (N := 7) (by decide) (Or.inr (Or.inl ⟨rfl, rfl⟩)) ok_C_isDenser tb_C (fun l D cA ad => m_calls ?_) ?_ ?_
  · exact fun _ h => absurd h List.not_mem_nil
  · rintro as h k ⟨e, s, oe, os, rfl, h1, h2, h3, h4, hk⟩
    exact Nat.le_of_ble_eq_true rfl
  · rintro as h k ⟨e, s, oe, os, rfl, h1, h2, h3, h4, hk⟩ V hV
    have m1 := mul_100 h1 h4
    have m2 := mul_100 h3 h2
    refine hV 60 0 _ _ _ (nm_r (pk_mul _ _) (nm_r (pk_mul _ _) (br_gt (a := e * os) (b := oe * s) (by omega) (by omega) (fun c => And.intro (Or.inr rfl) ?_) (fun c => br_n (a := e * os) (b := oe * s) (by omega) (by omega) (fun c2 => And.intro (Or.inl rfl) ?_) (fun c2 => br_le (a := s) (b := os) (by omega) (by omega) (fun c3 => And.intro (Or.inl rfl) ?_) (fun c3 => And.intro (Or.inr rfl) ?_))))))
    · have e : dn e s oe os = true := by simp [dn, c]
      rw [e] at hk; exact hk
    · have e : dn e s oe os = false := by simp [dn, Nat.not_lt.mpr c, c2]
      rw [e] at hk; exact hk
    · have e : dn e s oe os = false := by simp [dn, Nat.not_lt.mpr c, Nat.not_lt.mpr c3]
      rw [e] at hk; exact hk
    · have e : dn e s oe os = true := by simp [dn, c2, c3]
      rw [e] at hk; exact hk
theorem o_C135 {D : va_G} {cA : ClassId} {ad : Nat → Nat} {l : Launch} {R : Room} (hR : 0 + 1 ≤ R.frames ∧ 32 * (0 + 1) ≤ R.locals) : m_OK D cls cA 0 ad TB l "DegreeCores" R 135 true 4 tC_isDenser :=
  m_okS c_C_isDenser (by decide) tb_good w_C135 ⟨by decide +kernel, by decide +kernel, by decide +kernel⟩ (by decide) hR
def tC_densestBits : mT := fun as h k => ∃ n f, hC h n f ∧ as = [.inr 0] ∧ ∀ S, (n = 0 → S = 0) → (0 < n → isDen n f S) → k (some (nI S)) h
theorem gray_s {s : Nat} (h : s + 1 < 4096) : gray (s + 1) = tg (gray s) (lsb (s + 1)) := by
  rcases (gray_at h).1 with h1 | ⟨h1, -⟩
  · omega
  · exact h1
theorem tb_of_lt {S n i : Nat} (h : S < 2 ^ n) (hb : S.testBit i = true) : i < n := by
  rcases Nat.lt_or_ge i n with h1 | h1
  · exact h1
  · rw [tb_hi h h1] at hb; cases hb
def k2_C_densestBits : List (Nat × mE) := [(0, .iconst 0, 1, 0, 0, false), (1, .istore_n 1, 2, 0, 0, false), (2, .iconst 0, 3, 0, 0, false), (3, .istore_n 2, 4, 0, 0, false), (4, .iconst 0, 5, 0, 0, false), (5, .istore_n 3, 6, 0, 0, false), (6, .iconst 0, 7, 0, 0, false), (7, .istore 4, 9, 0, 0, false), (9, .iconst 1, 10, 0, 1, false), (10, .aload_n 0, 11, 0, 0, false), (11, .getfield 25, 14, 0, 0, false), (14, .ishl, 15, 0, 0, false), (15, .istore 5, 17, 0, 0, false), (17, .iconst 1, 18, 0, 1, false), (18, .istore 6, 20, 0, 0, false), (20, .iload 6, 22, 0, 0, true), (22, .iload 5, 24, 0, 0, false), (24, .if_icmp .ge 77, 27, 101, 0, false), (27, .iload 6, 29, 0, 0, false), (29, .invokestatic 66, 32, 0, 0, false), (32, .istore 7, 34, 0, 0, false), (34, .iload 4, 36, 0, 0, false), (36, .iload_n 3, 37, 0, 0, false), (37, .iload 7, 39, 0, 0, false), (39, .invokestatic 36, 42, 0, 0, false), (42, .ifCond .eq 14, 45, 56, 0, false), (45, .aload_n 0, 46, 0, 0, false), (46, .iload_n 3, 47, 0, 0, false), (47, .iload 7, 49, 0, 0, false), (49, .invokevirtual 49, 52, 0, 0, false), (52, .ineg, 53, 0, 0, false), (53, .goto 10, 56, 63, 0, false), (56, .aload_n 0, 57, 0, 0, false), (57, .iload_n 3, 58, 0, 0, false), (58, .iload 7, 60, 0, 0, false), (60, .invokevirtual 49, 63, 0, 0, false), (63, .iadd, 64, 0, 0, false), (64, .istore 4, 66, 0, 0, false), (66, .iload_n 3, 67, 0, 0, true), (67, .iconst 1, 68, 0, 1, false), (68, .iload 7, 70, 0, 0, false), (70, .ishl, 71, 0, 0, false), (71, .ixor, 72, 0, 0, false), (72, .istore_n 3, 73, 0, 0, false), (73, .iload 4, 75, 0, 0, false), (75, .iload_n 3, 76, 0, 0, false), (76, .invokestatic 43, 79, 0, 0, false), (79, .iload_n 2, 80, 0, 0, false), (80, .iload_n 1, 81, 0, 0, false), (81, .invokestatic 43, 84, 0, 0, false), (84, .invokestatic 135, 87, 0, 0, false), (87, .ifCond .eq 8, 90, 95, 0, false), (90, .iload_n 3, 91, 0, 0, false), (91, .istore_n 1, 92, 0, 0, false), (92, .iload 4, 94, 0, 0, false), (94, .istore_n 2, 95, 0, 0, false), (95, .iinc 6 1, 98, 0, 1, false), (98, .goto (-78), 101, 20, 0, false), (101, .iload_n 1, 102, 0, 0, false), (102, .ireturn, 103, 0, 0, false)]
theorem ok2_C_densestBits : k2_C_densestBits.all (m_ok b_C_densestBits 8) = true := by decide +kernel
set_option maxHeartbeats 4000000 in
set_option maxRecDepth 20000 in
theorem c_C_densestBits : m_Con cls 0 TB y_C_densestBits b_C_densestBits 8 (some .int) 0 2 tC_densestBits := by
  refine m_con (code := k2_C_densestBits) (fld := f_C) (fpt := p_C) (kon := []) (call := [(66, true, 1, tC_leastOf), (36, true, 2, tC_has), (49, false, 3, tC_degreeWithin), (43, true, 1, t_bitCount), (135, true, 4, tC_isDenser)]) (C := R_C) (T := T_C) (N := 7) (by decide) (Or.inl ⟨rfl, rfl⟩) ok2_C_densestBits tb_C (fun l D cA ad => m_calls ?_) ?_ ?_
  · exact List.forall_mem_cons.mpr ⟨o_C66 ⟨Nat.le_of_ble_eq_true rfl, Nat.le_of_ble_eq_true rfl⟩, List.forall_mem_cons.mpr ⟨o_C36 ⟨Nat.le_of_ble_eq_true rfl, Nat.le_of_ble_eq_true rfl⟩, List.forall_mem_cons.mpr ⟨o_C49 ⟨Nat.le_of_ble_eq_true rfl, Nat.le_of_ble_eq_true rfl⟩, List.forall_mem_cons.mpr ⟨o_C43 ⟨Nat.le_of_ble_eq_true rfl, Nat.le_of_ble_eq_true rfl⟩, List.forall_mem_cons.mpr ⟨o_C135 ⟨Nat.le_of_ble_eq_true rfl, Nat.le_of_ble_eq_true rfl⟩, fun _ h => absurd h List.not_mem_nil⟩⟩⟩⟩⟩
  · rintro as h k ⟨n, f, ⟨j, r, q, t, d, w, rfl, hj, hG⟩, rfl, hk⟩
    exact Nat.le_of_ble_eq_true rfl
  · rintro as h k ⟨n, f, ⟨j, r, q, t, d, w, rfl, hj, hG⟩, rfl, hk⟩ V hV
    have hh : hC (mkC j (nI n) r q t d w) n f := ⟨j, r, q, t, d, w, rfl, hj, hG⟩
    have hn := hG.1
    have h12 := p12 hn
    have pl : ∀ S, S < 2 ^ n → pop S ≤ 12 := fun S hS => by have := pop_le hS hn; omega
    have loop : ∀ m s b (z : Option mV), s + 1 + m = 2 ^ n → (s = 0 → b = 0) → (0 < s → dcI n f s b) → V (20, [some (.inr 0), some (.inl (nI b)), some (.inl (nI (e1 n f b))), some (.inl (nI (gray s))), some (.inl (nI (e1 n f (gray s)))), some (.inl (nI (2 ^ n))), some (.inl (nI (s + 1))), z], [], mkC j (nI n) r q t d w) := by
      intro m
      induction m with
      | zero =>
        intro s b z hs h0 h1
        refine hV 80 20 _ _ _ (br_ge (a := s + 1) (b := 2 ^ n) (by omega) (by omega) (fun _ => ?_) (fun c => absurd c (by omega)))
        refine hk b (fun hn0 => ?_) (fun hn0 => ?_)
        · rw [hn0] at hs
          exact h0 (by omega)
        · have h2 : 1 < 2 ^ n := Nat.one_lt_two_pow (by omega)
          have e : s = 2 ^ n - 1 := by omega
          have := h1 (by omega)
          rw [e] at this
          exact dc_end hn this
      | succ m ih =>
        intro s b z hs h0 h1
        have hsl : s + 1 < 2 ^ n := by omega
        have hv := lsb_lt hsl (by omega) hn
        have hg := gray_lt (n := n) (s := s) (by omega)
        have hg1 := gray_lt hsl
        have hgs := gray_s (s := s) (by omega)
        have hb : b < 2 ^ n := by
          rcases Nat.eq_zero_or_pos s with e | e
          · rw [h0 e]; omega
          · exact (h1 e).1
        have x1 := e1_72 hG (gray s)
        have x2 := e1_72 hG (gray (s + 1))
        have x3 := e1_72 hG b
        have x4 := pl _ hg1
        have x5 := pl _ hb
        have fin : V (20, [some (.inr 0), some (.inl (nI (bif dn (e1 n f (gray (s + 1))) (pop (gray (s + 1))) (e1 n f b) (pop b) then gray (s + 1) else b))), some (.inl (nI (e1 n f (bif dn (e1 n f (gray (s + 1))) (pop (gray (s + 1))) (e1 n f b) (pop b) then gray (s + 1) else b)))), some (.inl (nI (gray (s + 1)))), some (.inl (nI (e1 n f (gray (s + 1))))), some (.inl (nI (2 ^ n))), some (.inl (nI (s + 1 + 1))), some (.inl (nI (lsb (s + 1))))], [], mkC j (nI n) r q t d w) := by
          refine ih (s + 1) _ _ (by omega) (fun e => by omega) (fun _ => ?_)
          rcases Nat.eq_zero_or_pos s with e | e
          · have e0 := h0 e
            subst e; subst e0
            have pg : 0 < pop (gray (0 + 1)) := pop_pos hg1 hn (by decide)
            have : dn (e1 n f (gray (0 + 1))) (pop (gray (0 + 1))) (e1 n f 0) (pop 0) = true := by
              rw [e1_0, pop_0]
              simp [dn, pg]
            rw [this]
            exact dc_first hn hsl
          · cases hd : dn (e1 n f (gray (s + 1))) (pop (gray (s + 1))) (e1 n f b) (pop b) with
            | true =>
              simp only [dn, Bool.or_eq_true, Bool.and_eq_true, decide_eq_true_eq] at hd
              exact dc_new hn (h1 e) hsl hd
            | false =>
              refine dc_old (h1 e) (fun hd2 => ?_)
              have : dn (e1 n f (gray (s + 1))) (pop (gray (s + 1))) (e1 n f b) (pop b) = true := by
                simp only [dn, Bool.or_eq_true, Bool.and_eq_true, decide_eq_true_eq]
                exact hd2
              rw [this] at hd
              cases hd
        have tail : V (66, [some (.inr 0), some (.inl (nI b)), some (.inl (nI (e1 n f b))), some (.inl (nI (gray s))), some (.inl (nI (e1 n f (gray (s + 1))))), some (.inl (nI (2 ^ n))), some (.inl (nI (s + 1))), some (.inl (nI (lsb (s + 1))))], [], mkC j (nI n) r q t d w) := by
          refine hV 60 66 _ _ _ (nm_r (nx_shl _ (by omega)) (nm_r (e' := nI (gray (s + 1))) (by rw [nx_xor, hgs]; rfl) ⟨_, rfl, ?_⟩))
          rw [bc_n (by omega)]
          refine ⟨_, rfl, ?_⟩
          rw [bc_n (by omega)]
          refine ⟨_, _, _, _, rfl, by omega, by omega, by omega, by omega, br_eq (fun c => nm_r (nI_1 _) ?_) (fun c => nm_r (nI_1 _) ?_)⟩
          · rw [c] at fin
            exact fin
          · rw [c] at fin
            exact fin
        refine hV 60 20 _ _ _ (br_ge (a := s + 1) (b := 2 ^ n) (by omega) (by omega) (fun c => absurd c (by omega)) (fun _ => ⟨_, rfl, by omega, by omega, ⟨_, _, rfl, by omega, by omega, br_eq (fun c => ?_) (fun c => ?_)⟩⟩))
        · refine ⟨n, f, _, _, hh, rfl, hv, nm_r (e' := nI (e1 n f (gray (s + 1)))) ?_ tail⟩
          rw [nI_add, hgs, e1_in hG hv c]
        · refine ⟨n, f, _, _, hh, rfl, hv, nm_e (nm_r (e' := nI (e1 n f (gray (s + 1)))) ?_ tail)⟩
          have e := e1_out hG hv c
          rw [e, nI_addneg, hgs]
    have h0 : e1 n f 0 = 0 := e1_0
    have start := loop (2 ^ n - 1) 0 0 none (by have : 0 < 2 ^ n := Nat.pow_pos (by decide); omega) (fun _ => rfl) (fun h => by omega)
    rw [gray_0, h0] at start
    exact hV 60 0 _ _ _ (nm_r (nx_shl n (by omega)) start)
theorem o_C123 {D : va_G} {cA : ClassId} {ad : Nat → Nat} {l : Launch} {R : Room} (hR : 2 + 1 ≤ R.frames ∧ 32 * (2 + 1) ≤ R.locals) : m_OK D cls cA 0 ad TB l "DegreeCores" R 123 false (0 + 1) tC_densestBits :=
  m_okV (C := R_C) (Tu := T_C) (N := 7) rfl c_C_densestBits (by decide) tb_good w_C123 ⟨rfl, by decide +kernel, by decide +kernel, by decide +kernel⟩ (by decide) hR (by rintro as h k ⟨n, f, ⟨j, r, q, t, d, w, rfl, hj, hG⟩, rfl, hk⟩; exact ⟨0, _, _, rfl, rfl⟩)
