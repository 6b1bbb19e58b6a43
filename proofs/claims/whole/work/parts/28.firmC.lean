/-! firmness: pure, then of the object -/
section FM
variable {n : Nat} {f : Nat → Nat}
def isFirm (n : Nat) (f : Nat → Nat) (a b r : Nat) : Prop := (∃ S, S < 2 ^ n ∧ S.testBit a = true ∧ S.testBit b = false ∧ ct n f S = r) ∧ ∀ S, S < 2 ^ n → S.testBit a = true → S.testBit b = false → r ≤ ct n f S
theorem firm_one {a b r r' : Nat} (h : isFirm n f a b r) (h' : isFirm n f a b r') : r = r' := by
  obtain ⟨⟨S, s1, s2, s3, s4⟩, h2⟩ := h
  obtain ⟨⟨T, t1, t2, t3, t4⟩, h4⟩ := h'
  have x := h2 T t1 t2 t3
  have y := h4 S s1 s2 s3
  omega
theorem firm_ex (a b : Nat) (ha : a < n) (hab : a ≠ b) : ∃ r, isFirm n f a b r := by
  have hp : (2 ^ a).testBit a = true := by rw [tb_pow]; simp
  have hb : (2 ^ a).testBit b = false := by rw [tb_pow]; simp [hab]
  obtain ⟨r, ⟨S, s1, s2, s3, s4⟩, h2⟩ := pk_least (fun r => ∃ S, S < 2 ^ n ∧ S.testBit a = true ∧ S.testBit b = false ∧ ct n f S = r) ⟨_, 2 ^ a, Nat.pow_lt_pow_right (by decide) ha, hp, hb, rfl⟩
  refine ⟨r, ⟨S, s1, s2, s3, s4⟩, fun T t1 t2 t3 => ?_⟩
  apply Nat.le_of_not_lt
  intro hlt
  exact h2 _ hlt ⟨T, t1, t2, t3, rfl⟩
/-- every cut is one that the walk over the sets without the last node comes to -/
theorem cut_seen (hG : Gr n f) (h0 : 0 < n) {S a b : Nat} (ha : a < n) (hb : b < n) (hS : S < 2 ^ n) (h1 : S.testBit a ≠ S.testBit b) : ∃ i, 0 < i ∧ i < 2 ^ (n - 1) ∧ ct n f (gray i) = ct n f S ∧ (∀ u v, u < n → v < n → ((gray i).testBit u ≠ (gray i).testBit v ↔ S.testBit u ≠ S.testBit v)) := by
  have hn := hG.1
  have h12 := p12 hn
  have key : ∀ X, X < 2 ^ n → X.testBit (n - 1) = false → X ≠ 0 → ∃ i, 0 < i ∧ i < 2 ^ (n - 1) ∧ gray i = X := by
    intro X hX hb hX0
    have hX2 : X < 2 ^ (n - 1) := by
      apply Nat.lt_pow_two_of_testBit
      intro i hi
      rcases Nat.lt_or_ge i n with h | h
      · have : i = n - 1 := by omega
        rw [this]; exact hb
      · exact tb_hi hX h
    obtain ⟨-, g1, g2, g3⟩ := gray_at (s := X) (by omega)
    exact ⟨ginv X, by omega, g3 (n - 1) (by omega) hX2, g1⟩
  cases hl : S.testBit (n - 1) with
  | false =>
    have hne : S ≠ 0 := fun z => h1 (by rw [z]; simp)
    obtain ⟨i, i1, i2, i3⟩ := key S hS hl hne
    exact ⟨i, i1, i2, by rw [i3], fun u v _ _ => by rw [i3]⟩
  | true =>
    have tb : ∀ u, u < n → (sd (2 ^ n - 1) S).testBit u = !S.testBit u := fun u hu => by rw [tb_sd, tb_all]; simp [hu]
    have hne : sd (2 ^ n - 1) S ≠ 0 := fun z => by
      have e1 := tb a ha
      have e2 := tb b hb
      rw [z] at e1 e2
      simp at e1 e2
      exact h1 (by rw [e1, e2])
    obtain ⟨i, i1, i2, i3⟩ := key (sd (2 ^ n - 1) S) (sd_lt (pw_pos n)) (by rw [tb _ (by omega), hl]; rfl) hne
    refine ⟨i, i1, i2, by rw [i3, ct_not hG hS], fun u v hu hv => ?_⟩
    rw [i3, tb u hu, tb v hv]
    cases S.testBit u <;> cases S.testBit v <;> simp
theorem sep_ge (hG : Gr n f) {S a b r : Nat} (hF : isFirm n f a b r) (ha : a < n) (hb : b < n) (hS : S < 2 ^ n) (h1 : S.testBit a ≠ S.testBit b) : r ≤ ct n f S := by
  cases hsa : S.testBit a with
  | true =>
    cases hsb : S.testBit b with
    | true => rw [hsa, hsb] at h1; exact absurd rfl h1
    | false => exact hF.2 S hS hsa hsb
  | false =>
    cases hsb : S.testBit b with
    | false => rw [hsa, hsb] at h1; exact absurd rfl h1
    | true =>
      rw [← ct_not hG hS]
      refine hF.2 _ (sd_lt (pw_pos n)) ?_ ?_
      · rw [tb_sd, tb_all]; simp [ha, hsa]
      · rw [tb_sd, tb_all]; simp [hsb]
/-- the least of the cuts seen -/
def fmI (n : Nat) (f : Nat → Nat) (a b s r : Nat) : Prop := (∃ S, S < 2 ^ n ∧ S.testBit a ≠ S.testBit b ∧ ct n f S = r) ∧ ∀ i, 0 < i → i ≤ s → (gray i).testBit a ≠ (gray i).testBit b → r ≤ ct n f (gray i)
theorem fm_end (hG : Gr n f) {a b r : Nat} (ha : a < n) (hb : b < n) (hab : a ≠ b) (h : fmI n f a b (2 ^ (n - 1) - 1) r) : isFirm n f a b r := by
  obtain ⟨⟨S, s1, s2, s3⟩, h2⟩ := h
  obtain ⟨r0, hr0⟩ := firm_ex (n := n) (f := f) a b ha hab
  have h3 := sep_ge hG hr0 ha hb s1 s2
  obtain ⟨⟨T, t1, t2, t3, t4⟩, -⟩ := id hr0
  obtain ⟨i, i1, i2, i3, i4⟩ := cut_seen hG (by omega) ha hb t1 (by rw [t2, t3]; simp)
  have h5 := h2 i i1 (by omega) ((i4 a b ha hb).mpr (by rw [t2, t3]; simp))
  have e : r = r0 := by omega
  rw [e]; exact hr0
theorem ct_one (hG : Gr n f) {a : Nat} (ha : a < n) : ct n f (2 ^ a) = pop (f a) := by
  have h := ct_in hG (S := 0) ha (by simp)
  have e : tg 0 a = 2 ^ a := by simp [tg]
  have e2 : dg f 0 a = 0 := by simp [dg, pop_0]
  rw [e, e2, ct_0] at h
  omega
theorem fm_start (hG : Gr n f) {a b : Nat} (ha : a < n) (hab : a ≠ b) : fmI n f a b 0 (pop (f a)) :=
  ⟨⟨2 ^ a, Nat.pow_lt_pow_right (by decide) ha, by rw [tb_pow, tb_pow]; simp [hab], ct_one hG ha⟩, fun i h1 h2 => by omega⟩
theorem ct_lt (hG : Gr n f) {S : Nat} (hS : S < 2 ^ n) : ct n f S ≤ 144 := by
  have hn := hG.1
  have h := sm_bound (g := fun v => bif S.testBit v then pop (sd (f v) S) else 0) (n := n) (c := 12) (fun u hu => by
    have := pop_le (sd_lt (T := S) (hG.2.1 u hu)) hn
    cases S.testBit u with
    | true => show pop (sd (f u) S) ≤ 12; omega
    | false => exact Nat.zero_le _)
  have h2 : n * 12 ≤ 144 := by omega
  exact Nat.le_trans h h2
end FM
def tC_cutChange : mT := fun as h k => ∃ n f S v, hC h n f ∧ as = [.inr 0, .inl (nI S), .inl (nI v)] ∧ v < n ∧ S < 4096 ∧ ∀ x, nI (ct n f S) + x = nI (ct n f (tg S v)) → k (some x) h
set_option maxHeartbeats 4000000 in
set_option maxRecDepth 20000 in
theorem c_C_cutChange : m_Con cls 0 TB y_C_cutChange b_C_cutChange 5 (some .int) 0 2 tC_cutChange := by
  refine m_con (code := k_C_cutChange) (fld := f_C) (fpt := p_C) (kon := []) (call := [(49, false, 3, tC_degreeWithin), (43, true, 1, t_bitCount), (36, true, 2, tC_has)]) (C := R_C) (T := T_C) (N := 7) (by decide) (Or.inl ⟨rfl, rfl⟩) ok_C_cutChange tb_C (fun l D cA ad => m_calls ?_) ?_ ?_
  · exact List.forall_mem_cons.mpr ⟨o_C49 ⟨Nat.le_of_ble_eq_true rfl, Nat.le_of_ble_eq_true rfl⟩, List.forall_mem_cons.mpr ⟨o_C43 ⟨Nat.le_of_ble_eq_true rfl, Nat.le_of_ble_eq_true rfl⟩, List.forall_mem_cons.mpr ⟨o_C36 ⟨Nat.le_of_ble_eq_true rfl, Nat.le_of_ble_eq_true rfl⟩, fun _ h => absurd h List.not_mem_nil⟩⟩⟩
  · rintro as h k ⟨n, f, S, v, ⟨j, r, q, t, d, w, rfl, hj, hG⟩, rfl, hv, hS, hk⟩
    exact Nat.le_of_ble_eq_true rfl
  · rintro as h k ⟨n, f, S, v, ⟨j, r, q, t, d, w, rfl, hj, hG⟩, rfl, hv, hS, hk⟩ V hV
    have hh : hC (mkC j (nI n) r q t d w) n f := ⟨j, r, q, t, d, w, rfl, hj, hG⟩
    have hn := hG.1
    have hd := dg_out hG hv (S := S)
    refine hV 60 0 _ _ _ ⟨n, f, S, v, hh, rfl, hv, And.intro (vp_in_nI (by omega) (by omega)) (nm_r (by rw [clamp12 hv hn, hj v hv]) ⟨_, rfl, ?_⟩)⟩
    rw [bc_n (g31 hG hv)]
    refine nm_r (pk_sub (by omega)) ⟨S, v, rfl, by omega, by omega, br_eq (fun c => nm_e (hk _ ?_)) (fun c => nm_e (hk _ ?_))⟩
    · have := ct_in hG hv c
      exact nI_mix (by omega)
    · have := ct_out hG hv c
      exact nI_mix (by omega)
theorem o_C129 {D : va_G} {cA : ClassId} {ad : Nat → Nat} {l : Launch} {R : Room} (hR : 2 + 1 ≤ R.frames ∧ 32 * (2 + 1) ≤ R.locals) : m_OK D cls cA 0 ad TB l "DegreeCores" R 129 false (2 + 1) tC_cutChange :=
  m_okV (C := R_C) (Tu := T_C) (N := 7) rfl c_C_cutChange (by decide) tb_good w_C129 ⟨rfl, by decide +kernel, by decide +kernel, by decide +kernel⟩ (by decide) hR (by rintro as h k ⟨n, f, S, v, ⟨j, r, q, t, d, w, rfl, hj, hG⟩, rfl, hv, hS, hk⟩; exact ⟨0, _, _, rfl, rfl⟩)
def tC_cutSteps : mT := fun as h k => ∃ n f, hC h n f ∧ as = [.inr 0] ∧ 0 < n ∧ k (some (nI (2 ^ (n - 1)))) h
set_option maxHeartbeats 4000000 in
set_option maxRecDepth 20000 in
theorem c_C_cutSteps : m_Con cls 0 TB y_C_cutSteps b_C_cutSteps 1 (some .int) 0 0 tC_cutSteps := by
  refine m_con (code := k_C_cutSteps) (fld := f_C) (fpt := p_C) (kon := []) (call := []) (C := R_C) (T := T_C) (N := 7) (by decide) (Or.inl ⟨rfl, rfl⟩) ok_C_cutSteps tb_C (fun l D cA ad => m_calls ?_) ?_ ?_
  · exact fun _ h => absurd h List.not_mem_nil
  · rintro as h k ⟨n, f, ⟨j, r, q, t, d, w, rfl, hj, hG⟩, rfl, h0, hk⟩
    exact Nat.le_of_ble_eq_true rfl
  · rintro as h k ⟨n, f, ⟨j, r, q, t, d, w, rfl, hj, hG⟩, rfl, h0, hk⟩ V hV
    have hn := hG.1
    refine hV 60 0 _ _ _ (br_n (a := n) (b := 0) (by omega) (by omega) (fun c => nm_r (pk_sub (b := 1) (by omega)) (nm_r (nx_shl (n - 1) (by omega)) hk)) (fun c => absurd c (by omega)))
theorem o_C126 {D : va_G} {cA : ClassId} {ad : Nat → Nat} {l : Launch} {R : Room} (hR : 0 + 1 ≤ R.frames ∧ 32 * (0 + 1) ≤ R.locals) : m_OK D cls cA 0 ad TB l "DegreeCores" R 126 false (0 + 1) tC_cutSteps :=
  m_okV (C := R_C) (Tu := T_C) (N := 7) rfl c_C_cutSteps (by decide) tb_good w_C126 ⟨rfl, by decide +kernel, by decide +kernel, by decide +kernel⟩ (by decide) hR (by rintro as h k ⟨n, f, ⟨j, r, q, t, d, w, rfl, hj, hG⟩, rfl, h0, hk⟩; exact ⟨0, _, _, rfl, rfl⟩)
def aFirm (n : Nat) (f : Nat → Nat) (x y r : Int32) : Prop := (two n x y = false ∧ r = -1) ∨ ∃ u v c, u < n ∧ v < n ∧ u ≠ v ∧ x = nI u ∧ y = nI v ∧ two n x y = true ∧ isFirm n f u v c ∧ r = nI c
theorem half_lt {n s : Nat} (h : s < 2 ^ (n - 1)) (h0 : 0 < n) : s < 2 ^ n := Nat.lt_of_lt_of_le h (Nat.pow_le_pow_right (by decide) (by omega))
def tC_firm : mT := fun as h k => ∃ n f x y, hC h n f ∧ as = [.inr 0, .inl x, .inl y] ∧ ∀ r, aFirm n f x y r → k (some r) h
set_option maxHeartbeats 4000000 in
set_option maxRecDepth 20000 in
theorem c_C_firm : m_Con cls 0 TB y_C_firm b_C_firm 9 (some .int) 0 3 tC_firm := by
  refine m_con (code := k_C_firm) (fld := f_C) (fpt := p_C) (kon := []) (call := [(32, false, 3, tC_areTwoNodes), (43, true, 1, t_bitCount), (126, false, 1, tC_cutSteps), (66, true, 1, tC_leastOf), (129, false, 3, tC_cutChange), (36, true, 2, tC_has), (74, true, 2, t_min)]) (C := R_C) (T := T_C) (N := 7) (by decide) (Or.inl ⟨rfl, rfl⟩) ok_C_firm tb_C (fun l D cA ad => m_calls ?_) ?_ ?_
  · exact List.forall_mem_cons.mpr ⟨o_C32 ⟨Nat.le_of_ble_eq_true rfl, Nat.le_of_ble_eq_true rfl⟩, List.forall_mem_cons.mpr ⟨o_C43 ⟨Nat.le_of_ble_eq_true rfl, Nat.le_of_ble_eq_true rfl⟩, List.forall_mem_cons.mpr ⟨o_C126 ⟨Nat.le_of_ble_eq_true rfl, Nat.le_of_ble_eq_true rfl⟩, List.forall_mem_cons.mpr ⟨o_C66 ⟨Nat.le_of_ble_eq_true rfl, Nat.le_of_ble_eq_true rfl⟩, List.forall_mem_cons.mpr ⟨o_C129 ⟨Nat.le_of_ble_eq_true rfl, Nat.le_of_ble_eq_true rfl⟩, List.forall_mem_cons.mpr ⟨o_C36 ⟨Nat.le_of_ble_eq_true rfl, Nat.le_of_ble_eq_true rfl⟩, List.forall_mem_cons.mpr ⟨o_C74 ⟨Nat.le_of_ble_eq_true rfl, Nat.le_of_ble_eq_true rfl⟩, fun _ h => absurd h List.not_mem_nil⟩⟩⟩⟩⟩⟩⟩
  · rintro as h k ⟨n, f, x, y, ⟨j, r, q, t, d, w, rfl, hj, hG⟩, rfl, hk⟩
    exact Nat.le_of_ble_eq_true rfl
  · rintro as h k ⟨n, f, x, y, ⟨j, r, q, t, d, w, rfl, hj, hG⟩, rfl, hk⟩ V hV
    have hh : hC (mkC j (nI n) r q t d w) n f := ⟨j, r, q, t, d, w, rfl, hj, hG⟩
    have hn := hG.1
    have h12 := p12 hn
    refine hV 60 0 _ _ _ ⟨n, f, x, y, hh, rfl, br_ne (fun c => ?_) (fun c => hk _ (Or.inl ⟨c, rfl⟩))⟩
    obtain ⟨a, b, ha, hb, hab, rfl, rfl⟩ := two_t hn c
    have hp0 : 0 < 2 ^ (n - 1) := Nat.pow_pos (by decide)
    have hpn : 2 ^ (n - 1) ≤ 2 ^ n := Nat.pow_le_pow_right (by decide) (by omega)
    have loop : ∀ m s le (z : Option mV), s + 1 + m = 2 ^ (n - 1) → le ≤ 200 → fmI n f a b s le → V (36, [some (.inr 0), some (.inl (nI a)), some (.inl (nI b)), some (.inl (nI le)), some (.inl (nI (gray s))), some (.inl (nI (ct n f (gray s)))), some (.inl (nI (2 ^ (n - 1)))), some (.inl (nI (s + 1))), z], [], mkC j (nI n) r q t d w) := by
      intro m
      induction m with
      | zero =>
        intro s le z hs hle hI
        refine hV 80 36 _ _ _ (br_ge (a := s + 1) (b := 2 ^ (n - 1)) (by omega) (by omega) (fun _ => ?_) (fun c => absurd c (by omega)))
        have e : s = 2 ^ (n - 1) - 1 := by omega
        rw [e] at hI
        exact hk _ (Or.inr ⟨a, b, le, ha, hb, hab, rfl, rfl, c, fm_end hG ha hb hab hI, rfl⟩)
      | succ m ih =>
        intro s le z hs hle hI
        have hsl : s + 1 < 2 ^ n := by omega
        have hv := lsb_lt hsl (by omega) hn
        have hg := gray_lt (n := n) (s := s) (by omega)
        have hg1 := gray_lt hsl
        have hgs := gray_s (s := s) (by omega)
        have hc1 := ct_lt hG hg1
        refine hV 80 36 _ _ _ (br_ge (a := s + 1) (b := 2 ^ (n - 1)) (by omega) (by omega) (fun c => absurd c (by omega)) (fun _ => ⟨_, rfl, by omega, by omega, ⟨n, f, _, _, hh, rfl, hv, by omega, fun x hx => ?_⟩⟩))
        rw [← hgs] at hx
        refine nm_r hx (nm_r (nx_shl _ (by omega)) (nm_r (e' := nI (gray (s + 1))) (by rw [nx_xor, hgs]; rfl) ⟨_, _, rfl, by omega, by omega, ⟨_, _, rfl, by omega, by omega, And.intro (fun c2 => nm_r (nI_1 _) ?_) (fun c2 => ⟨_, _, rfl, nm_r (nI_1 _) ?_⟩)⟩⟩))
        · have c2 := b2i_in c2
          refine ih (s + 1) le _ (by omega) hle ⟨hI.1, fun i i1 i2 i3 => ?_⟩
          by_cases hi : i = s + 1
          · rw [hi] at i3; exact absurd c2 i3
          · exact hI.2 i i1 (by omega) i3
        · have c2 : ¬ b2i ((gray (s + 1)).testBit a) = b2i ((gray (s + 1)).testBit b) := c2
          have c3 : (gray (s + 1)).testBit a ≠ (gray (s + 1)).testBit b := fun z => c2 (by rw [z])
          by_cases hlt : ct n f (gray (s + 1)) < le
          · have hle2 : nI (ct n f (gray (s + 1))) < nI le := nI_lt hlt (by omega)
            rw [if_pos hle2]
            refine ih (s + 1) _ _ (by omega) (by omega) ⟨⟨_, hg1, c3, rfl⟩, fun i i1 i2 i3 => ?_⟩
            by_cases hi : i = s + 1
            · rw [hi]; exact Nat.le_refl _
            · have := hI.2 i i1 (by omega) i3
              omega
          · have hle2 : ¬ nI (ct n f (gray (s + 1))) < nI le := nI_nlt (by omega) (by omega)
            rw [if_neg hle2]
            refine ih (s + 1) _ _ (by omega) hle ⟨hI.1, fun i i1 i2 i3 => ?_⟩
            by_cases hi : i = s + 1
            · rw [hi]; omega
            · exact hI.2 i i1 (by omega) i3
    have hpa := pop_le (hG.2.1 a ha) hn
    have start := loop (2 ^ (n - 1) - 1) 0 (pop (f a)) none (by omega) (by omega) (fm_start hG ha hab)
    rw [gray_0, ct_0] at start
    refine And.intro (vp_in_nI (by omega) (by omega)) (nm_r (by rw [clamp12 ha hn, hj a ha]) ⟨_, rfl, ?_⟩)
    rw [bc_n (g31 hG ha)]
    exact ⟨n, f, hh, rfl, by omega, start⟩
/-- who stays together with v -/
def tgI (n : Nat) (f : Nat → Nat) (v K s C : Nat) : Prop := C < 2 ^ n ∧ ∀ u, u < n → (C.testBit u = true ↔ ∀ i, 0 < i → i ≤ s → ct n f (gray i) < K → (gray i).testBit u = (gray i).testBit v)
def tC_classBits : mT := fun as h k => ∃ n f v K, hC h n f ∧ as = [.inr 0, .inl (nI v), .inl (nI K)] ∧ v < n ∧ K < 2 ^ 31 ∧ ∀ C, tgI n f v K (2 ^ (n - 1) - 1) C → k (some (nI C)) h
set_option maxHeartbeats 4000000 in
set_option maxRecDepth 20000 in
theorem c_C_classBits : m_Con cls 0 TB y_C_classBits b_C_classBits 9 (some .int) 0 3 tC_classBits := by
  refine m_con (code := k_C_classBits) (fld := f_C) (fpt := p_C) (kon := []) (call := [(56, false, 1, tC_allNodes), (126, false, 1, tC_cutSteps), (66, true, 1, tC_leastOf), (129, false, 3, tC_cutChange), (36, true, 2, tC_has)]) (C := R_C) (T := T_C) (N := 7) (by decide) (Or.inl ⟨rfl, rfl⟩) ok_C_classBits tb_C (fun l D cA ad => m_calls ?_) ?_ ?_
  · exact List.forall_mem_cons.mpr ⟨o_C56 ⟨Nat.le_of_ble_eq_true rfl, Nat.le_of_ble_eq_true rfl⟩, List.forall_mem_cons.mpr ⟨o_C126 ⟨Nat.le_of_ble_eq_true rfl, Nat.le_of_ble_eq_true rfl⟩, List.forall_mem_cons.mpr ⟨o_C66 ⟨Nat.le_of_ble_eq_true rfl, Nat.le_of_ble_eq_true rfl⟩, List.forall_mem_cons.mpr ⟨o_C129 ⟨Nat.le_of_ble_eq_true rfl, Nat.le_of_ble_eq_true rfl⟩, List.forall_mem_cons.mpr ⟨o_C36 ⟨Nat.le_of_ble_eq_true rfl, Nat.le_of_ble_eq_true rfl⟩, fun _ h => absurd h List.not_mem_nil⟩⟩⟩⟩⟩
  · rintro as h k ⟨n, f, v, K, ⟨j, r, q, t, d, w, rfl, hj, hG⟩, rfl, hv, hK, hk⟩
    exact Nat.le_of_ble_eq_true rfl
  · rintro as h k ⟨n, f, v, K, ⟨j, r, q, t, d, w, rfl, hj, hG⟩, rfl, hv, hK, hk⟩ V hV
    have hh : hC (mkC j (nI n) r q t d w) n f := ⟨j, r, q, t, d, w, rfl, hj, hG⟩
    have hn := hG.1
    have h12 := p12 hn
    have hp0 : 0 < 2 ^ (n - 1) := Nat.pow_pos (by decide)
    have hpn : 2 ^ (n - 1) ≤ 2 ^ n := Nat.pow_le_pow_right (by decide) (by omega)
    have loop : ∀ m s C (z : Option mV), s + 1 + m = 2 ^ (n - 1) → tgI n f v K s C → V (20, [some (.inr 0), some (.inl (nI v)), some (.inl (nI K)), some (.inl (nI C)), some (.inl (nI (gray s))), some (.inl (nI (ct n f (gray s)))), some (.inl (nI (2 ^ (n - 1)))), some (.inl (nI (s + 1))), z], [], mkC j (nI n) r q t d w) := by
      intro m
      induction m with
      | zero =>
        intro s C z hs hI
        refine hV 80 20 _ _ _ (br_ge (a := s + 1) (b := 2 ^ (n - 1)) (by omega) (by omega) (fun _ => ?_) (fun c => absurd c (by omega)))
        have e : s = 2 ^ (n - 1) - 1 := by omega
        rw [e] at hI
        exact hk _ hI
      | succ m ih =>
        intro s C z hs hI
        have hsl : s + 1 < 2 ^ n := by omega
        have hl := lsb_lt hsl (by omega) hn
        have hg := gray_lt (n := n) (s := s) (by omega)
        have hg1 := gray_lt hsl
        have hgs := gray_s (s := s) (by omega)
        have hc1 := ct_lt hG hg1
        have stay : K ≤ ct n f (gray (s + 1)) → tgI n f v K (s + 1) C := fun hle => ⟨hI.1, fun u hu => (hI.2 u hu).trans ⟨fun H i i1 i2 i3 => by
          by_cases hi : i = s + 1
          · rw [hi] at i3; omega
          · exact H i i1 (by omega) i3, fun H i i1 i2 i3 => H i i1 (by omega) i3⟩⟩
        have cut : ∀ C', C' < 2 ^ n → (∀ u, u < n → C'.testBit u = (C.testBit u && ((gray (s + 1)).testBit u == (gray (s + 1)).testBit v))) → ct n f (gray (s + 1)) < K → tgI n f v K (s + 1) C' := fun C' hC' hb hlt => ⟨hC', fun u hu => by
          rw [hb u hu, Bool.and_eq_true, hI.2 u hu, beq_iff_eq]
          constructor
          · rintro ⟨H, e⟩ i i1 i2 i3
            by_cases hi : i = s + 1
            · rw [hi]; exact e
            · exact H i i1 (by omega) i3
          · intro H
            exact ⟨fun i i1 i2 i3 => H i i1 (by omega) i3, H (s + 1) (by omega) (Nat.le_refl _) hlt⟩⟩
        refine hV 80 20 _ _ _ (br_ge (a := s + 1) (b := 2 ^ (n - 1)) (by omega) (by omega) (fun c => absurd c (by omega)) (fun _ => ⟨_, rfl, by omega, by omega, ⟨n, f, _, _, hh, rfl, hl, by omega, fun x hx => ?_⟩⟩))
        rw [← hgs] at hx
        refine nm_r hx (nm_r (nx_shl _ (by omega)) (nm_r (e' := nI (gray (s + 1))) (by rw [nx_xor, hgs]; rfl) (br_ge (a := ct n f (gray (s + 1))) (b := K) (by omega) hK (fun c => nm_r (nI_1 _) ?_) (fun c => ⟨_, _, rfl, by omega, by omega, br_eq (fun c2 => nm_e (nm_r (nx_sd _ _) (nm_r (nI_1 _) ?_))) (fun c2 => nm_r (nx_and _ _) (nm_r (nI_1 _) ?_))⟩))))
        · exact ih (s + 1) C _ (by omega) (stay c)
        · exact ih (s + 1) _ _ (by omega) (cut _ (sd_lt hI.1) (fun u hu => by rw [tb_sd, c2]; cases (gray (s + 1)).testBit u <;> rfl) c)
        · exact ih (s + 1) _ _ (by omega) (cut _ (and_lt hI.1) (fun u hu => by rw [Nat.testBit_and, c2]; cases (gray (s + 1)).testBit u <;> rfl) c)
    have start := loop (2 ^ (n - 1) - 1) 0 (2 ^ n - 1) none (by omega) ⟨pw_pos n, fun u hu => ⟨fun _ i i1 i2 => by omega, fun _ => by rw [tb_all]; simp [hu]⟩⟩
    rw [gray_0, ct_0] at start
    exact hV 60 0 _ _ _ ⟨n, f, hh, rfl, ⟨n, f, hh, rfl, by omega, start⟩⟩
theorem o_C132 {D : va_G} {cA : ClassId} {ad : Nat → Nat} {l : Launch} {R : Room} (hR : 3 + 1 ≤ R.frames ∧ 32 * (3 + 1) ≤ R.locals) : m_OK D cls cA 0 ad TB l "DegreeCores" R 132 false (2 + 1) tC_classBits :=
  m_okV (C := R_C) (Tu := T_C) (N := 7) rfl c_C_classBits (by decide) tb_good w_C132 ⟨rfl, by decide +kernel, by decide +kernel, by decide +kernel⟩ (by decide) hR (by rintro as h k ⟨n, f, v, K, ⟨j, r, q, t, d, w, rfl, hj, hG⟩, rfl, hv, hK, hk⟩; exact ⟨0, _, _, rfl, rfl⟩)
/-- the least of a node's part -/
def isCl (n : Nat) (f : Nat → Nat) (v K u : Nat) : Prop := u ≤ v ∧ (u ≠ v → ∃ r, isFirm n f u v r ∧ K ≤ r) ∧ ∀ x, x < u → ∃ r, isFirm n f x v r ∧ r < K
theorem cl_one {n : Nat} {f : Nat → Nat} {v K u u' : Nat} (h : isCl n f v K u) (h' : isCl n f v K u') : u = u' := by
  have key : ∀ a b, isCl n f v K a → isCl n f v K b → ¬ a < b := by
    intro a b ha hb hlt
    obtain ⟨r, hr, hr2⟩ := hb.2.2 a hlt
    obtain ⟨r', hr', hr2'⟩ := ha.2.1 (by have := hb.1; omega)
    have := firm_one hr hr'
    omega
  have k1 := key u u' h h'
  have k2 := key u' u h' h
  omega
theorem cl_of {n : Nat} {f : Nat → Nat} (hG : Gr n f) {v K C : Nat} (hv : v < n) (h : tgI n f v K (2 ^ (n - 1) - 1) C) : C ≠ 0 ∧ isCl n f v K (lsb C) := by
  have hn := hG.1
  have h12 := p12 hn
  have hvC : C.testBit v = true := (h.2 v hv).mpr (fun i _ _ _ => rfl)
  have hne := ne_of_tb hvC
  have hC := h.1
  obtain ⟨l1, l2⟩ := lsb_in (s := C) (by omega) hne
  have hln := lsb_lt hC hne hn
  refine ⟨hne, ?_, fun hne2 => ?_, fun x hx => ?_⟩
  · apply Nat.le_of_not_lt
    intro hlt
    rw [l2 v hlt] at hvC
    cases hvC
  · obtain ⟨r, hr⟩ := firm_ex (n := n) (f := f) (lsb C) v hln hne2
    refine ⟨r, hr, Nat.le_of_not_lt (fun hlt => ?_)⟩
    obtain ⟨⟨S, s1, s2, s3, s4⟩, -⟩ := id hr
    obtain ⟨i, i1, i2, i3, i4⟩ := cut_seen hG (by omega) hln hv s1 (by rw [s2, s3]; simp)
    have e := (h.2 _ hln).mp l1 i i1 (by omega) (by omega)
    exact (i4 _ _ hln hv).mpr (by rw [s2, s3]; simp) e
  · have hxn : x < n := by omega
    have hxv : x ≠ v := fun z => by rw [← z, l2 x hx] at hvC; cases hvC
    obtain ⟨r, hr⟩ := firm_ex (n := n) (f := f) x v hxn hxv
    refine ⟨r, hr, ?_⟩
    have hnot : ¬ ∀ i, 0 < i → i ≤ 2 ^ (n - 1) - 1 → ct n f (gray i) < K → (gray i).testBit x = (gray i).testBit v := fun H => by
      have := (h.2 x hxn).mpr H
      rw [l2 x hx] at this
      cases this
    apply Classical.byContradiction
    intro hge
    apply hnot
    intro i i1 i2 i3
    apply Classical.byContradiction
    intro hsep
    have hp0 : 0 < 2 ^ (n - 1) := Nat.pow_pos (by decide)
    have := sep_ge hG hr hxn hv (gray_lt (half_lt (by omega) (by omega))) hsep
    omega
def aCls (n : Nat) (f : Nat → Nat) (x y r : Int32) : Prop := (isN n x = false ∧ r = -1) ∨ (isN n x = true ∧ y < 0 ∧ r = -2) ∨ ∃ v K u, v < n ∧ K < 2 ^ 31 ∧ x = nI v ∧ y = nI K ∧ isCl n f v K u ∧ r = nI u
def tC_classOf : mT := fun as h k => ∃ n f x y, hC h n f ∧ as = [.inr 0, .inl x, .inl y] ∧ ∀ r, aCls n f x y r → k (some r) h
set_option maxHeartbeats 4000000 in
set_option maxRecDepth 20000 in
theorem c_C_classOf : m_Con cls 0 TB y_C_classOf b_C_classOf 3 (some .int) 0 4 tC_classOf := by
  refine m_con (code := k_C_classOf) (fld := f_C) (fpt := p_C) (kon := []) (call := [(39, false, 2, tC_isNode), (132, false, 3, tC_classBits), (66, true, 1, tC_leastOf)]) (C := R_C) (T := T_C) (N := 7) (by decide) (Or.inl ⟨rfl, rfl⟩) ok_C_classOf tb_C (fun l D cA ad => m_calls ?_) ?_ ?_
  · exact List.forall_mem_cons.mpr ⟨o_C39 ⟨Nat.le_of_ble_eq_true rfl, Nat.le_of_ble_eq_true rfl⟩, List.forall_mem_cons.mpr ⟨o_C132 ⟨Nat.le_of_ble_eq_true rfl, Nat.le_of_ble_eq_true rfl⟩, List.forall_mem_cons.mpr ⟨o_C66 ⟨Nat.le_of_ble_eq_true rfl, Nat.le_of_ble_eq_true rfl⟩, fun _ h => absurd h List.not_mem_nil⟩⟩⟩
  · rintro as h k ⟨n, f, x, y, ⟨j, r, q, t, d, w, rfl, hj, hG⟩, rfl, hk⟩
    exact Nat.le_of_ble_eq_true rfl
  · rintro as h k ⟨n, f, x, y, ⟨j, r, q, t, d, w, rfl, hj, hG⟩, rfl, hk⟩ V hV
    have hh : hC (mkC j (nI n) r q t d w) n f := ⟨j, r, q, t, d, w, rfl, hj, hG⟩
    have hn := hG.1
    have h12 := p12 hn
    refine hV 60 0 _ _ _ ⟨n, f, x, hh, rfl, br_ne (fun c => And.intro (fun c2 => ?_) (fun c2 => hk _ (Or.inr (Or.inl ⟨c, Int32.not_le.mp c2, rfl⟩)))) (fun c => hk _ (Or.inl ⟨c, rfl⟩))⟩
    have c2 : 0 ≤ y := c2
    obtain ⟨K, hK, rfl⟩ := nI_of (Int32.not_lt.mpr c2)
    obtain ⟨v, hv, rfl⟩ := isN_t hn c
    refine ⟨n, f, v, K, hh, rfl, hv, hK, fun C hC => ?_⟩
    obtain ⟨h1, h2⟩ := cl_of hG hv hC
    have hlt := hC.1
    exact ⟨C, rfl, by omega, h1, hk _ (Or.inr (Or.inr ⟨v, K, _, hv, hK, rfl, rfl, h2, rfl⟩))⟩
def aDst (n : Nat) (f : Nat → Nat) (r : Int32) : Prop := (n = 0 ∧ r = -3) ∨ (0 < n ∧ ∃ S, isDen n f S ∧ r = nI S)
def tC_densest : mT := fun as h k => ∃ n f, hC h n f ∧ as = [.inr 0] ∧ ∀ r, aDst n f r → k (some r) h
set_option maxHeartbeats 4000000 in
set_option maxRecDepth 20000 in
theorem c_C_densest : m_Con cls 0 TB y_C_densest b_C_densest 1 (some .int) 0 3 tC_densest := by
  refine m_con (code := k_C_densest) (fld := f_C) (fpt := p_C) (kon := []) (call := [(123, false, 1, tC_densestBits)]) (C := R_C) (T := T_C) (N := 7) (by decide) (Or.inl ⟨rfl, rfl⟩) ok_C_densest tb_C (fun l D cA ad => m_calls ?_) ?_ ?_
  · exact List.forall_mem_cons.mpr ⟨o_C123 ⟨Nat.le_of_ble_eq_true rfl, Nat.le_of_ble_eq_true rfl⟩, fun _ h => absurd h List.not_mem_nil⟩
  · rintro as h k ⟨n, f, ⟨j, r, q, t, d, w, rfl, hj, hG⟩, rfl, hk⟩
    exact Nat.le_of_ble_eq_true rfl
  · rintro as h k ⟨n, f, ⟨j, r, q, t, d, w, rfl, hj, hG⟩, rfl, hk⟩ V hV
    have hh : hC (mkC j (nI n) r q t d w) n f := ⟨j, r, q, t, d, w, rfl, hj, hG⟩
    have hn := hG.1
    exact hV 60 0 _ _ _ (br_n (a := n) (b := 0) (by omega) (by omega) (fun c => ⟨n, f, hh, rfl, fun S h0 h1 => hk _ (Or.inr ⟨by omega, S, h1 (by omega), rfl⟩)⟩) (fun c => hk _ (Or.inl ⟨c, rfl⟩)))
def aDen (n : Nat) (f : Nat → Nat) (p r : Int32) : Prop := (isP p = false ∧ r = -2) ∨ (isP p = true ∧ n = 0 ∧ r = -3) ∨ (isP p = true ∧ 0 < n ∧ ∃ S, isDen n f S ∧ r = shr (nI (e1 n f S)) (e1 n f S) (pop S) p)
def tC_density : mT := fun as h k => ∃ n f p, hC h n f ∧ as = [.inr 0, .inl p] ∧ ∀ r, aDen n f p r → k (some r) h
set_option maxHeartbeats 4000000 in
set_option maxRecDepth 20000 in
theorem c_C_density : m_Con cls 0 TB y_C_density b_C_density 3 (some .int) 0 3 tC_density := by
  refine m_con (code := k_C_density) (fld := f_C) (fpt := p_C) (kon := []) (call := [(101, true, 1, tC_isPart), (123, false, 1, tC_densestBits), (114, false, 2, tC_edgesWithin), (43, true, 1, t_bitCount), (110, true, 3, tC_share)]) (C := R_C) (T := T_C) (N := 7) (by decide) (Or.inl ⟨rfl, rfl⟩) ok_C_density tb_C (fun l D cA ad => m_calls ?_) ?_ ?_
  · exact List.forall_mem_cons.mpr ⟨o_C101 ⟨Nat.le_of_ble_eq_true rfl, Nat.le_of_ble_eq_true rfl⟩, List.forall_mem_cons.mpr ⟨o_C123 ⟨Nat.le_of_ble_eq_true rfl, Nat.le_of_ble_eq_true rfl⟩, List.forall_mem_cons.mpr ⟨o_C114 ⟨Nat.le_of_ble_eq_true rfl, Nat.le_of_ble_eq_true rfl⟩, List.forall_mem_cons.mpr ⟨o_C43 ⟨Nat.le_of_ble_eq_true rfl, Nat.le_of_ble_eq_true rfl⟩, List.forall_mem_cons.mpr ⟨o_C110 ⟨Nat.le_of_ble_eq_true rfl, Nat.le_of_ble_eq_true rfl⟩, fun _ h => absurd h List.not_mem_nil⟩⟩⟩⟩⟩
  · rintro as h k ⟨n, f, p, ⟨j, r, q, t, d, w, rfl, hj, hG⟩, rfl, hk⟩
    exact Nat.le_of_ble_eq_true rfl
  · rintro as h k ⟨n, f, p, ⟨j, r, q, t, d, w, rfl, hj, hG⟩, rfl, hk⟩ V hV
    have hh : hC (mkC j (nI n) r q t d w) n f := ⟨j, r, q, t, d, w, rfl, hj, hG⟩
    have hn := hG.1
    have h12 := p12 hn
    refine hV 60 0 _ _ _ ⟨p, rfl, br_ne (fun c => ⟨n, f, hh, rfl, fun S h0 h1 => ?_⟩) (fun c => hk _ (Or.inl ⟨c, rfl⟩))⟩
    have hS : S < 2 ^ n := by
      rcases Nat.eq_zero_or_pos n with e | e
      · rw [h0 e]; exact Nat.pow_pos (by decide)
      · exact (h1 e).1
    have x1 := e1_72 hG S
    have x2 := pop_le hS hn
    refine ⟨n, f, S, hh, rfl, by omega, ⟨_, rfl, ?_⟩⟩
    rw [bc_n (by omega)]
    refine ⟨_, _, _, p, rfl, abs_n (by omega), by omega, by omega, hk _ ?_⟩
    rcases Nat.eq_zero_or_pos n with e | e
    · refine Or.inr (Or.inl ⟨c, e, ?_⟩)
      rw [h0 e, pop_0]
      rfl
    · exact Or.inr (Or.inr ⟨c, e, S, h1 e, rfl⟩)
