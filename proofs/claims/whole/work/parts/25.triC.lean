/-! triangles and shares of the object -/
def prs (d : Nat) : Nat := d * (d - 1) / 2
theorem prs_I : ∀ c, c ≤ 12 → nI c * (nI c - 1) / 2 = nI (prs c) := by decide +kernel
theorem prs_66 : ∀ c, c ≤ 12 → prs c ≤ 66 := by decide +kernel
def tC_pairsOf : mT := fun as h k => ∃ c, as = [.inl (nI c)] ∧ c ≤ 12 ∧ k (some (nI (prs c))) h
set_option maxHeartbeats 4000000 in
set_option maxRecDepth 20000 in
theorem c_C_pairsOf : m_Con cls 0 TB y_C_pairsOf b_C_pairsOf 1 (some .int) 0 0 tC_pairsOf := by
  refine m_con (code := k_C_pairsOf) (fld := f_C) (fpt := p_C) (kon := []) (call := []) (C := R_C) (T := T_C) (N := 7) (by decide) (Or.inl ⟨rfl, rfl⟩) ok_C_pairsOf tb_C (fun l D cA ad => m_calls ?_) ?_ ?_
  · exact fun _ h => absurd h List.not_mem_nil
  · rintro as h k ⟨c, rfl, hc, hk⟩
    exact Nat.le_of_ble_eq_true rfl
  · rintro as h k ⟨c, rfl, hc, hk⟩ V hV
    refine hV 60 0 _ _ _ (nm_e (nm_e (And.intro (by decide) (nm_r (prs_I c hc) hk))))
theorem o_C117 {D : va_G} {cA : ClassId} {ad : Nat → Nat} {l : Launch} {R : Room} (hR : 0 + 1 ≤ R.frames ∧ 32 * (0 + 1) ≤ R.locals) : m_OK D cls cA 0 ad TB l "DegreeCores" R 117 true 1 tC_pairsOf :=
  m_okS c_C_pairsOf (by decide) tb_good w_C117 ⟨by decide +kernel, by decide +kernel, by decide +kernel⟩ (by decide) hR
def tC_pairsAt : mT := fun as h k => ∃ n f v, hC h n f ∧ as = [.inr 0, .inl (nI v)] ∧ v < n ∧ k (some (nI (prs (pop (f v))))) h
set_option maxHeartbeats 4000000 in
set_option maxRecDepth 20000 in
theorem c_C_pairsAt : m_Con cls 0 TB y_C_pairsAt b_C_pairsAt 2 (some .int) 0 1 tC_pairsAt := by
  refine m_con (code := k_C_pairsAt) (fld := f_C) (fpt := p_C) (kon := []) (call := [(43, true, 1, t_bitCount), (117, true, 1, tC_pairsOf)]) (C := R_C) (T := T_C) (N := 7) (by decide) (Or.inl ⟨rfl, rfl⟩) ok_C_pairsAt tb_C (fun l D cA ad => m_calls ?_) ?_ ?_
  · exact List.forall_mem_cons.mpr ⟨o_C43 ⟨Nat.le_of_ble_eq_true rfl, Nat.le_of_ble_eq_true rfl⟩, List.forall_mem_cons.mpr ⟨o_C117 ⟨Nat.le_of_ble_eq_true rfl, Nat.le_of_ble_eq_true rfl⟩, fun _ h => absurd h List.not_mem_nil⟩⟩
  · rintro as h k ⟨n, f, v, ⟨j, r, q, t, d, w, rfl, hj, hG⟩, rfl, hv, hk⟩
    exact Nat.le_of_ble_eq_true rfl
  · rintro as h k ⟨n, f, v, ⟨j, r, q, t, d, w, rfl, hj, hG⟩, rfl, hv, hk⟩ V hV
    have hn := hG.1
    refine hV 60 0 _ _ _ (And.intro (vp_in_nI (by omega) (by omega)) (nm_r (by rw [clamp12 hv hn, hj v hv]) ⟨_, rfl, ?_⟩))
    rw [bc_n (g31 hG hv)]
    have := pop_le (hG.2.1 v hv) hn
    exact ⟨_, rfl, by omega, hk⟩
theorem o_C107 {D : va_G} {cA : ClassId} {ad : Nat → Nat} {l : Launch} {R : Room} (hR : 1 + 1 ≤ R.frames ∧ 32 * (1 + 1) ≤ R.locals) : m_OK D cls cA 0 ad TB l "DegreeCores" R 107 false (1 + 1) tC_pairsAt :=
  m_okV (C := R_C) (Tu := T_C) (N := 7) rfl c_C_pairsAt (by decide) tb_good w_C107 ⟨rfl, by decide +kernel, by decide +kernel, by decide +kernel⟩ (by decide) hR (by rintro as h k ⟨n, f, v, ⟨j, r, q, t, d, w, rfl, hj, hG⟩, rfl, hv, hk⟩; exact ⟨0, _, _, rfl, rfl⟩)
def tC_trianglesAt : mT := fun as h k => ∃ n f v, hC h n f ∧ as = [.inr 0, .inl (nI v)] ∧ v < n ∧ k (some (nI (e1 n f (f v)))) h
set_option maxHeartbeats 4000000 in
set_option maxRecDepth 20000 in
theorem c_C_trianglesAt : m_Con cls 0 TB y_C_trianglesAt b_C_trianglesAt 2 (some .int) 0 3 tC_trianglesAt := by
  refine m_con (code := k_C_trianglesAt) (fld := f_C) (fpt := p_C) (kon := []) (call := [(114, false, 2, tC_edgesWithin)]) (C := R_C) (T := T_C) (N := 7) (by decide) (Or.inl ⟨rfl, rfl⟩) ok_C_trianglesAt tb_C (fun l D cA ad => m_calls ?_) ?_ ?_
  · exact List.forall_mem_cons.mpr ⟨o_C114 ⟨Nat.le_of_ble_eq_true rfl, Nat.le_of_ble_eq_true rfl⟩, fun _ h => absurd h List.not_mem_nil⟩
  · rintro as h k ⟨n, f, v, ⟨j, r, q, t, d, w, rfl, hj, hG⟩, rfl, hv, hk⟩
    exact Nat.le_of_ble_eq_true rfl
  · rintro as h k ⟨n, f, v, ⟨j, r, q, t, d, w, rfl, hj, hG⟩, rfl, hv, hk⟩ V hV
    have hh : hC (mkC j (nI n) r q t d w) n f := ⟨j, r, q, t, d, w, rfl, hj, hG⟩
    have hn := hG.1
    exact hV 60 0 _ _ _ (And.intro (vp_in_nI (by omega) (by omega)) (nm_r (by rw [clamp12 hv hn, hj v hv]) ⟨n, f, _, hh, rfl, g31 hG hv, hk⟩))
theorem o_C104 {D : va_G} {cA : ClassId} {ad : Nat → Nat} {l : Launch} {R : Room} (hR : 3 + 1 ≤ R.frames ∧ 32 * (3 + 1) ≤ R.locals) : m_OK D cls cA 0 ad TB l "DegreeCores" R 104 false (1 + 1) tC_trianglesAt :=
  m_okV (C := R_C) (Tu := T_C) (N := 7) rfl c_C_trianglesAt (by decide) tb_good w_C104 ⟨rfl, by decide +kernel, by decide +kernel, by decide +kernel⟩ (by decide) hR (by rintro as h k ⟨n, f, v, ⟨j, r, q, t, d, w, rfl, hj, hG⟩, rfl, hv, hk⟩; exact ⟨0, _, _, rfl, rfl⟩)
def tC_triangleCorners : mT := fun as h k => ∃ n f, hC h n f ∧ as = [.inr 0] ∧ k (some (nI (3 * tc n f))) h
set_option maxHeartbeats 4000000 in
set_option maxRecDepth 20000 in
theorem c_C_triangleCorners : m_Con cls 0 TB y_C_triangleCorners b_C_triangleCorners 3 (some .int) 0 4 tC_triangleCorners := by
  refine m_con (code := k_C_triangleCorners) (fld := f_C) (fpt := p_C) (kon := []) (call := [(104, false, 2, tC_trianglesAt)]) (C := R_C) (T := T_C) (N := 7) (by decide) (Or.inl ⟨rfl, rfl⟩) ok_C_triangleCorners tb_C (fun l D cA ad => m_calls ?_) ?_ ?_
  · exact List.forall_mem_cons.mpr ⟨o_C104 ⟨Nat.le_of_ble_eq_true rfl, Nat.le_of_ble_eq_true rfl⟩, fun _ h => absurd h List.not_mem_nil⟩
  · rintro as h k ⟨n, f, ⟨j, r, q, t, d, w, rfl, hj, hG⟩, rfl, hk⟩
    exact Nat.le_of_ble_eq_true rfl
  · rintro as h k ⟨n, f, ⟨j, r, q, t, d, w, rfl, hj, hG⟩, rfl, hk⟩ V hV
    have hh : hC (mkC j (nI n) r q t d w) n f := ⟨j, r, q, t, d, w, rfl, hj, hG⟩
    have hn := hG.1
    have loop : ∀ m v acc, v + m = n → acc = sm (fun u => e1 n f (f u)) v → V (4, [some (.inr 0), some (.inl (nI acc)), some (.inl (nI v))], [], mkC j (nI n) r q t d w) := by
      intro m
      induction m with
      | zero =>
        intro v acc hv hacc
        have hvn : v = n := by omega
        subst hvn
        refine hV 60 4 _ _ _ (br_ge (a := v) (b := v) (by omega) (by omega) (fun _ => ?_) (fun c => absurd c (by omega)))
        rw [tri_3 hG] at hacc
        rw [← hacc] at hk
        exact hk
      | succ m ih =>
        intro v acc hv hacc
        refine hV 60 4 _ _ _ (br_ge (a := v) (b := n) (by omega) (by omega) (fun c => absurd c (by omega)) (fun _ => ⟨n, f, v, hh, rfl, by omega, nm_r (nI_add _ _) (nm_r (nI_1 v) ?_)⟩))
        exact ih (v + 1) _ (by omega) (by rw [hacc]; rfl)
    exact hV 60 0 _ _ _ (loop n 0 0 (by omega) rfl)
theorem o_C77 {D : va_G} {cA : ClassId} {ad : Nat → Nat} {l : Launch} {R : Room} (hR : 4 + 1 ≤ R.frames ∧ 32 * (4 + 1) ≤ R.locals) : m_OK D cls cA 0 ad TB l "DegreeCores" R 77 false (0 + 1) tC_triangleCorners :=
  m_okV (C := R_C) (Tu := T_C) (N := 7) rfl c_C_triangleCorners (by decide) tb_good w_C77 ⟨rfl, by decide +kernel, by decide +kernel, by decide +kernel⟩ (by decide) hR (by rintro as h k ⟨n, f, ⟨j, r, q, t, d, w, rfl, hj, hG⟩, rfl, hk⟩; exact ⟨0, _, _, rfl, rfl⟩)
theorem e1_72 {n : Nat} {f : Nat → Nat} (hG : Gr n f) (S : Nat) : e1 n f S ≤ 72 := by
  have := e2_lt hG S n (Nat.le_refl _)
  have h2 := e2_e1 hG S
  omega
theorem tc_le {n : Nat} {f : Nat → Nat} (hG : Gr n f) : 3 * tc n f ≤ 864 := by
  rw [← tri_3 hG]
  have := sm_bound (g := fun v => e1 n f (f v)) (n := n) (c := 72) (fun v _ => e1_72 hG _)
  have := hG.1
  have h3 : n * 72 ≤ 864 := by omega
  omega
def tC_triangles : mT := fun as h k => ∃ n f, hC h n f ∧ as = [.inr 0] ∧ k (some (nI (tc n f))) h
set_option maxHeartbeats 4000000 in
set_option maxRecDepth 20000 in
theorem c_C_triangles : m_Con cls 0 TB y_C_triangles b_C_triangles 1 (some .int) 0 5 tC_triangles := by
  refine m_con (code := k_C_triangles) (fld := f_C) (fpt := p_C) (kon := []) (call := [(77, false, 1, tC_triangleCorners)]) (C := R_C) (T := T_C) (N := 7) (by decide) (Or.inl ⟨rfl, rfl⟩) ok_C_triangles tb_C (fun l D cA ad => m_calls ?_) ?_ ?_
  · exact List.forall_mem_cons.mpr ⟨o_C77 ⟨Nat.le_of_ble_eq_true rfl, Nat.le_of_ble_eq_true rfl⟩, fun _ h => absurd h List.not_mem_nil⟩
  · rintro as h k ⟨n, f, ⟨j, r, q, t, d, w, rfl, hj, hG⟩, rfl, hk⟩
    exact Nat.le_of_ble_eq_true rfl
  · rintro as h k ⟨n, f, ⟨j, r, q, t, d, w, rfl, hj, hG⟩, rfl, hk⟩ V hV
    have hh : hC (mkC j (nI n) r q t d w) n f := ⟨j, r, q, t, d, w, rfl, hj, hG⟩
    have := tc_le hG
    refine hV 60 0 _ _ _ ⟨n, f, hh, rfl, And.intro (by decide) (nm_r (e' := nI (tc n f)) ?_ hk)⟩
    have h3 := pk_div (a := 3 * tc n f) (d := 3) (by omega) (by decide) (by decide)
    have e : 3 * tc n f / 3 = tc n f := by omega
    rw [e] at h3
    exact h3
def tC_isTriangle : mT := fun as h k => ∃ n f a b c, hC h n f ∧ as = [.inr 0, .inl (nI a), .inl (nI b), .inl (nI c)] ∧ a < n ∧ b < n ∧ c < n ∧ k (some (b2i (tri f a b c))) h
set_option maxHeartbeats 4000000 in
set_option maxRecDepth 20000 in
theorem c_C_isTriangle : m_Con cls 0 TB y_C_isTriangle b_C_isTriangle 4 (some .boolean) 1 1 tC_isTriangle := by
  refine m_con (code := k_C_isTriangle) (fld := f_C) (fpt := p_C) (kon := []) (call := [(36, true, 2, tC_has)]) (C := R_C) (T := T_C) (N := 7) (by decide) (Or.inr (Or.inl ⟨rfl, rfl⟩)) ok_C_isTriangle tb_C (fun l D cA ad => m_calls ?_) ?_ ?_
  · exact List.forall_mem_cons.mpr ⟨o_C36 ⟨Nat.le_of_ble_eq_true rfl, Nat.le_of_ble_eq_true rfl⟩, fun _ h => absurd h List.not_mem_nil⟩
  · rintro as h k ⟨n, f, a, b, c, ⟨j, r, q, t, d, w, rfl, hj, hG⟩, rfl, ha, hb, hc, hk⟩
    exact Nat.le_of_ble_eq_true rfl
  · rintro as h k ⟨n, f, a, b, c, ⟨j, r, q, t, d, w, rfl, hj, hG⟩, rfl, ha, hb, hc, hk⟩ V hV
    have hn := hG.1
    have ga := g31 hG ha
    have gb := g31 hG hb
    refine hV 60 0 _ _ _ (And.intro (vp_in_nI (by omega) (by omega)) (nm_r (by rw [clamp12 ha hn, hj a ha]) ⟨f a, b, rfl, by omega, by omega, br_eq (fun c1 => And.intro (Or.inl rfl) ?_) (fun c1 => ?_)⟩))
    · have e : tri f a b c = false := by simp [tri, c1]
      rw [e] at hk; exact hk
    refine And.intro (vp_in_nI (by omega) (by omega)) (nm_r (by rw [clamp12 ha hn, hj a ha]) ⟨f a, c, rfl, by omega, by omega, br_eq (fun c2 => And.intro (Or.inl rfl) ?_) (fun c2 => ?_)⟩)
    · have e : tri f a b c = false := by simp [tri, c2]
      rw [e] at hk; exact hk
    refine And.intro (vp_in_nI (by omega) (by omega)) (nm_r (by rw [clamp12 hb hn, hj b hb]) ⟨f b, c, rfl, by omega, by omega, br_eq (fun c3 => And.intro (Or.inl rfl) ?_) (fun c3 => And.intro (Or.inr rfl) ?_)⟩)
    · have e : tri f a b c = false := by simp [tri, c3]
      rw [e] at hk; exact hk
    · have e : tri f a b c = true := by simp [tri, c1, c2, c3]
      rw [e] at hk; exact hk
theorem o_C80 {D : va_G} {cA : ClassId} {ad : Nat → Nat} {l : Launch} {R : Room} (hR : 1 + 1 ≤ R.frames ∧ 32 * (1 + 1) ≤ R.locals) : m_OK D cls cA 0 ad TB l "DegreeCores" R 80 false (3 + 1) tC_isTriangle :=
  m_okV (C := R_C) (Tu := T_C) (N := 7) rfl c_C_isTriangle (by decide) tb_good w_C80 ⟨rfl, by decide +kernel, by decide +kernel, by decide +kernel⟩ (by decide) hR (by rintro as h k ⟨n, f, a, b, c, ⟨j, r, q, t, d, w, rfl, hj, hG⟩, rfl, ha, hb, hc, hk⟩; exact ⟨0, _, _, rfl, rfl⟩)
def isP (x : Int32) : Bool := decide (x = 0) || decide (x = 1)
def tC_isPart : mT := fun as h k => ∃ x, as = [.inl x] ∧ k (some (b2i (isP x))) h
set_option maxHeartbeats 4000000 in
set_option maxRecDepth 20000 in
theorem c_C_isPart : m_Con cls 0 TB y_C_isPart b_C_isPart 1 (some .boolean) 1 0 tC_isPart := by
  refine m_con (code := k_C_isPart) (fld := f_C) (fpt := p_C) (kon := []) (call := []) (C := R_C) (T := T_C) (N := 7) (by decide) (Or.inr (Or.inl ⟨rfl, rfl⟩)) ok_C_isPart tb_C (fun l D cA ad => m_calls ?_) ?_ ?_
  · exact fun _ h => absurd h List.not_mem_nil
  · rintro as h k ⟨x, rfl, hk⟩
    exact Nat.le_of_ble_eq_true rfl
  · rintro as h k ⟨x, rfl, hk⟩ V hV
    refine hV 60 0 _ _ _ (And.intro (fun c => And.intro (Or.inr rfl) ?_) (fun c => And.intro (fun c2 => And.intro (Or.inl rfl) ?_) (fun c2 => And.intro (Or.inr rfl) ?_)))
    · have c : x = 0 := c
      have e : isP x = true := by simp [isP, c]
      rw [e] at hk; exact hk
    · have c : ¬ x = 0 := c
      have c2 : ¬ x = 1 := c2
      have e : isP x = false := by simp [isP, c, c2]
      rw [e] at hk; exact hk
    · have c2 : x = 1 := c2
      have e : isP x = true := by simp [isP, c2]
      rw [e] at hk; exact hk
theorem o_C101 {D : va_G} {cA : ClassId} {ad : Nat → Nat} {l : Launch} {R : Room} (hR : 0 + 1 ≤ R.frames ∧ 32 * (0 + 1) ≤ R.locals) : m_OK D cls cA 0 ad TB l "DegreeCores" R 101 true 1 tC_isPart :=
  m_okS c_C_isPart (by decide) tb_good w_C101 ⟨by decide +kernel, by decide +kernel, by decide +kernel⟩ (by decide) hR
def tC_greatestDivisor : mT := fun as h k => ∃ a b, as = [.inl (nI a), .inl (nI b)] ∧ a < 2 ^ 25 ∧ b < 2 ^ 25 ∧ k (some (nI (Nat.gcd a b))) h
set_option maxHeartbeats 4000000 in
set_option maxRecDepth 20000 in
theorem c_C_greatestDivisor : m_Con cls 0 TB y_C_greatestDivisor b_C_greatestDivisor 6 (some .int) 0 0 tC_greatestDivisor := by
  refine m_con (code := k_C_greatestDivisor) (fld := f_C) (fpt := p_C) (kon := []) (call := []) (C := R_C) (T := T_C) (N := 7) (by decide) (Or.inl ⟨rfl, rfl⟩) ok_C_greatestDivisor tb_C (fun l D cA ad => m_calls ?_) ?_ ?_
  · exact fun _ h => absurd h List.not_mem_nil
  · rintro as h k ⟨a, b, rfl, ha, hb, hk⟩
    exact Nat.le_of_ble_eq_true rfl
  · rintro as h k ⟨a, b, rfl, ha, hb, hk⟩ V hV
    have loop : ∀ m i x y (z5 : Option mV), i + m = 50 → x < 2 ^ 25 → y < 2 ^ 25 → eu m (x, y) = (Nat.gcd a b, 0) → V (7, [some (.inl (nI a)), some (.inl (nI b)), some (.inl (nI x)), some (.inl (nI y)), some (.inl (nI i)), z5], [], h) := by
      intro m
      induction m with
      | zero =>
        intro i x y z5 hi hx hy he
        refine hV 60 7 _ _ _ (br_ge (a := i) (b := 50) (by omega) (by omega) (fun _ => ?_) (fun c => absurd c (by omega)))
        have e : x = Nat.gcd a b := congrArg Prod.fst he
        rw [← e] at hk
        exact hk
      | succ m ih =>
        intro i x y z5 hi hx hy he
        refine hV 60 7 _ _ _ (br_ge (a := i) (b := 50) (by omega) (by omega) (fun c => absurd c (by omega)) (fun _ => br_e (a := y) (b := 0) (by omega) (by omega) (fun c => ?_) (fun c => ?_)))
        · rw [eu, if_pos c] at he
          have e : x = Nat.gcd a b := congrArg Prod.fst he
          rw [← e] at hk
          exact hk
        · rw [eu, if_neg c] at he
          have hm : x % y < y := Nat.mod_lt _ (by omega)
          refine And.intro (nI_ne0 (by omega) (by omega)) (nm_r (pk_rem (by omega) (by omega) (by omega)) (nm_r (nI_1 i) ?_))
          exact ih (i + 1) y (x % y) _ (by omega) hy (by omega) he
    exact hV 60 0 _ _ _ (loop 50 0 a b none (by omega) ha hb (eu_end 25 50 a b hb (by omega)))
theorem o_C152 {D : va_G} {cA : ClassId} {ad : Nat → Nat} {l : Launch} {R : Room} (hR : 0 + 1 ≤ R.frames ∧ 32 * (0 + 1) ≤ R.locals) : m_OK D cls cA 0 ad TB l "DegreeCores" R 152 true 2 tC_greatestDivisor :=
  m_okS c_C_greatestDivisor (by decide) tb_good w_C152 ⟨by decide +kernel, by decide +kernel, by decide +kernel⟩ (by decide) hR
/-- a part of a share in lowest terms -/
def shr (av : Int32) (A B : Nat) (p : Int32) : Int32 := if B = 0 then -3 else (if p = 0 then av else nI B) / nI (Nat.gcd A B)
def tC_share : mT := fun as h k => ∃ av A B p, as = [.inl av, .inl (nI B), .inl p] ∧ (if 0 ≤ av then av else 0 - av) = nI A ∧ A < 2 ^ 25 ∧ B < 2 ^ 25 ∧ k (some (shr av A B p)) h
set_option maxHeartbeats 4000000 in
set_option maxRecDepth 20000 in
theorem c_C_share : m_Con cls 0 TB y_C_share b_C_share 4 (some .int) 0 1 tC_share := by
  refine m_con (code := k_C_share) (fld := f_C) (fpt := p_C) (kon := []) (call := [(149, true, 1, t_abs), (152, true, 2, tC_greatestDivisor)]) (C := R_C) (T := T_C) (N := 7) (by decide) (Or.inl ⟨rfl, rfl⟩) ok_C_share tb_C (fun l D cA ad => m_calls ?_) ?_ ?_
  · exact List.forall_mem_cons.mpr ⟨o_C149 ⟨Nat.le_of_ble_eq_true rfl, Nat.le_of_ble_eq_true rfl⟩, List.forall_mem_cons.mpr ⟨o_C152 ⟨Nat.le_of_ble_eq_true rfl, Nat.le_of_ble_eq_true rfl⟩, fun _ h => absurd h List.not_mem_nil⟩⟩
  · rintro as h k ⟨av, A, B, p, rfl, hA, hA2, hB, hk⟩
    exact Nat.le_of_ble_eq_true rfl
  · rintro as h k ⟨av, A, B, p, rfl, hA, hA2, hB, hk⟩ V hV
    refine hV 60 0 _ _ _ ⟨_, rfl, ?_⟩
    rw [hA]
    refine ⟨A, B, rfl, hA2, hB, br_e (a := B) (b := 0) (by omega) (by omega) (fun c => ?_) (fun c => ?_)⟩
    · rw [shr, if_pos c] at hk; exact hk
    · have hg : 0 < Nat.gcd A B := Nat.gcd_pos_of_pos_right _ (by omega)
      have hgl : Nat.gcd A B ≤ B := Nat.gcd_le_right _ (by omega)
      rw [shr, if_neg c] at hk
      refine br_n (a := Nat.gcd A B) (b := 0) (by omega) (by omega) (fun c2 => And.intro (fun c3 => ?_) (fun c3 => ?_)) (fun c2 => absurd c2 (by omega))
      · have c3 : ¬ p = 0 := c3
        rw [if_neg c3] at hk
        exact And.intro (nI_ne0 (by omega) (by omega)) (nm_e hk)
      · have c3 : p = 0 := c3
        rw [if_pos c3] at hk
        exact And.intro (nI_ne0 (by omega) (by omega)) (nm_e hk)
theorem o_C110 {D : va_G} {cA : ClassId} {ad : Nat → Nat} {l : Launch} {R : Room} (hR : 1 + 1 ≤ R.frames ∧ 32 * (1 + 1) ≤ R.locals) : m_OK D cls cA 0 ad TB l "DegreeCores" R 110 true 3 tC_share :=
  m_okS c_C_share (by decide) tb_good w_C110 ⟨by decide +kernel, by decide +kernel, by decide +kernel⟩ (by decide) hR
theorem abs_n {A : Nat} (h : A < 2 ^ 31) : (if 0 ≤ nI A then nI A else 0 - nI A) = nI A := if_pos (nI_pos' h)
def aClu (n : Nat) (f : Nat → Nat) (x p : Int32) : Int32 := bif isN n x then (bif isP p then shr (nI (e1 n f (f x.toNatClampNeg))) (e1 n f (f x.toNatClampNeg)) (prs (pop (f x.toNatClampNeg))) p else -2) else -1
def tC_cluster : mT := fun as h k => ∃ n f x p, hC h n f ∧ as = [.inr 0, .inl x, .inl p] ∧ k (some (aClu n f x p)) h
set_option maxHeartbeats 4000000 in
set_option maxRecDepth 20000 in
theorem c_C_cluster : m_Con cls 0 TB y_C_cluster b_C_cluster 3 (some .int) 0 4 tC_cluster := by
  refine m_con (code := k_C_cluster) (fld := f_C) (fpt := p_C) (kon := []) (call := [(39, false, 2, tC_isNode), (101, true, 1, tC_isPart), (104, false, 2, tC_trianglesAt), (107, false, 2, tC_pairsAt), (110, true, 3, tC_share)]) (C := R_C) (T := T_C) (N := 7) (by decide) (Or.inl ⟨rfl, rfl⟩) ok_C_cluster tb_C (fun l D cA ad => m_calls ?_) ?_ ?_
  · exact List.forall_mem_cons.mpr ⟨o_C39 ⟨Nat.le_of_ble_eq_true rfl, Nat.le_of_ble_eq_true rfl⟩, List.forall_mem_cons.mpr ⟨o_C101 ⟨Nat.le_of_ble_eq_true rfl, Nat.le_of_ble_eq_true rfl⟩, List.forall_mem_cons.mpr ⟨o_C104 ⟨Nat.le_of_ble_eq_true rfl, Nat.le_of_ble_eq_true rfl⟩, List.forall_mem_cons.mpr ⟨o_C107 ⟨Nat.le_of_ble_eq_true rfl, Nat.le_of_ble_eq_true rfl⟩, List.forall_mem_cons.mpr ⟨o_C110 ⟨Nat.le_of_ble_eq_true rfl, Nat.le_of_ble_eq_true rfl⟩, fun _ h => absurd h List.not_mem_nil⟩⟩⟩⟩⟩
  · rintro as h k ⟨n, f, x, p, ⟨j, r, q, t, d, w, rfl, hj, hG⟩, rfl, hk⟩
    exact Nat.le_of_ble_eq_true rfl
  · rintro as h k ⟨n, f, x, p, ⟨j, r, q, t, d, w, rfl, hj, hG⟩, rfl, hk⟩ V hV
    have hh : hC (mkC j (nI n) r q t d w) n f := ⟨j, r, q, t, d, w, rfl, hj, hG⟩
    have hn := hG.1
    refine hV 60 0 _ _ _ ⟨n, f, x, hh, rfl, br_ne (fun c => ⟨p, rfl, br_ne (fun c2 => ?_) (fun c2 => ?_)⟩) (fun c => ?_)⟩
    · obtain ⟨v, hv, rfl⟩ := isN_t hn c
      rw [aClu, c, c2, clamp12 hv hn] at hk
      have h1 := e1_72 hG (f v)
      have h2 := prs_66 (pop (f v)) (by have := pop_le (hG.2.1 v hv) hn; omega)
      exact ⟨n, f, v, hh, rfl, hv, ⟨n, f, v, hh, rfl, hv, ⟨_, _, _, p, rfl, abs_n (by omega), by omega, by omega, hk⟩⟩⟩
    · rw [aClu, c, c2] at hk; exact hk
    · rw [aClu, c] at hk; exact hk
def pth (n : Nat) (f : Nat → Nat) : Nat := sm (fun v => prs (pop (f v))) n
theorem pth_le {n m : Nat} {f : Nat → Nat} (hG : Gr n f) (hm : m ≤ n) : pth m f ≤ 792 := by
  have hn := hG.1
  have := sm_bound (g := fun v => prs (pop (f v))) (n := m) (c := 66) (fun v hv => prs_66 _ (by have := pop_le (hG.2.1 v (by omega)) hn; omega))
  have h2 : m * 66 ≤ 792 := by omega
  exact Nat.le_trans this h2
def aClo (n : Nat) (f : Nat → Nat) (p : Int32) : Int32 := bif isP p then shr (nI (3 * tc n f)) (3 * tc n f) (pth n f) p else -2
def tC_closed : mT := fun as h k => ∃ n f p, hC h n f ∧ as = [.inr 0, .inl p] ∧ k (some (aClo n f p)) h
set_option maxHeartbeats 4000000 in
set_option maxRecDepth 20000 in
theorem c_C_closed : m_Con cls 0 TB y_C_closed b_C_closed 4 (some .int) 0 5 tC_closed := by
  refine m_con (code := k_C_closed) (fld := f_C) (fpt := p_C) (kon := []) (call := [(101, true, 1, tC_isPart), (107, false, 2, tC_pairsAt), (77, false, 1, tC_triangleCorners), (110, true, 3, tC_share)]) (C := R_C) (T := T_C) (N := 7) (by decide) (Or.inl ⟨rfl, rfl⟩) ok_C_closed tb_C (fun l D cA ad => m_calls ?_) ?_ ?_
  · exact List.forall_mem_cons.mpr ⟨o_C101 ⟨Nat.le_of_ble_eq_true rfl, Nat.le_of_ble_eq_true rfl⟩, List.forall_mem_cons.mpr ⟨o_C107 ⟨Nat.le_of_ble_eq_true rfl, Nat.le_of_ble_eq_true rfl⟩, List.forall_mem_cons.mpr ⟨o_C77 ⟨Nat.le_of_ble_eq_true rfl, Nat.le_of_ble_eq_true rfl⟩, List.forall_mem_cons.mpr ⟨o_C110 ⟨Nat.le_of_ble_eq_true rfl, Nat.le_of_ble_eq_true rfl⟩, fun _ h => absurd h List.not_mem_nil⟩⟩⟩⟩
  · rintro as h k ⟨n, f, p, ⟨j, r, q, t, d, w, rfl, hj, hG⟩, rfl, hk⟩
    exact Nat.le_of_ble_eq_true rfl
  · rintro as h k ⟨n, f, p, ⟨j, r, q, t, d, w, rfl, hj, hG⟩, rfl, hk⟩ V hV
    have hh : hC (mkC j (nI n) r q t d w) n f := ⟨j, r, q, t, d, w, rfl, hj, hG⟩
    have hn := hG.1
    refine hV 60 0 _ _ _ ⟨p, rfl, br_ne (fun c => ?_) (fun c => ?_)⟩
    · rw [aClo, c] at hk
      have loop : ∀ m v acc, v + m = n → acc = pth v f → V (14, [some (.inr 0), some (.inl p), some (.inl (nI acc)), some (.inl (nI v))], [], mkC j (nI n) r q t d w) := by
        intro m
        induction m with
        | zero =>
          intro v acc hv hacc
          have hvn : v = n := by omega
          subst hvn
          have h1 := tc_le hG
          have h2 := pth_le hG (Nat.le_refl v)
          refine hV 60 14 _ _ _ (br_ge (a := v) (b := v) (by omega) (by omega) (fun _ => ⟨v, f, hh, rfl, ⟨_, _, acc, p, rfl, abs_n (by omega), by omega, by omega, ?_⟩⟩) (fun c => absurd c (by omega)))
          rw [hacc]
          exact hk
        | succ m ih =>
          intro v acc hv hacc
          refine hV 60 14 _ _ _ (br_ge (a := v) (b := n) (by omega) (by omega) (fun c => absurd c (by omega)) (fun _ => ⟨n, f, v, hh, rfl, by omega, nm_r (nI_add _ _) (nm_r (nI_1 v) ?_)⟩))
          exact ih (v + 1) _ (by omega) (by rw [hacc]; rfl)
      exact loop n 0 0 (by omega) rfl
    · rw [aClo, c] at hk; exact hk
