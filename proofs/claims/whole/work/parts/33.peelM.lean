/-! the reference: the peeling, layers -/
/-- the first of least degree, of those of S below v -/
def am (f : Nat → Nat) (S : Nat) : Nat → Option Nat
  | 0 => none
  | v + 1 => bif S.testBit v then (match am f S v with
    | none => some v
    | some u => if dg f S v < dg f S u then some v else some u) else am f S v
theorem am_none {f : Nat → Nat} {S v : Nat} (h : am f S v = none) : ∀ u, u < v → S.testBit u = false := by
  induction v with
  | zero => intro u hu; omega
  | succ v ih =>
    rw [am] at h
    cases hb : S.testBit v with
    | true =>
      rw [hb] at h
      simp only [cond_true] at h
      split at h
      · cases h
      · split at h <;> cases h
    | false =>
      rw [hb] at h
      intro u hu
      by_cases e : u = v
      · rw [e]; exact hb
      · exact ih h u (by omega)
theorem am_some {f : Nat → Nat} {S v u : Nat} (h : am f S v = some u) : u < v ∧ S.testBit u = true ∧ (∀ x, x < v → S.testBit x = true → dg f S u ≤ dg f S x) ∧ ∀ x, x < u → S.testBit x = true → dg f S u < dg f S x := by
  induction v generalizing u with
  | zero => cases h
  | succ v ih =>
    rw [am] at h
    cases hb : S.testBit v with
    | false =>
      rw [hb] at h
      obtain ⟨h1, h2, h3, h4⟩ := ih h
      refine ⟨by omega, h2, fun x hx hxb => ?_, h4⟩
      by_cases e : x = v
      · rw [e, hb] at hxb; cases hxb
      · exact h3 x (by omega) hxb
    | true =>
      rw [hb] at h
      simp only [cond_true] at h
      split at h
      · rename_i hn
        cases h
        have hz := am_none hn
        refine ⟨by omega, hb, fun x hx hxb => ?_, fun x hx hxb => ?_⟩
        · by_cases e : x = v
          · rw [e]; exact Nat.le_refl _
          · rw [hz x (by omega)] at hxb; cases hxb
        · rw [hz x (by omega)] at hxb; cases hxb
      · rename_i w hw
        obtain ⟨h1, h2, h3, h4⟩ := ih hw
        split at h
        · rename_i hlt
          cases h
          refine ⟨by omega, hb, fun x hx hxb => ?_, fun x hx hxb => ?_⟩
          · by_cases e : x = v
            · rw [e]; exact Nat.le_refl _
            · have := h3 x (by omega) hxb; omega
          · have := h3 x hx hxb; omega
        · rename_i hge
          cases h
          refine ⟨by omega, h2, fun x hx hxb => ?_, h4⟩
          by_cases e : x = v
          · rw [e]; omega
          · exact h3 x (by omega) hxb
def tM_peeled : mT := fun as h k => ∃ n f x, hM h n f ∧ as = [.inr 0, .inl x] ∧ k (some (aPeel n f x)) h
set_option maxHeartbeats 4000000 in
set_option maxRecDepth 20000 in
theorem c_M_peeled : m_Con cls 1 TB y_M_peeled b_M_peeled 6 (some .int) 0 1 tM_peeled := by
  refine m_con (code := k_M_peeled) (fld := f_M) (fpt := p_M) (kon := []) (call := [(36, false, 2, tM_isNode), (48, false, 1, tM_all), (44, true, 1, tM_count)]) (C := R_M) (T := T_M) (N := 13) (by decide) (Or.inl ⟨rfl, rfl⟩) ok_M_peeled tb_M (fun l D cA ad => m_calls ?_) ?_ ?_
  · exact List.forall_mem_cons.mpr ⟨o_M36 ⟨Nat.le_of_ble_eq_true rfl, Nat.le_of_ble_eq_true rfl⟩, List.forall_mem_cons.mpr ⟨o_M48 ⟨Nat.le_of_ble_eq_true rfl, Nat.le_of_ble_eq_true rfl⟩, List.forall_mem_cons.mpr ⟨o_M44 ⟨Nat.le_of_ble_eq_true rfl, Nat.le_of_ble_eq_true rfl⟩, fun _ h => absurd h List.not_mem_nil⟩⟩⟩
  · rintro as h k ⟨n, f, x, ⟨j, z, rfl, hj, hG⟩, rfl, hk⟩
    exact Nat.le_of_ble_eq_true rfl
  · rintro as h k ⟨n, f, x, ⟨j, z, rfl, hj, hG⟩, rfl, hk⟩ V hV
    have hh : hM (mkM (nI n) j z) n f := ⟨j, z, rfl, hj, hG⟩
    have hn := hG.1
    have h12 := p12 hn
    refine hV 60 0 _ _ _ ⟨n, f, x, hh, rfl, br_ne (fun c => ?_) (fun c => ?_)⟩
    · obtain ⟨v, hv, rfl⟩ := isN_t hn c
      rw [aPeel, c, clamp12 hv hn] at hk
      have loop : ∀ m u tk (y : Option mV), u + m = v + 1 → (0 < u → tk = nI (tkS n f (pS n f (u - 1)))) → V (20, [some (.inr 0), some (.inl (nI v)), some (.inl (nI (pS n f u))), some (.inl tk), some (.inl (nI u)), y], [], mkM (nI n) j z) := by
        intro m
        induction m with
        | zero =>
          intro u tk y hu htk
          refine hV 60 20 _ _ _ (br_gt (a := u) (b := v) (by omega) (by omega) (fun _ => ?_) (fun c => absurd c (by omega)))
          have e := htk (by omega)
          have e2 : u - 1 = v := by omega
          rw [e2] at e
          subst e
          exact hk
        | succ m ih =>
          intro u tk y hu htk
          have hlt := pS_lt (n := n) (f := f) u
          have hne := pS_ne hG (t := u) (by omega)
          have inner : ∀ m' i, i + m' = n → V (31, [some (.inr 0), some (.inl (nI v)), some (.inl (nI (pS n f u))), some (.inl (oI (am f (pS n f u) i))), some (.inl (nI u)), some (.inl (nI i))], [], mkM (nI n) j z) := by
            intro m'
            induction m' with
            | zero =>
              intro i hi
              have e : i = n := by omega
              subst e
              refine hV 60 31 _ _ _ (br_ge (a := i) (b := i) (by omega) (by omega) (fun _ => ?_) (fun c => absurd c (by omega)))
              cases ha : am f (pS i f u) i with
              | none =>
                exfalso
                have hz := am_none ha
                have htk := tk_is hG hlt hne
                have hbt := htk.2.1
                rw [hz _ htk.1] at hbt
                cases hbt
              | some g =>
                obtain ⟨a1, a2, a3, a4⟩ := am_some ha
                have e : g = tkS i f (pS i f u) := pk_one ⟨a1, a2, a3, a4⟩ (tk_is hG hlt hne)
                rw [show oI (some g) = nI g from rfl]
                refine nm_r (nx_shl g (by omega)) (nm_e (nm_r (nx_sd _ _) (nm_r (nI_1 u) ?_)))
                have := ih (u + 1) (nI g) (some (.inl (nI i))) (by omega) (fun _ => by rw [e]; rfl)
                rw [e]
                rw [e] at this
                exact this
            | succ m' ih2 =>
              intro i hi
              have hnx := ih2 (i + 1) (by omega)
              refine hV 60 31 _ _ _ (br_ge (a := i) (b := n) (by omega) (by omega) (fun c => absurd c (by omega)) (fun _ => nm_e (nm_r (nx_bit (by omega) (by omega)) (br_bn (fun c => nm_r (nI_1 i) ?_) (fun c => ?_)))))
              · rw [am, c] at hnx
                exact hnx
              · rw [am, c] at hnx
                simp only [cond_true] at hnx
                cases ha : am f (pS n f u) i with
                | none =>
                  rw [ha] at hnx
                  exact And.intro (fun _ => nm_r (nI_1 i) hnx) (fun c => absurd (show (-1 : Int32) < 0 by decide) c)
                | some g =>
                  rw [ha] at hnx
                  dsimp only at hnx
                  obtain ⟨a1, a2, a3, a4⟩ := am_some ha
                  have d1 := dg_le hG (S := pS n f u) (v := i) (by omega)
                  have d2 := dg_le hG (S := pS n f u) (v := g) (by omega)
                  rw [show oI (some g) = nI g from rfl]
                  refine And.intro (fun c => absurd c (nI_pos (by omega))) (fun _ => And.intro (vp_in_nI (by omega) (by omega)) (nm_r (by rw [clamp12 (v := i) (n := n) (by omega) hn, hj i (by omega)]) (nm_r (nx_and _ _) ⟨_, rfl, Nat.lt_of_le_of_lt Nat.and_le_left (g31 hG (by omega)), And.intro (vp_in_nI (by omega) (by omega)) (nm_r (by rw [clamp12 (v := g) (n := n) (by omega) hn, hj g (by omega)]) (nm_r (nx_and _ _) ⟨_, rfl, Nat.lt_of_le_of_lt Nat.and_le_left (g31 hG (by omega)), br_ge (a := dg f (pS n f u) i) (b := dg f (pS n f u) g) (by omega) (by omega) (fun c2 => nm_r (nI_1 i) ?_) (fun c2 => nm_r (nI_1 i) ?_)⟩))⟩)))
                  · rw [if_neg (by omega)] at hnx
                    exact hnx
                  · rw [if_pos c2] at hnx
                    exact hnx
          refine hV 60 20 _ _ _ (br_gt (a := u) (b := v) (by omega) (by omega) (fun c => absurd c (by omega)) (fun _ => ?_))
          exact inner n 0 (by omega)
      exact ⟨n, f, hh, rfl, loop (v + 1) 0 (-1) none (by omega) (fun h => by omega)⟩
    · rw [aPeel, c] at hk; exact hk
def tM_layer : mT := fun as h k => ∃ n f x, hM h n f ∧ as = [.inr 0, .inl x] ∧ ∀ r, aLay n f x r → k (some r) h
set_option maxHeartbeats 4000000 in
set_option maxRecDepth 20000 in
theorem c_M_layer : m_Con cls 1 TB y_M_layer b_M_layer 8 (some .int) 0 1 tM_layer := by
  refine m_con (code := k_M_layer) (fld := f_M) (fpt := p_M) (kon := []) (call := [(36, false, 2, tM_isNode), (48, false, 1, tM_all), (44, true, 1, tM_count)]) (C := R_M) (T := T_M) (N := 13) (by decide) (Or.inl ⟨rfl, rfl⟩) ok_M_layer tb_M (fun l D cA ad => m_calls ?_) ?_ ?_
  · exact List.forall_mem_cons.mpr ⟨o_M36 ⟨Nat.le_of_ble_eq_true rfl, Nat.le_of_ble_eq_true rfl⟩, List.forall_mem_cons.mpr ⟨o_M48 ⟨Nat.le_of_ble_eq_true rfl, Nat.le_of_ble_eq_true rfl⟩, List.forall_mem_cons.mpr ⟨o_M44 ⟨Nat.le_of_ble_eq_true rfl, Nat.le_of_ble_eq_true rfl⟩, fun _ h => absurd h List.not_mem_nil⟩⟩⟩
  · rintro as h k ⟨n, f, x, ⟨j, z, rfl, hj, hG⟩, rfl, hk⟩
    exact Nat.le_of_ble_eq_true rfl
  · rintro as h k ⟨n, f, x, ⟨j, z, rfl, hj, hG⟩, rfl, hk⟩ V hV
    have hh : hM (mkM (nI n) j z) n f := ⟨j, z, rfl, hj, hG⟩
    have hn := hG.1
    have h12 := p12 hn
    refine hV 60 0 _ _ _ ⟨n, f, x, hh, rfl, br_ne (fun c => ?_) (fun c => hk _ (Or.inl ⟨c, rfl⟩))⟩
    obtain ⟨v, hv, rfl⟩ := isN_t hn c
    have loop : ∀ m u (y5 y6 y7 : Option mV), u + m = n → (∀ s, s < u → (Ly n f s).1.testBit v = true) → V (20, [some (.inr 0), some (.inl (nI v)), some (.inl (nI (Ly n f u).1)), some (.inl (nI (Ly n f u).2)), some (.inl (nI u)), y5, y6, y7], [], mkM (nI n) j z) := by
      intro m
      induction m with
      | zero =>
        intro u y5 y6 y7 hu hi
        have hlt := Ly_lt (n := n) (f := f) u
        refine hV 60 20 _ _ _ (nm_e (nm_r (nx_bit (by omega) (by omega)) (br_bn (fun c2 => ?_) (fun c2 => ?_))))
        · exact hk _ (Or.inr ⟨v, u, hv, rfl, ⟨c2, hi⟩, rfl⟩)
        · exfalso
          rcases Ly_pop hG u with h0 | h0
          · rw [h0] at c2; simp at c2
          · have h1 : pop (Ly n f u).1 = 0 := by omega
            rw [pop_n (Ly_lt u) hn] at h1
            rw [cn_0 h1 v hv] at c2
            cases c2
      | succ m ih =>
        intro u y5 y6 y7 hu hi
        have hlt := Ly_lt (n := n) (f := f) u
        have hk12 := Ly_k (n := n) (f := f) u
        have hk12' := Ly_k (n := n) (f := f) (u + 1)
        have hl12 := ld_12 f (Ly n f u).1 n
        refine hV 60 20 _ _ _ (nm_e (nm_r (nx_bit (by omega) (by omega)) (br_bn (fun c2 => ?_) (fun c2 => ?_))))
        · exact hk _ (Or.inr ⟨v, u, hv, rfl, ⟨c2, hi⟩, rfl⟩)
        · have in2 : ∀ m' i (y5 : Option mV), i + m' = n → V (110, [some (.inr 0), some (.inl (nI v)), some (.inl (nI (Ly n f u).1)), some (.inl (nI (Ly n f (u + 1)).2)), some (.inl (nI u)), y5, some (.inl (nI (lo i f (Ly n f u).1 (fun d => decide (d ≤ (Ly n f (u + 1)).2))))), some (.inl (nI i))], [], mkM (nI n) j z) := by
            intro m'
            induction m' with
            | zero =>
              intro i y5 hi2
              have e : i = n := by omega
              subst e
              refine hV 60 110 _ _ _ (br_ge (a := i) (b := i) (by omega) (by omega) (fun _ => nm_e (nm_r (nx_sd _ _) (nm_r (nI_1 u) ?_))) (fun c => absurd c (by omega)))
              exact ih (u + 1) _ _ _ (by omega) (fun s hs => by
                by_cases hsu : s = u
                · rw [hsu]; exact c2
                · exact hi s (by omega))
            | succ m' ih2 =>
              intro i y5 hi2
              have hnx := ih2 (i + 1) y5 (by omega)
              have hd := dg_le hG (S := (Ly n f u).1) (v := i) (by omega)
              have e : lo (i + 1) f (Ly n f u).1 (fun d => decide (d ≤ (Ly n f (u + 1)).2)) = lo i f (Ly n f u).1 (fun d => decide (d ≤ (Ly n f (u + 1)).2)) ||| (bif (Ly n f u).1.testBit i && decide (dg f (Ly n f u).1 i ≤ (Ly n f (u + 1)).2) then 2 ^ i else 0) := rfl
              refine hV 60 110 _ _ _ (br_ge (a := i) (b := n) (by omega) (by omega) (fun c => absurd c (by omega)) (fun _ => nm_e (nm_r (nx_bit (by omega) (by omega)) (br_bn (fun c => nm_r (nx_or _ 0) (nm_r (nI_1 i) ?_)) (fun c => And.intro (vp_in_nI (by omega) (by omega)) (nm_r (by rw [clamp12 (v := i) (n := n) (by omega) hn, hj i (by omega)]) (nm_r (nx_and _ _) ⟨_, rfl, Nat.lt_of_le_of_lt Nat.and_le_left (g31 hG (by omega)), br_gt (a := dg f (Ly n f u).1 i) (b := (Ly n f (u + 1)).2) (by omega) (by omega) (fun c3 => nm_r (nx_or _ 0) (nm_r (nI_1 i) ?_)) (fun c3 => nm_r (nx_shl i (by omega)) (nm_r (nx_or _ _) (nm_r (nI_1 i) ?_)))⟩)))))))
              · rw [e, c] at hnx
                exact hnx
              · rw [e, decide_eq_false (by omega : ¬ dg f (Ly n f u).1 i ≤ (Ly n f (u + 1)).2), Bool.and_false] at hnx
                exact hnx
              · rw [e, c, decide_eq_true c3] at hnx
                exact hnx
          have in1 : ∀ m' i (y7 : Option mV), i + m' = n → V (36, [some (.inr 0), some (.inl (nI v)), some (.inl (nI (Ly n f u).1)), some (.inl (nI (Ly n f u).2)), some (.inl (nI u)), some (.inl (nI (ld f (Ly n f u).1 i))), some (.inl (nI i)), y7], [], mkM (nI n) j z) := by
            intro m'
            induction m' with
            | zero =>
              intro i y7 hi2
              have e : i = n := by omega
              subst e
              have eK : (Ly i f (u + 1)).2 = if (Ly i f u).2 < ld f (Ly i f u).1 i then ld f (Ly i f u).1 i else (Ly i f u).2 := rfl
              have hnx := in2 i 0 (some (.inl (nI (ld f (Ly i f u).1 i)))) (by omega)
              refine hV 60 36 _ _ _ (br_ge (a := i) (b := i) (by omega) (by omega) (fun _ => br_le (a := ld f (Ly i f u).1 i) (b := (Ly i f u).2) (by omega) (by omega) (fun c3 => ?_) (fun c3 => ?_)) (fun c => absurd c (by omega)))
              · rw [eK, if_neg (by omega)] at hnx
                exact hnx
              · rw [eK, if_pos c3] at hnx
                exact hnx
            | succ m' ih2 =>
              intro i y7 hi2
              have hd := dg_le hG (S := (Ly n f u).1) (v := i) (by omega)
              have hl := ld_12 f (Ly n f u).1 i
              have hnx := ih2 (i + 1) (some (.inl (nI (dg f (Ly n f u).1 i)))) (by omega)
              refine hV 60 36 _ _ _ (br_ge (a := i) (b := n) (by omega) (by omega) (fun c => absurd c (by omega)) (fun _ => And.intro (vp_in_nI (by omega) (by omega)) (nm_r (by rw [clamp12 (v := i) (n := n) (by omega) hn, hj i (by omega)]) (nm_r (nx_and _ _) ⟨_, rfl, Nat.lt_of_le_of_lt Nat.and_le_left (g31 hG (by omega)), nm_e (nm_r (nx_bit (by omega) (by omega)) (br_bn (fun c => nm_r (nI_1 i) ?_) (fun c => br_ge (a := dg f (Ly n f u).1 i) (b := ld f (Ly n f u).1 i) (by omega) (by omega) (fun c3 => nm_r (nI_1 i) ?_) (fun c3 => nm_r (nI_1 i) ?_))))⟩))))
              · rw [ld, c] at hnx
                exact hnx
              · rw [ld, c] at hnx
                simp only [cond_true] at hnx
                rw [if_neg (by omega)] at hnx
                exact hnx
              · rw [ld, c] at hnx
                simp only [cond_true] at hnx
                rw [if_pos c3] at hnx
                exact hnx
          exact in1 n 0 y7 (by omega)
    exact ⟨n, f, hh, rfl, loop n 0 none none none (by omega) (fun s hs => by omega)⟩
