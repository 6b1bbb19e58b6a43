/-! the object and the reference side by side: call by call they answer alike -/
def Lsm (hc hm : mH) : Prop := ∃ n f q g j r t d w jm c bb gm l x0 x1 x2 kp md mg, hc = mkC j (nI n) r (nI q) t d w ∧ hm = mkM (nI n) jm (zT c bb q gm l x0 x1 x2 kp md mg) ∧ (∀ v, v < n → j v = nI (f v)) ∧ (∀ v, v < n → jm v = nI (f v)) ∧ Gr n f ∧ cv n f c bb ∧ q ≤ 12 ∧ hR q r g ∧ hR q gm g ∧ ∀ v, v < q → g v ≤ 20
theorem Lsm_mk {n : Nat} {f : Nat → Nat} {q : Nat} {g : Nat → Nat} {j r jm gm : Nat → Int32} (hj : ∀ v, v < n → j v = nI (f v)) (hjm : ∀ v, v < n → jm v = nI (f v)) (hG : Gr n f) (hq : q ≤ 12) (hr : hR q r g) (hgm : hR q gm g) (hg : ∀ v, v < q → g v ≤ 20) (t d w c : Nat → Int32) (bb : Int32) (l : Nat → Int32) (x0 x1 x2 : Int32) (kp : Nat → Int32) (md : Int32) (mg : Nat → Int32) (hcv : cv n f c bb) : Lsm (mkC j (nI n) r (nI q) t d w) (mkM (nI n) jm (zT c bb q gm l x0 x1 x2 kp md mg)) :=
  ⟨n, f, q, g, j, r, t, d, w, jm, c, bb, gm, l, x0, x1, x2, kp, md, mg, rfl, rfl, hj, hjm, hG, hcv, hq, hr, hgm, hg⟩
theorem Lsm_0 : Lsm (mkC (fun _ => 0) 0 (fun _ => 0) 0 (fun _ => 0) (fun _ => 0) (fun _ => 0)) (mkM 0 (fun _ => 0) (zT (fun _ => 0) 1 0 (fun _ => 0) (fun _ => 0) 0 0 0 (fun _ => 0) 0 (fun _ => 0))) :=
  Lsm_mk (n := 0) (f := fun _ => 0) (q := 0) (g := fun _ => 0) (fun v hv => by omega) (fun v hv => by omega) (gr_z (by omega)) (by omega) (fun v hv => by omega) (fun v hv => by omega) (fun v hv => by omega) _ _ _ _ _ _ _ _ _ _ _ _ (fun h => absurd h (by decide))
def sim (TC TM : mT) (as : List mV) : Prop := ∀ hc hm, Lsm hc hm → TC (.inr 0 :: as) hc (fun r hc' => TM (.inr 0 :: as) hm (fun r' hm' => r' = r ∧ Lsm hc' hm'))
theorem Lsm_cm {hc hm : mH} (h : Lsm hc hm) : ∃ n f, hC hc n f ∧ hM hm n f := by
  obtain ⟨n, f, q, g, j, r, t, d, w, jm, c, bb, gm, l, x0, x1, x2, kp, md, mg, rfl, rfl, hj, hjm, hG, hcv, hq, hr, hgm, hg⟩ := h
  exact ⟨n, f, ⟨j, r, _, t, d, w, rfl, hj, hG⟩, ⟨jm, _, rfl, hjm, hG⟩⟩
theorem gr_node {n : Nat} {f : Nat → Nat} (hG : Gr n f) (hn : n < 12) : Gr (n + 1) (up f n 0) := by
  obtain ⟨h1, h2, h3, h4⟩ := hG
  have hp : 2 ^ n < 2 ^ (n + 1) := Nat.pow_lt_pow_right (by decide) (Nat.lt_succ_self n)
  refine ⟨by omega, fun v hv => ?_, fun v hv => ?_, fun u v hu hv => ?_⟩
  · by_cases e : v = n
    · rw [e, up_s]; omega
    · rw [up_n _ _ _ e]; exact Nat.lt_trans (h2 v (by omega)) hp
  · by_cases e : v = n
    · rw [e, up_s]; simp
    · rw [up_n _ _ _ e]; exact h3 v (by omega)
  · by_cases e : u = n
    · rw [e, up_s]
      by_cases e2 : v = n
      · rw [e2, up_s]
      · rw [up_n _ _ _ e2, tb_hi (h2 v (by omega)) (Nat.le_refl n)]; simp
    · rw [up_n _ _ _ e]
      by_cases e2 : v = n
      · rw [e2, up_s, tb_hi (h2 u (by omega)) (Nat.le_refl n)]; simp
      · rw [up_n _ _ _ e2]; exact h4 u v (by omega) (by omega)
theorem gr_join {n : Nat} {f : Nat → Nat} (hG : Gr n f) {u v : Nat} (hu : u < n) (hv : v < n) (huv : u ≠ v) : Gr n (up (up f u (tg (f u) v)) v (tg (f v) u)) := by
  obtain ⟨h1, h2, h3, h4⟩ := hG
  have hvu : v ≠ u := fun z => huv z.symm
  have tb : ∀ x i, (up (up f u (tg (f u) v)) v (tg (f v) u) x).testBit i = ((f x).testBit i ^^ ((decide (x = u) && decide (v = i)) || (decide (x = v) && decide (u = i)))) := by
    intro x i
    by_cases e : x = v
    · rw [e, up_s, tb_tg]; simp [hvu]
    · rw [up_n _ _ _ e]
      by_cases e2 : x = u
      · rw [e2, up_s, tb_tg]; simp [huv]
      · rw [up_n _ _ _ e2]; simp [e, e2]
  refine ⟨h1, fun x hx => ?_, fun x hx => ?_, fun x y hx hy => ?_⟩
  · by_cases e : x = v
    · rw [e, up_s]; exact tg_lt (h2 v hv) hu
    · rw [up_n _ _ _ e]
      by_cases e2 : x = u
      · rw [e2, up_s]; exact tg_lt (h2 u hu) hv
      · rw [up_n _ _ _ e2]; exact h2 x hx
  · rw [tb, h3 x hx]
    by_cases e : x = u
    · subst e; simp [hvu, huv]
    · by_cases e2 : x = v
      · subst e2; simp [e, huv]
      · simp [e, e2]
  · rw [tb, tb, h4 x y hx hy]
    congr 1
    rw [Bool.or_comm, Bool.and_comm (decide (x = v)), Bool.and_comm (decide (x = u))]
    simp only [eq_comm]
theorem sim_node : sim tC_node tM_node [] := by
  intro hc hm h
  obtain ⟨n, f, q, g, j, r, t, d, w, jm, c, bb, gm, l, x0, x1, x2, kp, md, mg, rfl, rfl, hj, hjm, hG, hcv, hq, hr, hgm, hg⟩ := id h
  refine ⟨j, n, f, r, _, t, d, w, rfl, hj, hG, rfl, fun e => ⟨jm, n, f, _, rfl, hjm, hG, rfl, fun _ => ⟨rfl, h⟩, fun e' => absurd e (by omega)⟩, fun e => ⟨jm, n, f, _, rfl, hjm, hG, rfl, fun e' => absurd e' (by omega), fun _ => ⟨rfl, ?_⟩⟩⟩
  have key : ∀ j : Nat → Int32, (∀ v, v < n → j v = nI (f v)) → ∀ v, v < n + 1 → upd j n 0 v = nI (up f n 0 v) := fun j hj v hv => by
    by_cases e : v = n
    · rw [e, upd_u, up_s]; rfl
    · rw [upd_n e, up_n _ _ _ e]; exact hj v (by omega)
  exact Lsm_mk (key j hj) (key jm hjm) (gr_node hG e) hq hr hgm hg t d w c 1 l x0 x1 x2 kp md mg (fun h => absurd h (by decide))
theorem sim_join (x y : Int32) (b : Bool) : sim tC_join tM_join [.inl x, .inl y, .inl (b2i b)] := by
  intro hc hm h
  obtain ⟨n, f, q, g, j, r, t, d, w, jm, c, bb, gm, l, x0, x1, x2, kp, md, mg, rfl, rfl, hj, hjm, hG, hcv, hq, hr, hgm, hg⟩ := id h
  have hn := hG.1
  refine ⟨j, n, f, r, _, t, d, w, x, y, b, rfl, hj, hG, rfl, fun e => ⟨jm, n, f, _, x, y, b, rfl, hjm, hG, rfl, fun _ => ⟨rfl, h⟩, fun u v hu hv huv hx hy => ?_⟩, fun u v hu hv huv hx hy => ⟨fun e => ⟨jm, n, f, _, x, y, b, rfl, hjm, hG, rfl, fun e' => ?_, fun u' v' hu' hv' huv' hx' hy' => ?_⟩, fun e => ⟨jm, n, f, _, x, y, b, rfl, hjm, hG, rfl, fun e' => ?_, fun u' v' hu' hv' huv' hx' hy' => ?_⟩⟩⟩
  · exfalso
    have : two n x y = true := by
      rw [hx, hy]
      have : ¬ nI u = nI v := fun z => huv ((nI_eq (by omega) (by omega)).mp z)
      simp [two, isN_n hn hu, isN_n hn hv, this]
    rw [this] at e; cases e
  · exfalso
    have : two n x y = true := by
      rw [hx, hy]
      have : ¬ nI u = nI v := fun z => huv ((nI_eq (by omega) (by omega)).mp z)
      simp [two, isN_n hn hu, isN_n hn hv, this]
    rw [this] at e'; cases e'
  · have e1 : u' = u := (nI_eq (by omega) (by omega)).mp (hx'.symm.trans hx)
    have e2 : v' = v := (nI_eq (by omega) (by omega)).mp (hy'.symm.trans hy)
    subst e1; subst e2
    exact ⟨fun _ => ⟨rfl, h⟩, fun z => absurd e z⟩
  · exfalso
    have : two n x y = true := by
      rw [hx, hy]
      have : ¬ nI u = nI v := fun z => huv ((nI_eq (by omega) (by omega)).mp z)
      simp [two, isN_n hn hu, isN_n hn hv, this]
    rw [this] at e'; cases e'
  · have e1 : u' = u := (nI_eq (by omega) (by omega)).mp (hx'.symm.trans hx)
    have e2 : v' = v := (nI_eq (by omega) (by omega)).mp (hy'.symm.trans hy)
    subst e1; subst e2
    refine ⟨fun z => absurd z e, fun _ => ⟨rfl, ?_⟩⟩
    have key : ∀ j : Nat → Int32, (∀ v, v < n → j v = nI (f v)) → ∀ x, x < n → upd (upd j u' (nI (tg (f u') v'))) v' (nI (tg (f v') u')) x = nI (up (up f u' (tg (f u') v')) v' (tg (f v') u') x) := fun j hj x hx => by
      by_cases e1 : x = v'
      · rw [e1, upd_u, up_s]
      · rw [upd_n e1, up_n _ _ _ e1]
        by_cases e2 : x = u'
        · rw [e2, upd_u, up_s]
        · rw [upd_n e2, up_n _ _ _ e2]; exact hj x hx
    exact Lsm_mk (key j hj) (key jm hjm) (gr_join hG hu hv huv) hq hr hgm hg t d w c 1 l x0 x1 x2 kp md mg (fun h => absurd h (by decide))
theorem sim_joined (x y : Int32) : sim tC_joined tM_joined [.inl x, .inl y] := by
  intro hc hm h
  obtain ⟨n, f, h1, h2⟩ := Lsm_cm h
  exact ⟨n, f, x, y, h1, rfl, n, f, x, y, h2, rfl, rfl, h⟩
theorem sim_clear : sim tC_clear tM_clear [] := by
  intro hc hm h
  obtain ⟨n, f, q, g, j, r, t, d, w, jm, c, bb, gm, l, x0, x1, x2, kp, md, mg, rfl, rfl, hj, hjm, hG, hcv, hq, hr, hgm, hg⟩ := id h
  exact ⟨j, n, f, r, _, t, d, w, rfl, hj, hG, rfl, jm, n, f, _, rfl, hjm, hG, rfl, rfl, Lsm_mk (n := 0) (f := fun _ => 0) (fun v hv => by omega) (fun v hv => by omega) (gr_z (by omega)) hq hr hgm hg t d w c 1 l x0 x1 x2 kp md mg (fun h => absurd h (by decide))⟩
theorem sim_degree (x : Int32) : sim tC_degree tM_degree [.inl x] := by
  intro hc hm h
  obtain ⟨n, f, h1, h2⟩ := Lsm_cm h
  exact ⟨n, f, x, h1, rfl, n, f, x, h2, rfl, rfl, h⟩
theorem one_core {n : Nat} {f : Nat → Nat} (hG : Gr n f) {x r r' : Int32} (h : aCore n f x r) (h' : aCore n f x r') : r' = r := by
  have hn := hG.1
  rcases h with ⟨a, b⟩ | ⟨v, c, hv, rfl, h1, h2⟩
  · rcases h' with ⟨a', b'⟩ | ⟨v, c, hv, rfl, h1, h2⟩
    · rw [b, b']
    · rw [isN_n hn hv] at a; cases a
  · rcases h' with ⟨a', b'⟩ | ⟨v', c', hv', e, h1', h2'⟩
    · rw [isN_n hn hv] at a'; cases a'
    · have e : v = v' := (nI_eq (by omega) (by omega)).mp e
      subst e
      rw [h2, h2', cn_one hG h1 h1']
theorem one_lay {n : Nat} {f : Nat → Nat} (hG : Gr n f) {x r r' : Int32} (h : aLay n f x r) (h' : aLay n f x r') : r' = r := by
  have hn := hG.1
  rcases h with ⟨a, b⟩ | ⟨v, c, hv, rfl, h1, h2⟩
  · rcases h' with ⟨a', b'⟩ | ⟨v, c, hv, rfl, h1, h2⟩
    · rw [b, b']
    · rw [isN_n hn hv] at a; cases a
  · rcases h' with ⟨a', b'⟩ | ⟨v', c', hv', e, h1', h2'⟩
    · rw [isN_n hn hv] at a'; cases a'
    · have e : v = v' := (nI_eq (by omega) (by omega)).mp e
      subst e
      rw [h2, h2', ly_one h1 h1']
theorem one_tr {n : Nat} {f : Nat → Nat} (hG : Gr n f) {x y r r' : Int32} (h : aTr n f x y r) (h' : aTr n f x y r') : r' = r := by
  have hn := hG.1
  rcases h with ⟨a, b⟩ | ⟨u, v, c, hu, hv, ex, ey, hx, h1, h2⟩
  · rcases h' with ⟨a', b'⟩ | ⟨u, v, c, hu, hv, ex, ey, hx, h1, h2⟩
    · rw [b, b']
    · rw [hx] at a; cases a
  · rcases h' with ⟨a', b'⟩ | ⟨u', v', c', hu', hv', ex', ey', hx', h1', h2'⟩
    · rw [hx] at a'; cases a'
    · have e1 : u = u' := (nI_eq (by omega) (by omega)).mp (ex.symm.trans ex')
      have e2 : v = v' := (nI_eq (by omega) (by omega)).mp (ey.symm.trans ey')
      subst e1; subst e2
      rw [h2, h2', tn_one h1 h1']
theorem one_firm {n : Nat} {f : Nat → Nat} (hG : Gr n f) {x y r r' : Int32} (h : aFirm n f x y r) (h' : aFirm n f x y r') : r' = r := by
  have hn := hG.1
  rcases h with ⟨a, b⟩ | ⟨u, v, c, hu, hv, -, ex, ey, hx, h1, h2⟩
  · rcases h' with ⟨a', b'⟩ | ⟨u, v, c, hu, hv, -, ex, ey, hx, h1, h2⟩
    · rw [b, b']
    · rw [hx] at a; cases a
  · rcases h' with ⟨a', b'⟩ | ⟨u', v', c', hu', hv', -, ex', ey', hx', h1', h2'⟩
    · rw [hx] at a'; cases a'
    · have e1 : u = u' := (nI_eq (by omega) (by omega)).mp (ex.symm.trans ex')
      have e2 : v = v' := (nI_eq (by omega) (by omega)).mp (ey.symm.trans ey')
      subst e1; subst e2
      rw [h2, h2', firm_one h1 h1']
theorem one_cls {n : Nat} {f : Nat → Nat} (hG : Gr n f) {x y r r' : Int32} (h : aCls n f x y r) (h' : aCls n f x y r') : r' = r := by
  have hn := hG.1
  rcases h with ⟨a, b⟩ | ⟨a, a2, b⟩ | ⟨v, K, u, hv, hK, ex, ey, h1, h2⟩
  · rcases h' with ⟨a', b'⟩ | ⟨a', a2', b'⟩ | ⟨v', K', u', hv', hK', ex', ey', h1', h2'⟩
    · rw [b, b']
    · rw [a] at a'; cases a'
    · rw [ex', isN_n hn hv'] at a; cases a
  · rcases h' with ⟨a', b'⟩ | ⟨a', a2', b'⟩ | ⟨v', K', u', hv', hK', ex', ey', h1', h2'⟩
    · rw [a] at a'; cases a'
    · rw [b, b']
    · rw [ey'] at a2; exact absurd a2 (nI_pos hK')
  · rcases h' with ⟨a', b'⟩ | ⟨a', a2', b'⟩ | ⟨v', K', u', hv', hK', ex', ey', h1', h2'⟩
    · rw [ex, isN_n hn hv] at a'; cases a'
    · rw [ey] at a2'; exact absurd a2' (nI_pos hK)
    · have e1 : v = v' := (nI_eq (by omega) (by omega)).mp (ex.symm.trans ex')
      have e2 : K = K' := (nI_eq hK hK').mp (ey.symm.trans ey')
      subst e1; subst e2
      rw [h2, h2', cl_one h1 h1']
theorem one_dst {n : Nat} {f : Nat → Nat} {r r' : Int32} (h : aDst n f r) (h' : aDst n f r') : r' = r := by
  rcases h with ⟨a, b⟩ | ⟨a, S, h1, h2⟩
  · rcases h' with ⟨a', b'⟩ | ⟨a', S', h1', h2'⟩
    · rw [b, b']
    · omega
  · rcases h' with ⟨a', b'⟩ | ⟨a', S', h1', h2'⟩
    · omega
    · rw [h2, h2', den_one h1 h1']
theorem one_den {n : Nat} {f : Nat → Nat} {p r r' : Int32} (h : aDen n f p r) (h' : aDen n f p r') : r' = r := by
  rcases h with ⟨a, b⟩ | ⟨a, a2, b⟩ | ⟨a, a2, S, h1, h2⟩
  · rcases h' with ⟨a', b'⟩ | ⟨a', a2', b'⟩ | ⟨a', a2', S', h1', h2'⟩
    · rw [b, b']
    · rw [a] at a'; cases a'
    · rw [a] at a'; cases a'
  · rcases h' with ⟨a', b'⟩ | ⟨a', a2', b'⟩ | ⟨a', a2', S', h1', h2'⟩
    · rw [a] at a'; cases a'
    · rw [b, b']
    · omega
  · rcases h' with ⟨a', b'⟩ | ⟨a', a2', b'⟩ | ⟨a', a2', S', h1', h2'⟩
    · rw [a] at a'; cases a'
    · omega
    · rw [h2, h2', den_one h1 h1']
theorem hC_gr {h : mH} {n : Nat} {f : Nat → Nat} (hh : hC h n f) : Gr n f := by
  obtain ⟨_, _, _, _, _, _, _, _, hG⟩ := hh
  exact hG
theorem sim_core (x : Int32) : sim tC_core tM_core [.inl x] := by
  intro hc hm h
  obtain ⟨n, f, h1, h2⟩ := Lsm_cm h
  exact ⟨n, f, x, h1, rfl, fun r hr => ⟨n, f, x, h2, rfl, fun r' hr' => ⟨by rw [one_core (hC_gr h1) hr hr'], h⟩⟩⟩
theorem sim_coreSet (x : Int32) : sim tC_coreSet tM_coreSet [.inl x] := by
  intro hc hm h
  obtain ⟨n, f, h1, h2⟩ := Lsm_cm h
  exact ⟨n, f, x, h1, rfl, n, f, x, h2, rfl, rfl, h⟩
theorem sim_peeled (x : Int32) : sim tC_peeled tM_peeled [.inl x] := by
  intro hc hm h
  obtain ⟨n, f, h1, h2⟩ := Lsm_cm h
  exact ⟨n, f, x, h1, rfl, n, f, x, h2, rfl, rfl, h⟩
theorem sim_layer (x : Int32) : sim tC_layer tM_layer [.inl x] := by
  intro hc hm h
  obtain ⟨n, f, h1, h2⟩ := Lsm_cm h
  exact ⟨n, f, x, h1, rfl, fun r hr => ⟨n, f, x, h2, rfl, fun r' hr' => ⟨by rw [one_lay (hC_gr h1) hr hr'], h⟩⟩⟩
theorem sim_triangles : sim tC_triangles tM_triangles [] := by
  intro hc hm h
  obtain ⟨n, f, q, g, j, r, t, d, w, jm, c, bb, gm, l, x0, x1, x2, kp, md, mg, rfl, rfl, hj, hjm, hG, hcv, hq, hr, hgm, hg⟩ := id h
  exact ⟨n, f, ⟨j, r, _, t, d, w, rfl, hj, hG⟩, rfl, n, f, jm, _, rfl, hjm, hG, rfl, fun l3 => ⟨rfl, Lsm_mk hj hjm hG hq hr hgm hg t d w c bb l l3.1 l3.2.1 l3.2.2 kp md mg hcv⟩⟩
theorem sim_triangle (x p : Int32) : sim tC_triangle tM_triangle [.inl x, .inl p] := by
  intro hc hm h
  obtain ⟨n, f, q, g, j, r, t, d, w, jm, c, bb, gm, l, x0, x1, x2, kp, md, mg, rfl, rfl, hj, hjm, hG, hcv, hq, hr, hgm, hg⟩ := id h
  exact ⟨n, f, x, p, ⟨j, r, _, t, d, w, rfl, hj, hG⟩, rfl, n, f, jm, _, x, p, rfl, hjm, hG, rfl, fun l3 => ⟨rfl, Lsm_mk hj hjm hG hq hr hgm hg t d w c bb l l3.1 l3.2.1 l3.2.2 kp md mg hcv⟩⟩
theorem sim_support (x y : Int32) : sim tC_support tM_support [.inl x, .inl y] := by
  intro hc hm h
  obtain ⟨n, f, h1, h2⟩ := Lsm_cm h
  exact ⟨n, f, x, y, h1, rfl, n, f, x, y, h2, rfl, rfl, h⟩
theorem sim_truss (x y : Int32) : sim tC_truss tM_truss [.inl x, .inl y] := by
  intro hc hm h
  obtain ⟨n, f, q, g, j, r, t, d, w, jm, c, bb, gm, l, x0, x1, x2, kp, md, mg, rfl, rfl, hj, hjm, hG, hcv, hq, hr, hgm, hg⟩ := id h
  exact ⟨j, n, f, r, _, t, d, w, x, y, rfl, hj, hG, rfl, fun t' rr hrr => ⟨n, f, jm, _, x, y, rfl, hjm, hG, rfl, fun kp' rr' hrr' => ⟨by rw [one_tr hG hrr hrr'], Lsm_mk hj hjm hG hq hr hgm hg t' d w c bb l x0 x1 x2 kp' md mg hcv⟩⟩⟩
theorem sim_cluster (x p : Int32) : sim tC_cluster tM_cluster [.inl x, .inl p] := by
  intro hc hm h
  obtain ⟨n, f, h1, h2⟩ := Lsm_cm h
  exact ⟨n, f, x, p, h1, rfl, n, f, x, p, h2, rfl, rfl, h⟩
theorem sim_closed (p : Int32) : sim tC_closed tM_closed [.inl p] := by
  intro hc hm h
  obtain ⟨n, f, q, g, j, r, t, d, w, jm, c, bb, gm, l, x0, x1, x2, kp, md, mg, rfl, rfl, hj, hjm, hG, hcv, hq, hr, hgm, hg⟩ := id h
  exact ⟨n, f, p, ⟨j, r, _, t, d, w, rfl, hj, hG⟩, rfl, n, f, jm, _, p, rfl, hjm, hG, rfl, fun l3 => ⟨rfl, Lsm_mk hj hjm hG hq hr hgm hg t d w c bb l l3.1 l3.2.1 l3.2.2 kp md mg hcv⟩⟩
theorem sim_densest : sim tC_densest tM_densest [] := by
  intro hc hm h
  obtain ⟨n, f, h1, h2⟩ := Lsm_cm h
  exact ⟨n, f, h1, rfl, fun r hr => ⟨n, f, h2, rfl, fun r' hr' => ⟨by rw [one_dst hr hr'], h⟩⟩⟩
theorem sim_density (p : Int32) : sim tC_density tM_density [.inl p] := by
  intro hc hm h
  obtain ⟨n, f, h1, h2⟩ := Lsm_cm h
  exact ⟨n, f, p, h1, rfl, fun r hr => ⟨n, f, p, h2, rfl, fun r' hr' => ⟨by rw [one_den hr hr'], h⟩⟩⟩
theorem sim_firm (x y : Int32) : sim tC_firm tM_firm [.inl x, .inl y] := by
  intro hc hm h
  obtain ⟨n, f, q, g, j, r, t, d, w, jm, c, bb, gm, l, x0, x1, x2, kp, md, mg, rfl, rfl, hj, hjm, hG, hcv, hq, hr, hgm, hg⟩ := id h
  exact ⟨n, f, x, y, ⟨j, r, _, t, d, w, rfl, hj, hG⟩, rfl, fun rr hrr => ⟨n, f, jm, c, bb, _, x, y, rfl, hjm, hG, hcv, rfl, fun c' b' rr' h1 hrr' => ⟨by rw [one_firm hG hrr hrr'], Lsm_mk hj hjm hG hq hr hgm hg t d w c' b' l x0 x1 x2 kp md mg h1⟩⟩⟩
theorem sim_classOf (x y : Int32) : sim tC_classOf tM_classOf [.inl x, .inl y] := by
  intro hc hm h
  obtain ⟨n, f, q, g, j, r, t, d, w, jm, c, bb, gm, l, x0, x1, x2, kp, md, mg, rfl, rfl, hj, hjm, hG, hcv, hq, hr, hgm, hg⟩ := id h
  exact ⟨n, f, x, y, ⟨j, r, _, t, d, w, rfl, hj, hG⟩, rfl, fun rr hrr => ⟨n, f, jm, c, bb, _, x, y, rfl, hjm, hG, hcv, rfl, fun c' b' rr' h1 hrr' => ⟨by rw [one_cls hG hrr hrr'], Lsm_mk hj hjm hG hq hr hgm hg t d w c' b' l x0 x1 x2 kp md mg h1⟩⟩⟩
theorem sim_likeness (p : Int32) : sim tC_likeness tM_likeness [.inl p] := by
  intro hc hm h
  obtain ⟨n, f, h1, h2⟩ := Lsm_cm h
  exact ⟨n, f, p, h1, rfl, n, f, p, h2, rfl, rfl, h⟩
theorem sim_rich (x p : Int32) : sim tC_rich tM_rich [.inl x, .inl p] := by
  intro hc hm h
  obtain ⟨n, f, h1, h2⟩ := Lsm_cm h
  exact ⟨n, f, x, p, h1, rfl, n, f, x, p, h2, rfl, rfl, h⟩
theorem sim_want (x : Int32) : sim tC_want tM_want [.inl x] := by
  intro hc hm h
  obtain ⟨n, f, q, g, j, r, t, d, w, jm, c, bb, gm, l, x0, x1, x2, kp, md, mg, rfl, rfl, hj, hjm, hG, hcv, hq, hr, hgm, hg⟩ := id h
  refine ⟨j, _, r, q, t, d, w, x, rfl, hq, rfl, fun e => ⟨_, jm, c, bb, q, gm, _, x, rfl, hq, rfl, fun _ => ⟨rfl, h⟩, fun a b => absurd ⟨a, b⟩ e⟩, fun e1 e2 => ⟨fun e3 => ⟨_, jm, c, bb, q, gm, _, x, rfl, hq, rfl, fun z => absurd ⟨e1, e2⟩ z, fun _ _ => ⟨fun _ => ⟨rfl, h⟩, fun z => absurd e3 (by omega)⟩⟩, fun e3 => ⟨_, jm, c, bb, q, gm, _, x, rfl, hq, rfl, fun z => absurd ⟨e1, e2⟩ z, fun _ _ => ⟨fun z => absurd z (by omega), fun _ => ⟨rfl, ?_⟩⟩⟩⟩⟩
  obtain ⟨X, hX, rfl⟩ := nI_of2 (M := 20) (n := 20) (by decide) (Int32.not_lt.mpr e1) e2
  have key : ∀ r : Nat → Int32, hR q r g → hR (q + 1) (upd r q (nI X)) (up g q X) := fun r hr v hv => by
    by_cases e : v = q
    · rw [e, upd_u, up_s]
    · rw [upd_n e, up_n _ _ _ e]; exact hr v (by omega)
  exact Lsm_mk hj hjm hG (by omega) (key r hr) (key gm hgm) (fun v hv => by
    by_cases e : v = q
    · rw [e, up_s]; exact hX
    · rw [up_n _ _ _ e]; exact hg v (by omega)) t d w c bb l x0 x1 x2 kp md mg hcv
theorem sim_unwant : sim tC_unwant tM_unwant [] := by
  intro hc hm h
  obtain ⟨n, f, q, g, j, r, t, d, w, jm, c, bb, gm, l, x0, x1, x2, kp, md, mg, rfl, rfl, hj, hjm, hG, hcv, hq, hr, hgm, hg⟩ := id h
  exact ⟨j, _, r, q, t, d, w, rfl, rfl, _, jm, c, bb, q, _, rfl, rfl, rfl, Lsm_mk (q := 0) (g := g) hj hjm hG (by omega) (fun v hv => by omega) (fun v hv => by omega) (fun v hv => by omega) t d w c bb l x0 x1 x2 kp md mg hcv⟩
theorem sim_graphic : sim tC_graphic tM_graphic [] := by
  intro hc hm h
  obtain ⟨n, f, q, g, j, r, t, d, w, jm, c, bb, gm, l, x0, x1, x2, kp, md, mg, rfl, rfl, hj, hjm, hG, hcv, hq, hr, hgm, hg⟩ := id h
  exact ⟨j, _, r, q, t, d, w, g, rfl, hq, hr, hg, rfl, fun d' w' => ⟨_, jm, c, bb, q, gm, l, x0, x1, x2, kp, md, mg, g, rfl, hq, hgm, hg, rfl, fun l' md' mg' => ⟨rfl, Lsm_mk hj hjm hG hq hr hgm hg t d' w' c bb l' x0 x1 x2 kp md' mg' hcv⟩⟩⟩
theorem sim_make : sim tC_make tM_make [] := by
  intro hc hm h
  obtain ⟨n, f, q, g, j, r, t, d, w, jm, c, bb, gm, l, x0, x1, x2, kp, md, mg, rfl, rfl, hj, hjm, hG, hcv, hq, hr, hgm, hg⟩ := id h
  refine ⟨j, _, r, q, t, d, w, g, rfl, hq, hr, hg, rfl, fun e d' w' => ⟨_, jm, c, bb, q, gm, l, x0, x1, x2, kp, md, mg, g, rfl, hq, hgm, hg, rfl, fun _ l' md' mg' => ⟨rfl, Lsm_mk hj hjm hG hq hr hgm hg t d' w' c bb l' x0 x1 x2 kp md' mg' hcv⟩, fun s e' => ?_⟩, fun s e j' d' w' hj' => ⟨_, jm, c, bb, q, gm, l, x0, x1, x2, kp, md, mg, g, rfl, hq, hgm, hg, rfl, fun e' => ?_, fun s' e' j2 l' md' mg' hj2 => ?_⟩⟩
  · rw [e] at e'; cases e'
  · rw [e] at e'; cases e'
  · rw [e] at e'
    cases e'
    exact ⟨rfl, Lsm_mk hj' hj2 (mkr_mk q (mk_0 hq hg) e).1 hq hr hgm hg t d' w' c 1 l' x0 x1 x2 kp md' mg' (fun h => absurd h (by decide))⟩
