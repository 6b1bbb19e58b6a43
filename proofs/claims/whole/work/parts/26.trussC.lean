/-! the triangles in their order; trusses of the object -/
def crn (a b c x : Int32) : Int32 := if x = 0 then a else if x = 1 then b else if x = 2 then c else -2
def tC_corner : mT := fun as h k => ∃ a b c x, as = [.inl a, .inl b, .inl c, .inl x] ∧ k (some (crn a b c x)) h
set_option maxHeartbeats 4000000 in
theorem c_C_corner : m_Con cls 0 TB y_C_corner b_C_corner 4 (some .int) 0 0 tC_corner := by
  rintro l D cA ad sz as h k ⟨a, b, c, x, rfl, hk⟩
  refine Met.ofW (cc := b_C_corner) (maxL := 4) (ret := some .int) (by decide) rfl ?_
  intro p e s m args below meth cd s₁ B hml hv
  obtain ⟨rfl, hsz, hP, hK, hD0⟩ := hv
  have hx := B.exec
  have hb := B.bytes
  have hr := B.returns
  have hlocks := B.notSynchronized
  subst hsz
  have hD := hD0.self (sz := s.heap.size)
  generalize hAe : va_A (m_w 0 cA ad h) s.heap.size = A at hD ⊢
  have hS : va_S A s.heap s.heap [] := va_S.rf
  have hl := lv_entry ([.int a, .int b, .int c, .int x]) (n := 4) (Nat.le_of_ble_eq_true rfl)
  show W p l e _ s m _ below meth cd s.heap [] 0 0 _ (entryFrame m ([.int a, .int b, .int c, .int x] : List Value).toArray 4)
  rw [lg_entry_eq]
  generalize (lg_sl ([.int a, .int b, .int c, .int x]) ++ List.replicate (4 - (lg_sl ([.int a, .int b, .int c, .int x])).length) Slot.unset).toArray = ls at hl ⊢
  have hl : lv_has ls 4 [(0, .int a), (1, .int b), (2, .int c), (3, .int x)] := hl
  have fin : ∀ v : Int32, crn a b c x = v → ∀ pc, decode b_C_corner pc = .ok (.ireturn, 1) → W p l e (headSpec (Cond.code y_C_corner b_C_corner 4 (some .int) :: TB) (m_rm 0)).room s m (List.map (m_v ad) [Sum.inl a, Sum.inl b, Sum.inl c, Sum.inl x]).toArray below meth cd s.heap [] 0 0 (MQ below (m_Q D cls cA 0 ad 0 k A) (List.map (m_v ad) [Sum.inl a, Sum.inl b, Sum.inl c, Sum.inl x]).toArray s 0 0 A) (F0 m pc ls [.int v]) := by
    intro v hv pc hdg
    subst hv
    exact W.iret hx hb hr (fun t ht hW => ⟨⟨_, h, rfl, hk, by rw [ht]; exact hP, va_K.moved hW.alike hK, hD⟩, hS.F ht⟩) hS.2.2 hdg
  refine lv_iload_n hx hb (show decode b_C_corner 0 = .ok (.iload_n 3, 1) by decide +kernel) rfl (lv_at hl 3 rfl) ?_
  have hsw : decode b_C_corner 1 = .ok (.tableswitch 33 0 2 #[27, 29, 31], 27) := by decide +kernel
  have i0 : (0 : Int32).toInt = 0 := by decide
  have i1 : (1 : Int32).toInt = 1 := by decide
  have i2 : (2 : Int32).toInt = 2 := by decide
  by_cases h0 : x = 0
  · refine lv_tableIn (tgt := 28) hx hb hsw (by rw [h0, i0]; decide) (by rw [h0, i0]; decide) (off := 27) (by rw [h0, i0]; rfl) (by decide) ?_
    refine lv_iload_n hx hb (show decode b_C_corner 28 = .ok (.iload_n 0, 1) by decide +kernel) rfl (lv_at hl 0 rfl) ?_
    exact fin a (by rw [crn, if_pos h0]) 29 (by decide +kernel)
  · by_cases h1 : x = 1
    · refine lv_tableIn (tgt := 30) hx hb hsw (by rw [h1, i1]; decide) (by rw [h1, i1]; decide) (off := 29) (by rw [h1, i1]; rfl) (by decide) ?_
      refine lv_iload_n hx hb (show decode b_C_corner 30 = .ok (.iload_n 1, 1) by decide +kernel) rfl (lv_at hl 1 rfl) ?_
      exact fin b (by rw [crn, if_neg h0, if_pos h1]) 31 (by decide +kernel)
    · by_cases h2 : x = 2
      · refine lv_tableIn (tgt := 32) hx hb hsw (by rw [h2, i2]; decide) (by rw [h2, i2]; decide) (off := 31) (by rw [h2, i2]; rfl) (by decide) ?_
        refine lv_iload_n hx hb (show decode b_C_corner 32 = .ok (.iload_n 2, 1) by decide +kernel) rfl (lv_at hl 2 rfl) ?_
        exact fin c (by rw [crn, if_neg h0, if_neg h1, if_pos h2]) 33 (by decide +kernel)
      · refine lv_tableOut (tgt := 34) hx hb hsw ?_ (by decide) ?_
        · have z0 : x.toInt ≠ 0 := fun z => h0 (Int32.toInt_inj.mp (z.trans i0.symm))
          have z1 : x.toInt ≠ 1 := fun z => h1 (Int32.toInt_inj.mp (z.trans i1.symm))
          have z2 : x.toInt ≠ 2 := fun z => h2 (Int32.toInt_inj.mp (z.trans i2.symm))
          omega
        · refine lv_bipush (v := -2) hx hb (show decode b_C_corner 34 = .ok (.bipush (-2), 2) by decide +kernel) (by decide) ?_
          exact fin (-2) (by rw [crn, if_neg h0, if_neg h1, if_neg h2]) 36 (by decide +kernel)
theorem o_C84 {D : va_G} {cA : ClassId} {ad : Nat → Nat} {l : Launch} {R : Room} (hR : 0 + 1 ≤ R.frames ∧ 32 * (0 + 1) ≤ R.locals) : m_OK D cls cA 0 ad TB l "DegreeCores" R 84 true 4 tC_corner :=
  m_okS c_C_corner (by decide) tb_good w_C84 ⟨by decide +kernel, by decide +kernel, by decide +kernel⟩ (by decide) hR
-- the list of triangles
def tl3 (f : Nat → Nat) (a b : Nat) : Nat → Nat → List (Nat × Nat × Nat)
  | 0, _ => []
  | m + 1, c => bif tri f a b c then (a, b, c) :: tl3 f a b m (c + 1) else tl3 f a b m (c + 1)
def tl2 (f : Nat → Nat) (n a : Nat) : Nat → Nat → List (Nat × Nat × Nat)
  | 0, _ => []
  | m + 1, b => tl3 f a b (n - (b + 1)) (b + 1) ++ tl2 f n a m (b + 1)
def tl1 (f : Nat → Nat) (n : Nat) : Nat → Nat → List (Nat × Nat × Nat)
  | 0, _ => []
  | m + 1, a => tl2 f n a (n - (a + 1)) (a + 1) ++ tl1 f n m (a + 1)
def tls (n : Nat) (f : Nat → Nat) : List (Nat × Nat × Nat) := tl1 f n n 0
def fnd (x p : Int32) : Nat → List (Nat × Nat × Nat) → Int32
  | _, [] => -1
  | b, q :: t => if nI b = x then crn (nI q.1) (nI q.2.1) (nI q.2.2) p else fnd x p (b + 1) t
def tC_triangle : mT := fun as h k => ∃ n f x p, hC h n f ∧ as = [.inr 0, .inl x, .inl p] ∧ k (some (fnd x p 0 (tls n f))) h
set_option maxHeartbeats 4000000 in
set_option maxRecDepth 20000 in
theorem c_C_triangle : m_Con cls 0 TB y_C_triangle b_C_triangle 7 (some .int) 0 2 tC_triangle := by
  refine m_con (code := k_C_triangle) (fld := f_C) (fpt := p_C) (kon := []) (call := [(80, false, 4, tC_isTriangle), (84, true, 4, tC_corner)]) (C := R_C) (T := T_C) (N := 7) (by decide) (Or.inl ⟨rfl, rfl⟩) ok_C_triangle tb_C (fun l D cA ad => m_calls ?_) ?_ ?_
  · exact List.forall_mem_cons.mpr ⟨o_C80 ⟨Nat.le_of_ble_eq_true rfl, Nat.le_of_ble_eq_true rfl⟩, List.forall_mem_cons.mpr ⟨o_C84 ⟨Nat.le_of_ble_eq_true rfl, Nat.le_of_ble_eq_true rfl⟩, fun _ h => absurd h List.not_mem_nil⟩⟩
  · rintro as h k ⟨n, f, x, p, ⟨j, r, q, t, d, w, rfl, hj, hG⟩, rfl, hk⟩
    exact Nat.le_of_ble_eq_true rfl
  · rintro as h k ⟨n, f, x, p, ⟨j, r, q, t, d, w, rfl, hj, hG⟩, rfl, hk⟩ V hV
    have hh : hC (mkC j (nI n) r q t d w) n f := ⟨j, r, q, t, d, w, rfl, hj, hG⟩
    have hn := hG.1
    generalize hans : fnd x p 0 (tls n f) = ans at hk
    have l3 : ∀ m a b c bef rest, a < n → b < n → c + m = n → (∀ bef' (z : Option mV), fnd x p bef' rest = ans → V (20, [some (.inr 0), some (.inl x), some (.inl p), some (.inl (nI bef')), some (.inl (nI a)), some (.inl (nI (b + 1))), z], [], mkC j (nI n) r q t d w)) → fnd x p bef (tl3 f a b m c ++ rest) = ans → V (35, [some (.inr 0), some (.inl x), some (.inl p), some (.inl (nI bef)), some (.inl (nI a)), some (.inl (nI b)), some (.inl (nI c))], [], mkC j (nI n) r q t d w) := by
      intro m
      induction m with
      | zero =>
        intro a b c bef rest ha hb hc hcont he
        exact hV 60 35 _ _ _ (br_ge (a := c) (b := n) (by omega) (by omega) (fun _ => nm_r (nI_1 b) (hcont bef _ he)) (fun c => absurd c (by omega)))
      | succ m ih =>
        intro a b c bef rest ha hb hc hcont he
        refine hV 60 35 _ _ _ (br_ge (a := c) (b := n) (by omega) (by omega) (fun c => absurd c (by omega)) (fun _ => ⟨n, f, a, b, c, hh, rfl, ha, hb, by omega, br_ne (fun c1 => ?_) (fun c1 => nm_r (nI_1 c) ?_)⟩))
        · rw [tl3, c1] at he
          have he : (if nI bef = x then crn (nI a) (nI b) (nI c) p else fnd x p (bef + 1) (tl3 f a b m (c + 1) ++ rest)) = ans := he
          refine And.intro (fun c2 => nm_r (nI_1 bef) (nm_r (nI_1 c) ?_)) (fun c2 => ?_)
          · have c2 : ¬ nI bef = x := c2
            rw [if_neg c2] at he
            exact ih a b (c + 1) (bef + 1) rest ha hb (by omega) hcont he
          · have c2 : nI bef = x := c2
            rw [if_pos c2] at he
            rw [← he] at hk
            exact ⟨_, _, _, _, rfl, hk⟩
        · rw [tl3, c1] at he
          exact ih a b (c + 1) bef rest ha hb (by omega) hcont he
    have l2 : ∀ m a b bef rest (z : Option mV), a < n → b + m = n → (∀ bef' (y z : Option mV), fnd x p bef' rest = ans → V (5, [some (.inr 0), some (.inl x), some (.inl p), some (.inl (nI bef')), some (.inl (nI (a + 1))), y, z], [], mkC j (nI n) r q t d w)) → fnd x p bef (tl2 f n a m b ++ rest) = ans → V (20, [some (.inr 0), some (.inl x), some (.inl p), some (.inl (nI bef)), some (.inl (nI a)), some (.inl (nI b)), z], [], mkC j (nI n) r q t d w) := by
      intro m
      induction m with
      | zero =>
        intro a b bef rest z ha hb hcont he
        exact hV 60 20 _ _ _ (br_ge (a := b) (b := n) (by omega) (by omega) (fun _ => nm_r (nI_1 a) (hcont bef _ _ he)) (fun c => absurd c (by omega)))
      | succ m ih =>
        intro a b bef rest z ha hb hcont he
        refine hV 60 20 _ _ _ (br_ge (a := b) (b := n) (by omega) (by omega) (fun c => absurd c (by omega)) (fun _ => nm_r (nI_1 b) ?_))
        rw [tl2, List.append_assoc] at he
        exact l3 (n - (b + 1)) a b (b + 1) bef _ ha (by omega) (by omega) (fun bef' z' he' => ih a (b + 1) bef' rest z' ha (by omega) hcont he') he
    have l1 : ∀ m a bef (y z : Option mV), a + m = n → fnd x p bef (tl1 f n m a) = ans → V (5, [some (.inr 0), some (.inl x), some (.inl p), some (.inl (nI bef)), some (.inl (nI a)), y, z], [], mkC j (nI n) r q t d w) := by
      intro m
      induction m with
      | zero =>
        intro a bef y z ha he
        have he : (-1 : Int32) = ans := he
        refine hV 60 5 _ _ _ (br_ge (a := a) (b := n) (by omega) (by omega) (fun _ => ?_) (fun c => absurd c (by omega)))
        rw [← he] at hk
        exact hk
      | succ m ih =>
        intro a bef y z ha he
        refine hV 60 5 _ _ _ (br_ge (a := a) (b := n) (by omega) (by omega) (fun c => absurd c (by omega)) (fun _ => nm_r (nI_1 a) ?_))
        rw [tl1] at he
        exact l2 (n - (a + 1)) a (a + 1) bef _ z (by omega) (by omega) (fun bef' y' z' he' => ih (a + 1) bef' y' z' (by omega) he') he
    exact hV 60 0 _ _ _ (l1 n 0 0 none none (by omega) hans)
/-- of the rows that the object shrinks -/
def hT (h : mH) (j : Nat → Int32) (n : Nat) (r : Nat → Int32) (q : Int32) (d w : Nat → Int32) (τ : Nat → Nat) : Prop := ∃ t, h = mkC j (nI n) r q t d w ∧ ∀ v, v < n → t v = nI (τ v)
def tC_dropEdgesBelow : mT := fun as h k => ∃ j n f r q t d w τ s, h = mkC j (nI n) r q t d w ∧ (∀ v, v < n → t v = nI (τ v)) ∧ Gr n f ∧ topT n f s τ ∧ s ≤ 12 ∧ as = [.inr 0, .inl (nI s)] ∧
  ∀ h' τ' b, hT h' j n r q d w τ' → topT n f s τ' → (b = false → clT n s τ') → (b = true → mt n τ' + 2 ≤ mt n τ) → k (some (b2i b)) h'
theorem rmE_upd {t : Nat → Int32} {τ : Nat → Nat} {n a b : Nat} (ht : ∀ v, v < n → t v = nI (τ v)) (hab : a ≠ b) : ∀ v, v < n → upd (upd t a (nI (sd (τ a) (2 ^ b)))) b (nI (sd (τ b) (2 ^ a))) v = nI (rmE τ a b v) := by
  intro v hv
  unfold rmE
  by_cases h1 : v = a
  · subst h1
    rw [upd_n hab, upd_u, if_pos rfl]
  · rw [if_neg h1]
    by_cases h2 : v = b
    · subst h2
      rw [upd_u, if_pos rfl]
    · rw [upd_n h2, upd_n h1, if_neg h2, ht v hv]
set_option maxHeartbeats 4000000 in
set_option maxRecDepth 20000 in
theorem c_C_dropEdgesBelow : m_Con cls 0 TB y_C_dropEdgesBelow b_C_dropEdgesBelow 5 (some .boolean) 1 1 tC_dropEdgesBelow := by
  refine m_con (code := k_C_dropEdgesBelow) (fld := f_C) (fpt := p_C) (kon := []) (call := [(36, true, 2, tC_has), (43, true, 1, t_bitCount)]) (C := R_C) (T := T_C) (N := 7) (by decide) (Or.inr (Or.inl ⟨rfl, rfl⟩)) ok_C_dropEdgesBelow tb_C (fun l D cA ad => m_calls ?_) ?_ ?_
  · exact List.forall_mem_cons.mpr ⟨o_C36 ⟨Nat.le_of_ble_eq_true rfl, Nat.le_of_ble_eq_true rfl⟩, List.forall_mem_cons.mpr ⟨o_C43 ⟨Nat.le_of_ble_eq_true rfl, Nat.le_of_ble_eq_true rfl⟩, fun _ h => absurd h List.not_mem_nil⟩⟩
  · rintro as h k ⟨j, n, f, r, q, t, d, w, τ0, s, rfl, ht, hG, htop, hs12, rfl, hk⟩
    exact Nat.le_of_ble_eq_true rfl
  · rintro as h k ⟨j, n, f, r, q, t, d, w, τ0, s, rfl, ht, hG, htop, hs12, rfl, hk⟩ V hV
    have hn := hG.1
    have fl : ∀ (τ : Nat → Nat), Fam n f τ → ∀ v, v < n → τ v < 4096 := fun τ hF v hv => Nat.lt_of_lt_of_le (fam_lt hG hF hv) (p12 hn)
    have inner : ∀ m a b t τ dr, a < n → a < b → b + m = n → (∀ v, v < n → t v = nI (τ v)) → topT n f s τ →
        (dr = false → mt n τ = mt n τ0 ∧ ∀ a' b', a' < b' → b' < n → (a' < a ∨ (a' = a ∧ b' < b)) → (τ a').testBit b' = true → s ≤ pop (τ a' &&& τ b')) → (dr = true → mt n τ + 2 ≤ mt n τ0) →
        (∀ t τ dr (z : Option mV), (∀ v, v < n → t v = nI (τ v)) → topT n f s τ → (dr = false → mt n τ = mt n τ0 ∧ ∀ a' b', a' < b' → b' < n → a' < a + 1 → (τ a').testBit b' = true → s ≤ pop (τ a' &&& τ b')) → (dr = true → mt n τ + 2 ≤ mt n τ0) → V (4, [some (.inr 0), some (.inl (nI s)), some (.inl (b2i dr)), some (.inl (nI (a + 1))), z], [], mkC j (nI n) r q t d w)) →
        V (17, [some (.inr 0), some (.inl (nI s)), some (.inl (b2i dr)), some (.inl (nI a)), some (.inl (nI b))], [], mkC j (nI n) r q t d w) := by
      intro m
      induction m with
      | zero =>
        intro a b t τ dr ha hab hb ht htop h1 h2 hcont
        refine hV 80 17 _ _ _ (br_ge (a := b) (b := n) (by omega) (by omega) (fun _ => nm_r (nI_1 a) (hcont t τ dr _ ht htop (fun e => ⟨(h1 e).1, fun a' b' x1 x2 x3 => (h1 e).2 a' b' x1 x2 (by omega)⟩) h2)) (fun c => absurd c (by omega)))
      | succ m ih =>
        intro a b t τ dr ha hab hb ht htop h1 h2 hcont
        have ga := fl τ htop.1 a ha
        have gb := fl τ htop.1 b (by omega)
        have ea := clamp12 ha hn
        have eb := clamp12 (v := b) (n := n) (by omega) hn
        refine hV 80 17 _ _ _ (br_ge (a := b) (b := n) (by omega) (by omega) (fun c => absurd c (by omega)) (fun _ => And.intro (vp_in_nI (by omega) (by omega)) (nm_r (e' := nI (τ a)) (by rw [ea, ht a ha]) ⟨τ a, b, rfl, by omega, by omega, br_eq (fun c => nm_r (nI_1 b) ?_) (fun c => ?_)⟩)))
        · exact ih a (b + 1) t τ dr ha (by omega) (by omega) ht htop (fun e => ⟨(h1 e).1, fun a' b' x1 x2 x3 hz => by
            by_cases hq : a' = a ∧ b' = b
            · rw [hq.1, hq.2, c] at hz; cases hz
            · exact (h1 e).2 a' b' x1 x2 (by omega) hz⟩) h2 hcont
        · refine And.intro (vp_in_nI (by omega) (by omega)) (nm_r (e' := nI (τ a)) (by rw [ea, ht a ha]) (And.intro (vp_in_nI (by omega) (by omega)) (nm_r (e' := nI (τ b)) (by rw [eb, ht b (by omega)]) (nm_r (nx_and _ _) ⟨_, rfl, ?_⟩))))
          have hlt : τ a &&& τ b < 4096 := Nat.lt_of_le_of_lt Nat.and_le_left ga
          have hp12 : pop (τ a &&& τ b) ≤ 12 := pop_le (n := 12) hlt (by omega)
          rw [bc_n hlt]
          refine br_ge (a := pop (τ a &&& τ b)) (b := s) (by omega) (by omega) (fun c2 => nm_r (nI_1 b) ?_) (fun c2 => ?_)
          · exact ih a (b + 1) t τ dr ha (by omega) (by omega) ht htop (fun e => ⟨(h1 e).1, fun a' b' x1 x2 x3 hz => by
              by_cases hq : a' = a ∧ b' = b
              · rw [hq.1, hq.2]; exact c2
              · exact (h1 e).2 a' b' x1 x2 (by omega) hz⟩) h2 hcont
          · have hne : a ≠ b := by omega
            refine And.intro (vp_in_nI (by omega) (by omega)) (nm_r (e' := nI (τ a)) (by rw [ea, ht a ha]) (nm_r (nx_shl b (by omega)) (nm_e (nm_r (nx_sd _ _) (And.intro (vp_in_nI (by omega) (by omega)) ?_)))))
            refine And.intro (vp_in_nI (by omega) (by omega)) (nm_r (e' := nI (τ b)) (by rw [ea, eb, upd_n (fun z => hne z.symm), ht b (by omega)]) (nm_r (nx_shl a (by omega)) (nm_e (nm_r (nx_sd _ _) (And.intro (vp_in_nI (by omega) (by omega)) (nm_r (nI_1 b) ?_))))))
            have hmt := mt_rm hG htop.1 ha (by omega : b < n) hne c
            have hle : mt n τ ≤ mt n τ0 := by
              cases dr with
              | false => exact Nat.le_of_eq (h1 rfl).1
              | true => have := h2 rfl; omega
            have := ih a (b + 1) _ (rmE τ a b) true ha (by omega) (by omega) (rmE_upd ht hne) (top_rm hG htop ha (by omega) hne c2) (fun e => by cases e) (fun _ => by omega) hcont
            rw [← ea, ← eb] at this
            rw [ea, eb] at this
            show V (17, [some (.inr 0), some (.inl (nI s)), some (.inl (b2i true)), some (.inl (nI a)), some (.inl (nI (b + 1)))], [], mkC j (nI n) r q (upd (upd t (nI a).toNatClampNeg (nI (sd (τ a) (2 ^ b)))) (nI b).toNatClampNeg (nI (sd (τ b) (2 ^ a)))) d w)
            rw [ea, eb]
            exact this
    have outer : ∀ m a t τ dr (z : Option mV), a + m = n → (∀ v, v < n → t v = nI (τ v)) → topT n f s τ → (dr = false → mt n τ = mt n τ0 ∧ ∀ a' b', a' < b' → b' < n → a' < a → (τ a').testBit b' = true → s ≤ pop (τ a' &&& τ b')) → (dr = true → mt n τ + 2 ≤ mt n τ0) →
        V (4, [some (.inr 0), some (.inl (nI s)), some (.inl (b2i dr)), some (.inl (nI a)), z], [], mkC j (nI n) r q t d w) := by
      intro m
      induction m with
      | zero =>
        intro a t τ dr z ha ht htop h1 h2
        refine hV 80 4 _ _ _ (br_ge (a := a) (b := n) (by omega) (by omega) (fun _ => And.intro (b2i_01 dr) ?_) (fun c => absurd c (by omega)))
        refine hk _ τ dr ⟨t, rfl, ht⟩ htop (fun e => ?_) h2
        intro a' b' ha' hb' hz
        rcases Nat.lt_trichotomy a' b' with hl | hl | hl
        · exact (h1 e).2 a' b' hl hb' (by omega) hz
        · subst hl
          have := htop.1.1 a' ha' a' hz
          rw [hG.2.2.1 a' ha'] at this
          cases this
        · have h3 := (h1 e).2 b' a' hl ha' (by omega) (by rw [htop.1.2 b' a' hb' ha']; exact hz)
          rw [Nat.and_comm]
          exact h3
      | succ m ih =>
        intro a t τ dr z ha ht htop h1 h2
        refine hV 80 4 _ _ _ (br_ge (a := a) (b := n) (by omega) (by omega) (fun c => absurd c (by omega)) (fun _ => nm_r (nI_1 a) ?_))
        exact inner (n - (a + 1)) a (a + 1) t τ dr (by omega) (by omega) (by omega) ht htop (fun e => ⟨(h1 e).1, fun a' b' x1 x2 x3 => (h1 e).2 a' b' x1 x2 (by omega)⟩) h2 (fun t τ dr z ht htop h1 h2 => ih (a + 1) t τ dr z (by omega) ht htop h1 h2)
    exact hV 80 0 _ _ _ (outer n 0 t τ0 false none (by omega) ht htop (fun _ => ⟨rfl, fun a' b' _ _ x => by omega⟩) (fun e => by cases e))
theorem o_C120 {D : va_G} {cA : ClassId} {ad : Nat → Nat} {l : Launch} {R : Room} (hR : 1 + 1 ≤ R.frames ∧ 32 * (1 + 1) ≤ R.locals) : m_OK D cls cA 0 ad TB l "DegreeCores" R 120 false (1 + 1) tC_dropEdgesBelow :=
  m_okV (C := R_C) (Tu := T_C) (N := 7) rfl c_C_dropEdgesBelow (by decide) tb_good w_C120 ⟨rfl, by decide +kernel, by decide +kernel, by decide +kernel⟩ (by decide) hR (by rintro as h k ⟨j, n, f, r, q, t, d, w, τ0, s, rfl, ht, hG, htop, hs12, rfl, hk⟩; exact ⟨0, _, _, rfl, rfl⟩)
def tC_shrinkToTruss : mT := fun as h k => ∃ j n f r q t d w τ s, h = mkC j (nI n) r q t d w ∧ (∀ v, v < n → t v = nI (τ v)) ∧ Gr n f ∧ topT n f s τ ∧ s ≤ 12 ∧ as = [.inr 0, .inl (nI (s + 2))] ∧
  ∀ h' τ', hT h' j n r q d w τ' → isTr n f s τ' → k none h'
theorem nn_132 : ∀ n, n ≤ 12 → n * (n - 1) ≤ 132 := by decide
set_option maxHeartbeats 4000000 in
set_option maxRecDepth 20000 in
theorem c_C_shrinkToTruss : m_Con cls 0 TB y_C_shrinkToTruss b_C_shrinkToTruss 4 (none) 2 2 tC_shrinkToTruss := by
  refine m_con (code := k_C_shrinkToTruss) (fld := f_C) (fpt := p_C) (kon := []) (call := [(120, false, 2, tC_dropEdgesBelow)]) (C := R_C) (T := T_C) (N := 7) (by decide) (Or.inr (Or.inr ⟨rfl, rfl⟩)) ok_C_shrinkToTruss tb_C (fun l D cA ad => m_calls ?_) ?_ ?_
  · exact List.forall_mem_cons.mpr ⟨o_C120 ⟨Nat.le_of_ble_eq_true rfl, Nat.le_of_ble_eq_true rfl⟩, fun _ h => absurd h List.not_mem_nil⟩
  · rintro as h k ⟨j, n, f, r, q, t, d, w, τ0, s, rfl, ht, hG, htop, hs12, rfl, hk⟩
    exact Nat.le_of_ble_eq_true rfl
  · rintro as h k ⟨j, n, f, r, q, t, d, w, τ0, s, rfl, ht, hG, htop, hs12, rfl, hk⟩ V hV
    have hn := hG.1
    have h132 := nn_132 n hn
    have loop : ∀ m i t τ dr, i + m = 66 → (∀ v, v < n → t v = nI (τ v)) → topT n f s τ → (dr = false → clT n s τ) → (dr = true → mt n τ + 2 * i ≤ 132) → V (4, [some (.inr 0), some (.inl (nI (s + 2))), some (.inl (b2i dr)), some (.inl (nI i))], [], mkC j (nI n) r q t d w) := by
      intro m
      induction m with
      | zero =>
        intro i t τ dr hi ht htop h1 h2
        refine hV 80 4 _ _ _ (br_eq (fun c => hk _ τ ⟨t, rfl, ht⟩ ⟨htop, h1 c⟩) (fun c => br_ge (a := i) (b := 66) (by omega) (by omega) (fun _ => ?_) (fun c => absurd c (by omega))))
        have := h2 c
        exact hk _ τ ⟨t, rfl, ht⟩ ⟨htop, mt_0 hG htop.1 (by omega) s⟩
      | succ m ih =>
        intro i t τ dr hi ht htop h1 h2
        refine hV 80 4 _ _ _ (br_eq (fun c => hk _ τ ⟨t, rfl, ht⟩ ⟨htop, h1 c⟩) (fun c => br_ge (a := i) (b := 66) (by omega) (by omega) (fun c => absurd c (by omega)) (fun _ => nm_r (e' := nI s) ?_ ⟨j, n, f, r, q, t, d, w, τ, s, rfl, ht, hG, htop, hs12, rfl, ?_⟩)))
        · have := pk_sub (a := s + 2) (b := 2) (by omega)
          exact this
        · rintro h' τ' b ⟨t', rfl, ht'⟩ htop' g1 g2
          refine nm_r (nI_1 i) ?_
          exact ih (i + 1) t' τ' b (by omega) ht' htop' g1 (fun e => by have := g2 e; have := h2 c; omega)
    exact hV 80 0 _ _ _ (loop 66 0 t τ0 true (by omega) ht htop (fun e => by cases e) (fun _ => by have := mt_le hG htop.1; omega))
theorem o_C97 {D : va_G} {cA : ClassId} {ad : Nat → Nat} {l : Launch} {R : Room} (hR : 2 + 1 ≤ R.frames ∧ 32 * (2 + 1) ≤ R.locals) : m_OK D cls cA 0 ad TB l "DegreeCores" R 97 false (1 + 1) tC_shrinkToTruss :=
  m_okV (C := R_C) (Tu := T_C) (N := 7) rfl c_C_shrinkToTruss (by decide) tb_good w_C97 ⟨rfl, by decide +kernel, by decide +kernel, by decide +kernel⟩ (by decide) hR (by rintro as h k ⟨j, n, f, r, q, t, d, w, τ0, s, rfl, ht, hG, htop, hs12, rfl, hk⟩; exact ⟨0, _, _, rfl, rfl⟩)
def aTr (n : Nat) (f : Nat → Nat) (x y r : Int32) : Prop := (edg n f x y = false ∧ r = -1) ∨ ∃ u v c, u < n ∧ v < n ∧ x = nI u ∧ y = nI v ∧ edg n f x y = true ∧ isTN n f u v c ∧ r = nI c
def tC_truss : mT := fun as h k => ∃ j n f r q t d w x y, h = mkC j (nI n) r q t d w ∧ (∀ v, v < n → j v = nI (f v)) ∧ Gr n f ∧ as = [.inr 0, .inl x, .inl y] ∧ ∀ t' rr, aTr n f x y rr → k (some rr) (mkC j (nI n) r q t' d w)
set_option maxHeartbeats 4000000 in
set_option maxRecDepth 20000 in
theorem c_C_truss : m_Con cls 0 TB y_C_truss b_C_truss 5 (some .int) 0 3 tC_truss := by
  refine m_con (code := k_C_truss) (fld := f_C) (fpt := p_C) (kon := []) (call := [(88, false, 3, tC_isEdge), (91, true, 5, t_copy), (97, false, 2, tC_shrinkToTruss), (36, true, 2, tC_has)]) (C := R_C) (T := T_C) (N := 7) (by decide) (Or.inl ⟨rfl, rfl⟩) ok_C_truss tb_C (fun l D cA ad => m_calls ?_) ?_ ?_
  · exact List.forall_mem_cons.mpr ⟨o_C88 ⟨Nat.le_of_ble_eq_true rfl, Nat.le_of_ble_eq_true rfl⟩, List.forall_mem_cons.mpr ⟨o_C91 ⟨Nat.le_of_ble_eq_true rfl, Nat.le_of_ble_eq_true rfl⟩, List.forall_mem_cons.mpr ⟨o_C97 ⟨Nat.le_of_ble_eq_true rfl, Nat.le_of_ble_eq_true rfl⟩, List.forall_mem_cons.mpr ⟨o_C36 ⟨Nat.le_of_ble_eq_true rfl, Nat.le_of_ble_eq_true rfl⟩, fun _ h => absurd h List.not_mem_nil⟩⟩⟩⟩
  · rintro as h k ⟨j, n, f, r, q, t, d, w, x, y, rfl, hj, hG, rfl, hk⟩
    exact Nat.le_of_ble_eq_true rfl
  · rintro as h k ⟨j, n, f, r, q, t, d, w, x, y, rfl, hj, hG, rfl, hk⟩ V hV
    have hh : hC (mkC j (nI n) r q t d w) n f := ⟨j, r, q, t, d, w, rfl, hj, hG⟩
    have hn := hG.1
    refine hV 80 0 _ _ _ ⟨n, f, x, y, hh, rfl, br_ne (fun c => ?_) (fun c => hk t _ (Or.inl ⟨c, rfl⟩))⟩
    obtain ⟨u, v, hu, hv, huv, rfl, rfl, hb⟩ := edg_t hn c
    have loop : ∀ m s t τ, s + 2 + m = n → (∀ v, v < n → t v = nI (τ v)) → topT n f (s + 1) τ → (0 < s → mem n f s u v) → V (33, [some (.inr 0), some (.inl (nI u)), some (.inl (nI v)), some (.inl (nI (s + 2))), some (.inl (nI (s + 3)))], [], mkC j (nI n) r q t d w) := by
      intro m
      induction m with
      | zero =>
        intro s t τ hs ht htop hm
        refine hV 80 33 _ _ _ (br_gt (a := s + 3) (b := n) (by omega) (by omega) (fun _ => ?_) (fun c => absurd c (by omega)))
        refine hk t _ (Or.inr ⟨u, v, s + 2, hu, hv, rfl, rfl, c, ⟨by omega, fun h => hm (by omega), fun h => ?_⟩, rfl⟩)
        have := mem_n hG hu hv h
        omega
      | succ m ih =>
        intro s t τ hs ht htop hm
        refine hV 80 33 _ _ _ (br_gt (a := s + 3) (b := n) (by omega) (by omega) (fun c => absurd c (by omega)) (fun _ => ⟨j, n, f, r, q, t, d, w, τ, s + 1, rfl, ht, hG, htop, by omega, rfl, ?_⟩))
        rintro h' τ' ⟨t', rfl, ht'⟩ htr
        have gu : τ' u < 4096 := Nat.lt_of_lt_of_le (fam_lt hG htr.1.1 hu) (p12 hn)
        refine And.intro (vp_in_nI (by omega) (by omega)) (nm_r (e' := nI (τ' u)) (by rw [clamp12 hu hn, ht' u hu]) ⟨τ' u, v, rfl, by omega, by omega, br_ne (fun c2 => nm_r (nI_1 (s + 3)) ?_) (fun c2 => ?_)⟩)
        · exact ih (s + 1) t' τ' (by omega) ht' (top_s htr.1) (fun _ => (tr_mem htr hu).mp c2)
        · refine hk t' _ (Or.inr ⟨u, v, s + 2, hu, hv, rfl, rfl, c, ⟨by omega, fun h => hm (by omega), fun h => ?_⟩, rfl⟩)
          rw [(tr_mem htr hu).mpr h] at c2
          cases c2
    refine ⟨1, 3, 12, 12, n, j, t, rfl, rfl, rfl, by omega, by omega, by omega, ?_⟩
    refine loop (n - 2) 0 _ f (by omega) (fun v hv => ?_) (top_f hG 1) (fun h => by omega)
    rw [pk_cpy_in (Nat.zero_le v) (by omega), Nat.zero_add, Nat.sub_zero, hj v hv]
