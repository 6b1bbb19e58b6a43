/-! calls and pushes of the law -/
theorem lw_join {A0 : Nat → Prop} {D : va_G} {cl : List vw_C} {pre w1 post w1' : va_W} {H H1 : Heap} (hP : va_P D cl (pre ++ (w1 ++ post)) H) (hD : va_D A0 (pre ++ (w1 ++ post)))
    (hk : ∀ q : Nat, q < H.size → ¬ va_A w1 H.size q → H1[q]? = H[q]?) (hF : ∀ q, va_A w1 H.size q → A0 q) (hP1 : va_P D cl w1' H1) (hD1 : va_D (va_A w1 H.size) w1') : va_P D cl (pre ++ (w1' ++ post)) H1 ∧ va_D A0 (pre ++ (w1' ++ post)) := by
  have g0 : ∀ (k : Nat) (q : Nat × va_E), pre[k]? = some q → (pre ++ (w1 ++ post))[k]? = some q ∧ k < pre.length := fun k q h => by
    have hl := (List.getElem?_eq_some_iff.mp h).1
    exact ⟨by rw [List.getElem?_append_left hl]; exact h, hl⟩
  have g1 : ∀ (k : Nat) (q : Nat × va_E), w1[k]? = some q → (pre ++ (w1 ++ post))[pre.length + k]? = some q ∧ k < w1.length := fun k q h => by
    have hl := (List.getElem?_eq_some_iff.mp h).1
    refine ⟨?_, hl⟩
    rw [List.getElem?_append_right (by omega), show pre.length + k - pre.length = k by omega, List.getElem?_append_left hl]
    exact h
  have g2 : ∀ (k : Nat) (q : Nat × va_E), post[k]? = some q → (pre ++ (w1 ++ post))[pre.length + (w1.length + k)]? = some q := fun k q h => by
    rw [List.getElem?_append_right (by omega), show pre.length + (w1.length + k) - pre.length = w1.length + k by omega, List.getElem?_append_right (by omega), show w1.length + k - w1.length = k by omega]
    exact h
  have a0 : ∀ (k : Nat) (q : Nat × va_E), pre[k]? = some q → q.1 < H.size ∧ ¬ va_A w1 H.size q.1 := fun k q h => by
    obtain ⟨h1, h2⟩ := g0 k q h
    have hl := (hP k q h1).lt
    refine ⟨hl, fun z => ?_⟩
    rcases z with ⟨k2, e, z⟩ | z
    · obtain ⟨h3, h4⟩ := g1 k2 (q.1, e) z
      have := hD.1 k (pre.length + k2) q (q.1, e) h1 h3 rfl
      omega
    · omega
  have a2 : ∀ (k : Nat) (q : Nat × va_E), post[k]? = some q → q.1 < H.size ∧ ¬ va_A w1 H.size q.1 := fun k q h => by
    have h1 := g2 k q h
    have hl := (hP _ q h1).lt
    refine ⟨hl, fun z => ?_⟩
    rcases z with ⟨k2, e, z⟩ | z
    · obtain ⟨h3, h4⟩ := g1 k2 (q.1, e) z
      have := hD.1 _ (pre.length + k2) q (q.1, e) h1 h3 rfl
      omega
    · omega
  have p0 : va_P D cl pre H1 := fun k q h => (hP k q (g0 k q h).1).kept (hk q.1 (a0 k q h).1 (a0 k q h).2)
  have p2 : va_P D cl post H1 := fun k q h => (hP _ q (g2 k q h)).kept (hk q.1 (a2 k q h).1 (a2 k q h).2)
  have d0 : va_D A0 pre := ⟨fun i j x y hx hy e => hD.1 i j x y (g0 i x hx).1 (g0 j y hy).1 e, fun k q h => hD.2 k q (g0 k q h).1⟩
  have d2 : va_D A0 post := ⟨fun i j x y hx hy e => by
    have := hD.1 _ _ x y (g2 i x hx) (g2 j y hy) e
    omega, fun k q h => hD.2 _ q (g2 k q h)⟩
  refine ⟨va_P.app p0 (va_P.app hP1 p2), va_D.app d0 (va_D.app (hD1.weaken (fun _ q _ h => hF q.1 h)) d2 (fun i j x y hx hy e => ?_)) (fun i j x y hx hy e => ?_)⟩
  · exact (a2 j y hy).2 (by rw [← e]; exact hD1.2 i x hx)
  · obtain ⟨h1, h2⟩ := g0 i x hx
    by_cases hj : j < w1'.length
    · rw [List.getElem?_append_left hj] at hy
      exact (a0 i x hx).2 (by rw [e]; exact hD1.2 j y hy)
    · rw [List.getElem?_append_right (by omega)] at hy
      have h3 := g2 _ y hy
      have := hD.1 i _ x y h1 h3 e
      omega
/-- what the law keeps -/
def lwC (p : Program) (s : State) (m : MethodId) (meth : Method) (c : Code) (b L : Nat) (xs : Nat → Int32) (Ts : List Cond) (D : va_G) (cA : ClassId) : Prop :=
  p.tables.exec = Jvm.exec ∧ c.code = code ∧ meth.sig.returnType = ret ∧ c.maxLocals = 4 ∧ s.vm.findClass "DegreeCoresLaw" = some m.cls ∧ (∀ w ∈ Ts, w.before #[Value.ref b] s = true) ∧ va_X b L xs s s.heap ∧ b < s.heap.size ∧ meth.locks = false ∧ va_K D cls [(cA, .int)] s ∧ L ≤ 2048
section LC
variable {p : Program} {l : Launch} {e : Env} {s : State} {m : MethodId} {below : List Frame} {meth : Method} {c : Code} {b L : Nat} {xs : Nat → Int32} {Ts : List Cond} {D : va_G} {cA : ClassId} {Q : State → Prop}
theorem lw_call {ci : Nat} {C : String} {Tu : u_T} {N : Nat} (hcl : cls[ci]? = some (C, Tu, N)) {y : MethodName} {bytes : ByteArray} {maxL d idx na : Nat} {T : mT} (hC : m_Con cls ci Ts y bytes maxL (some .int) 0 d T) (hgood : ∀ w ∈ Ts, ((w.onTables && w.keeps) = true ∨ ∃ ty, w = .arrayClass ty))
    (hws : ∀ w ∈ ([.methodLink "DegreeCoresLaw" idx y, .instanceMethod y, .selects C y y, .initialized C, Cond.code y bytes maxL (some .int)] : List Cond), w ∈ Ts) (hyc : y.cls = C ∧ y.cls ≠ "java/lang/invoke/MethodHandle" ∧ y.cls ≠ "java/lang/invoke/VarHandle" ∧ (parseMethodDescriptor y.desc).map (fun d => d.parameters.length) = some na) (hmx : maxL ≤ 13) (hd : d ≤ 7)
    (hc0 : lwC p s m meth c b L xs Ts D cA) {pc : Nat} {ls : Array Slot} {rest : List Value} {as : List mV} {h : mH} {ad : Nat → Nat} {k : Option Int32 → mH → Prop} {H : Heap} {locs : List Loc} {pre post : va_W} {fs : List mV}
    (hT : T (.inr 0 :: as) h k) (has : as.length = na) (h0 : m_at h 0 = some (.inl fs)) (hdg : decode code pc = .ok (.invokevirtual idx, 3)) (hls : ls.size = 4) (hrest : (rest.map fun v => v.category).sum ≤ 8)
    (hP : va_P D cls (pre ++ (m_w ci cA ad h ++ post)) H) (hD : va_D (fun q => s.heap.size ≤ q) (pre ++ (m_w ci cA ad h ++ post))) (hS : va_S (fun q => s.heap.size ≤ q) s.heap H locs)
    (kk : ∀ (r : Int32) (h' : mH) (H1 : Heap) (locs1 : List Loc), k (some r) h' → va_P D cls (pre ++ (m_w ci cA ad h' ++ post)) H1 → va_D (fun q => s.heap.size ≤ q) (pre ++ (m_w ci cA ad h' ++ post)) → va_S (fun q => s.heap.size ≤ q) s.heap H1 locs1 → W p l e room_1 s m #[Value.ref b] below meth c H1 locs1 13 4236 Q (F0 m (pc + 3) ls (.int r :: rest))) :
    W p l e room_1 s m #[Value.ref b] below meth c H locs 13 4236 Q (F0 m pc ls ((as.map (m_v ad)).reverse ++ .ref (ad 0) :: rest)) := by
  obtain ⟨hx, hb, hr, hml, hown, hts, hX, hbl, hlk, hK, hL⟩ := hc0
  have hG : GoodIn Ts (wsV "DegreeCoresLaw" idx C y (Cond.code y bytes maxL (some .int) :: Ts)) := by
    intro w hw
    have hin : w ∈ Ts := by
      unfold wsV at hw
      rcases List.mem_append.mp hw with h1 | h1
      · exact hws w (by simp only [List.mem_cons, List.not_mem_nil, or_false] at h1 ⊢; rcases h1 with h1 | h1 | h1 | h1 <;> simp [h1])
      · rcases List.mem_cons.mp h1 with h1 | h1
        · exact hws w (by simp [h1])
        · exact h1
    exact ⟨hin, hgood w hin⟩
  have hPc : va_P D cls (m_w ci cA ad h) H := fun k2 q hq => hP (pre.length + k2) q (by
    have hl := (List.getElem?_eq_some_iff.mp hq).1
    rw [List.getElem?_append_right (by omega), show pre.length + k2 - pre.length = k2 by omega, List.getElem?_append_left hl]
    exact hq)
  have hDc : va_D (fun q => s.heap.size ≤ q) (m_w ci cA ad h) := by
    have g1 : ∀ (k2 : Nat) (q : Nat × va_E), (m_w ci cA ad h)[k2]? = some q → (pre ++ (m_w ci cA ad h ++ post))[pre.length + k2]? = some q := fun k2 q hq => by
      have hl := (List.getElem?_eq_some_iff.mp hq).1
      rw [List.getElem?_append_right (by omega), show pre.length + k2 - pre.length = k2 by omega, List.getElem?_append_left hl]
      exact hq
    exact ⟨fun i j x y hx hy ee => by have := hD.1 _ _ x y (g1 i x hx) (g1 j y hy) ee; omega, fun k2 q hq => hD.2 _ q (g1 k2 q hq)⟩
  have hF : ∀ q, va_A (m_w ci cA ad h) H.size q → s.heap.size ≤ q := by
    rintro q (⟨k2, e2, h2⟩ | h2)
    · exact hDc.2 k2 (q, e2) h2
    · exact Nat.le_trans hS.1 h2
  have hrun := va_runV (As := as.map (m_v ad)) (rest := rest) (b := ad 0) (C := C) (R := room_1) (e := e) (below := below) (meth := meth) (H := H) (locs := locs) (cells := 13) (slots := 4236) (g := F0 m pc ls ((as.map (m_v ad)).reverse ++ .ref (ad 0) :: rest)) ⟨hx, hb, hml, hown, hts⟩ (hC l D cA ad H.size _ h k hT) (cwV na hts hG rfl rfl rfl hyc ⟨by show d + 1 ≤ 8; omega, by show 8 + (maxL + 11) + 32 * d ≤ 262; omega⟩)
    ⟨m_blind D cls cA ci ad H.size _ h, va_recv hK hPc hcl (m_w_get h0), fun U hU hW => ⟨rfl, by rw [hU], by rw [hU]; exact hPc, va_K.moved hW.alike hK, hDc.weaken (fun _ _ _ _ => trivial)⟩⟩ rfl (by rw [List.length_map]; exact has) hls rfl (lv_room hrest) hdg ⟨Nat.le_refl _, Nat.le_refl _⟩
  refine va_calli (a := (Value.ref (ad 0) :: as.map (m_v ad)).toArray) (A1 := va_A (m_w ci cA ad h) H.size) (post := fun (r : Int32) (u : mH) => k (some r) u) (B := m_B D cls cA ci ad (va_A (m_w ci cA ad h) H.size)) hrun hS (fun q _ h => hF q h) hF (fun r u t H1 locs1 ht hvm hpost hB hsz hk2 hS1 => ?_)
  obtain ⟨hP1, hD1⟩ := lw_join hP hD hk2 hF (by rw [← ht]; exact hB.1) hB.2.2
  exact kk r u H1 locs1 hpost hP1 hD1 hS1
def pshOK : Nat → List Nat → Prop
  | _, [] => True
  | pc, k :: t => decode code pc = .ok (.aload_n 0, 1) ∧ decode code (pc + 1) = .ok (.iload_n 3, 1) ∧ decode code (pc + 2) = .ok (.iconst (k : Int), 1) ∧ decode code (pc + 3) = .ok (.iadd, 1) ∧ decode code (pc + 4) = .ok (.iaload, 1) ∧ pshOK (pc + 5) t
theorem lw_push (hc0 : lwC p s m meth c b L xs Ts D cA) {H : Heap} {locs : List Loc} (hS : va_S (fun q => s.heap.size ≤ q) s.heap H locs) {i : Nat} (hi : i + 4 ≤ L) {ls : Array Slot} {x1 x2 : Nat} (hl : lv_has ls 4 [(0, .ref b), (1, .ref x1), (2, .ref x2), (3, .int (nI i))]) (ks : List Nat) : (∀ k ∈ ks, k ≤ 3) → ∀ (pc : Nat) (st : List Value), pshOK pc ks →
    W p l e room_1 s m #[Value.ref b] below meth c H locs 13 4236 Q (F0 m (pc + 5 * ks.length) ls ((ks.map (fun k => Value.int (xs (i + k)))).reverse ++ st)) → W p l e room_1 s m #[Value.ref b] below meth c H locs 13 4236 Q (F0 m pc ls st) := by
  obtain ⟨hx, hb, hr, hml, hown, hts, hX, hbl, hlk, hK, hL⟩ := hc0
  induction ks with
  | nil => intro _ pc st _ h; exact h
  | cons k t ih =>
    intro hks pc st hd h
    obtain ⟨d0, d1, d2, d3, d4, d5⟩ := hd
    have hk : k ≤ 3 := hks k List.mem_cons_self
    have hkv : Int32.ofInt (k : Int) = nI k := by
      rcases (show k = 0 ∨ k = 1 ∨ k = 2 ∨ k = 3 by omega) with rfl | rfl | rfl | rfl <;> decide
    refine lv_aload_n hx hb d0 rfl (lv_at hl 0 rfl) (lv_iload_n hx hb d1 rfl (lv_at hl 3 rfl) (lv_iconst (v := nI k) hx hb d2 hkv (lv_iadd hx hb d3 ?_)))
    rw [nI_add]
    refine va_sld hx hb hX hbl (Nat.not_le.mpr hbl) hS (vp_in_nI (by omega) (by omega)) d4 ?_
    rw [nI_clamp (by omega)]
    have e1 : pc + 5 * (k :: t).length = pc + 5 + 5 * t.length := by simp; omega
    have e2 : ((k :: t).map (fun k => Value.int (xs (i + k)))).reverse ++ st = (t.map (fun k => Value.int (xs (i + k)))).reverse ++ (.int (xs (i + k)) :: st) := by simp
    rw [e1, e2] at h
    exact ih (fun k' hk' => hks k' (List.mem_cons_of_mem _ hk')) (pc + 5) _ d5 h
theorem m_map_int (ad : Nat → Nat) (g : Nat → Int32) (ks : List Nat) : (ks.map (fun k => (Sum.inl (g k) : mV))).map (m_v ad) = ks.map (fun k => Value.int (g k)) := by
  rw [List.map_map]
  rfl
/-- one case of the switch: both are asked, and answer alike -/
theorem lw_case {yC yM : MethodName} {bC bM : ByteArray} {lC lM dC dM iC iM na : Nat} {TC TM : mT} (hC : m_Con cls 0 Ts yC bC lC (some .int) 0 dC TC) (hM : m_Con cls 1 Ts yM bM lM (some .int) 0 dM TM) (hgood : ∀ w ∈ Ts, ((w.onTables && w.keeps) = true ∨ ∃ ty, w = .arrayClass ty))
    (wC : ∀ w ∈ ([.methodLink "DegreeCoresLaw" iC yC, .instanceMethod yC, .selects R_C yC yC, .initialized R_C, Cond.code yC bC lC (some .int)] : List Cond), w ∈ Ts) (wM : ∀ w ∈ ([.methodLink "DegreeCoresLaw" iM yM, .instanceMethod yM, .selects R_M yM yM, .initialized R_M, Cond.code yM bM lM (some .int)] : List Cond), w ∈ Ts)
    (cC : yC.cls = R_C ∧ yC.cls ≠ "java/lang/invoke/MethodHandle" ∧ yC.cls ≠ "java/lang/invoke/VarHandle" ∧ (parseMethodDescriptor yC.desc).map (fun d => d.parameters.length) = some na) (cM : yM.cls = R_M ∧ yM.cls ≠ "java/lang/invoke/MethodHandle" ∧ yM.cls ≠ "java/lang/invoke/VarHandle" ∧ (parseMethodDescriptor yM.desc).map (fun d => d.parameters.length) = some na)
    (mC : lC ≤ 13) (mM : lM ≤ 13) (gC : dC ≤ 7) (gM : dM ≤ 7) (ks : List Nat) (hks : ∀ k ∈ ks, k ≤ 3) (hna : ks.length = na) (hsim : ∀ i, sim TC TM (ks.map (fun k => (Sum.inl (xs (i + k)) : mV)))) {pc p1 p2 p4 p5 : Nat} (e1 : pc + 1 + 5 * ks.length = p1) (e2 : p1 + 3 = p2) (e3 : p2 + 1 + 5 * ks.length = p4) (e5 : p4 + 3 = p5) {off : Int}
    (d0 : decode code pc = .ok (.aload_n 1, 1)) (u1 : pshOK (pc + 1) ks) (d1 : decode code p1 = .ok (.invokevirtual iC, 3)) (d2 : decode code p2 = .ok (.aload_n 2, 1)) (u2 : pshOK (p2 + 1) ks) (d4 : decode code p4 = .ok (.invokevirtual iM, 3)) (d5 : decode code p5 = .ok (.if_icmp .eq off, 3)) (hoff : (p5 : Int) + off = ((769 : Nat) : Int))
    (hc0 : lwC p s m meth c b L xs Ts D cA) {H : Heap} {locs : List Loc} {i : Nat} (hi : i + 4 ≤ L) {ls : Array Slot} {hc hm : mH} {adC adM : Nat → Nat} (hl : lv_has ls 4 [(0, .ref b), (1, .ref (adC 0)), (2, .ref (adM 0)), (3, .int (nI i))]) (hLs : Lsm hc hm)
    (hP : va_P D cls (m_w 0 cA adC hc ++ m_w 1 cA adM hm) H) (hD : va_D (fun q => s.heap.size ≤ q) (m_w 0 cA adC hc ++ m_w 1 cA adM hm)) (hS : va_S (fun q => s.heap.size ≤ q) s.heap H locs)
    (kk : ∀ (hc' hm' : mH) (H1 : Heap) (locs1 : List Loc), Lsm hc' hm' → va_P D cls (m_w 0 cA adC hc' ++ m_w 1 cA adM hm') H1 → va_D (fun q => s.heap.size ≤ q) (m_w 0 cA adC hc' ++ m_w 1 cA adM hm') → va_S (fun q => s.heap.size ≤ q) s.heap H1 locs1 → W p l e room_1 s m #[Value.ref b] below meth c H1 locs1 13 4236 Q (F0 m 769 ls [])) :
    W p l e room_1 s m #[Value.ref b] below meth c H locs 13 4236 Q (F0 m pc ls []) := by
  obtain ⟨hx, hb, hr, hml, hown, hts, hX, hbl, hlk, hK, hL⟩ := id hc0
  have f0 : ∃ fs, m_at hc 0 = some (.inl fs) := by
    obtain ⟨n, f, q, g, j, r, t, d, w, jm, c, bb, gm, l, x0, x1, x2, kp, md, mg, rfl, rfl, -⟩ := hLs
    exact ⟨_, rfl⟩
  have f1 : ∃ fs, m_at hm 0 = some (.inl fs) := by
    obtain ⟨n, f, q, g, j, r, t, d, w, jm, c, bb, gm, l, x0, x1, x2, kp, md, mg, rfl, rfl, -⟩ := hLs
    exact ⟨_, rfl⟩
  obtain ⟨fs0, hf0⟩ := f0
  obtain ⟨fs1, hf1⟩ := f1
  refine lv_aload_n hx hb d0 rfl (lv_at hl 1 rfl) ?_
  refine lw_push hc0 hS hi hl ks hks (pc + 1) _ u1 ?_
  rw [e1]
  have hT := hsim i hc hm hLs
  have call1 := lw_call (l := l) (e := e) (below := below) (Q := Q) (pre := []) (post := m_w 1 cA adM hm) (rest := []) (ad := adC) (locs := locs) (hcl := (rfl : cls[0]? = some (R_C, T_C, 7))) hC hgood wC cC mC gC hc0 hT (by rw [List.length_map]; exact hna) hf0 d1 hl.1 (Nat.zero_le _) hP hD hS (fun r hc' H1 locs1 hT1 hP1 hD1 hS1 => ?_)
  · rw [m_map_int] at call1
    exact call1
  rw [e2]
  refine lv_aload_n hx hb d2 rfl (lv_at hl 2 rfl) ?_
  refine lw_push hc0 hS1 hi hl ks hks (p2 + 1) _ u2 ?_
  rw [e3]
  have hP1' : va_P D cls (m_w 0 cA adC hc' ++ (m_w 1 cA adM hm ++ [])) H1 := by rw [List.append_nil]; exact hP1
  have hD1' : va_D (fun q => s.heap.size ≤ q) (m_w 0 cA adC hc' ++ (m_w 1 cA adM hm ++ [])) := by rw [List.append_nil]; exact hD1
  have call2 := lw_call (l := l) (e := e) (below := below) (Q := Q) (pre := m_w 0 cA adC hc') (post := []) (rest := [.int r]) (ad := adM) (locs := locs1) (hcl := (rfl : cls[1]? = some (R_M, T_M, 13))) hM hgood wM cM mM gM hc0 hT1 (by rw [List.length_map]; exact hna) hf1 d4 hl.1 (Nat.le_of_ble_eq_true rfl) hP1' hD1' hS1 (fun r' hm' H2 locs2 hT2 hP2 hD2 hS2 => ?_)
  · rw [m_map_int] at call2
    exact call2
  rw [e5]
  rw [List.append_nil] at hP2 hD2
  obtain ⟨hrr, hLs2⟩ := hT2
  have hrr : r' = r := Option.some.inj hrr
  refine lv_icmp_eq (tgt := 769) hx hb d5 hoff (fun _ => kk hc' hm' H2 locs2 hLs2 hP2 hD2 hS2) (fun z => absurd hrr.symm z)
end LC
