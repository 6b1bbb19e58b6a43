/-! a method's contract out of the small machine, and a call out of a contract -/
def m_rm (d : Nat) : Room := { frames := d, cells := 0, slots := 0, locals := 32 * d }
def m_B (D : va_G) (cl : List vw_C) (cA : ClassId) (ci : Nat) (ad : Nat → Nat) (A : Nat → Prop) (u : mH) (t : State) : Prop := va_P D cl (m_w ci cA ad u) t.heap ∧ va_K D cl [(cA, .int)] t ∧ va_D A (m_w ci cA ad u)
def m_Q (D : va_G) (cl : List vw_C) (cA : ClassId) (ci : Nat) (ad : Nat → Nat) (rb : Nat) (k : Option Int32 → mH → Prop) (A : Nat → Prop) : Array Value → State → Outcome → State → Prop := match rb with
  | 2 => va_Qv (fun u : mH => k none u) (m_B D cl cA ci ad A) A
  | _ => va_Qi (fun (r : Int32) (u : mH) => k (some r) u) (m_B D cl cA ci ad A) A
def m_Pc (D : va_G) (cl : List vw_C) (cA : ClassId) (ci : Nat) (ad : Nat → Nat) (sz : Nat) (as : List mV) (h : mH) : Array Value → State → Prop :=
  va_Pc (as.map (m_v ad)) (fun U => U.heap.size = sz ∧ va_P D cl (m_w ci cA ad h) U.heap ∧ va_K D cl [(cA, .int)] U ∧ va_D (fun _ => True) (m_w ci cA ad h))
def m_Con (cl : List vw_C) (ci : Nat) (Ts : List Cond) (y : MethodName) (bytes : ByteArray) (maxL : Nat) (ret : Option FieldType) (rb d : Nat) (T : mT) : Prop :=
  ∀ (l : Launch) (D : va_G) (cA : ClassId) (ad : Nat → Nat) (sz : Nat) (as : List mV) (h : mH) (k : Option Int32 → mH → Prop), T as h k → Met l y (Cond.code y bytes maxL ret :: Ts) (m_rm d) (m_Pc D cl cA ci ad sz as h) (m_Q D cl cA ci ad rb k (va_A (m_w ci cA ad h) sz)) 0 0 (va_A (m_w ci cA ad h) sz)
def m_en : Nat → List mV → mL
  | 0, _ => []
  | n + 1, [] => none :: m_en n []
  | n + 1, v :: t => some v :: m_en n t
theorem m_en_len (n : Nat) (as : List mV) : (m_en n as).length = n := by
  induction n generalizing as with
  | zero => rfl
  | succ n ih => cases as with
    | nil => simp [m_en, ih]
    | cons v t => simp [m_en, ih]
theorem m_en_nil (ad : Nat → Nat) (n : Nat) : ∀ i, m_lv ad i (m_en n []) = [] := by
  induction n with
  | zero => intro i; rfl
  | succ n ih => intro i; simp [m_en, m_lv, ih]
theorem m_en_sub (ad : Nat → Nat) (n : Nat) (as : List mV) : ∀ i, ∀ q ∈ m_lv ad i (m_en n as), q ∈ lv_args i (as.map (m_v ad)) := by
  induction n generalizing as with
  | zero => intro i q hq; cases hq
  | succ n ih => cases as with
    | nil => intro i q hq; rw [m_en_nil] at hq; cases hq
    | cons v t =>
      intro i q hq
      simp only [m_en, m_lv, List.mem_cons] at hq
      simp only [List.map_cons, lv_args, m_cat, List.mem_cons]
      rcases hq with rfl | hq
      · exact Or.inl rfl
      · exact Or.inr (ih t (i + 1) q hq)
theorem m_sl_len (ad : Nat → Nat) (as : List mV) : (lg_sl (as.map (m_v ad))).length = as.length := by
  induction as with
  | nil => rfl
  | cons v t ih =>
    have e : lg_sl ((v :: t).map (m_v ad)) = Slot.val (m_v ad v) :: lg_sl (t.map (m_v ad)) := by
      simp [lg_sl, m_cat]
    rw [e, List.length_cons, List.length_cons, ih]
theorem m_blind (D : va_G) (cl : List vw_C) (cA : ClassId) (ci : Nat) (ad : Nat → Nat) (sz : Nat) (as : List mV) (h : mH) : FrameBlind (m_Pc D cl cA ci ad sz as h) := by
  intro a U g mk q
  obtain ⟨q0, q1, qP, qK, qD⟩ := q
  exact ⟨q0, q1, qP, va_K.moved (u := U) (U := U.calling g mk a) (Vm.Alike.refl U.vm) qK, qD⟩
set_option maxHeartbeats 4000000 in
theorem m_con {cl : List vw_C} {ci : Nat} {Ts : List Cond} {y : MethodName} {bytes : ByteArray} {maxL : Nat} {ret : Option FieldType} {rb d : Nat} {Tm : mT} {code : List (Nat × mE)} {fld : List (Nat × Nat)} {fpt : List (Nat × Nat × Bool)} {kon : List (Nat × Int32)} {call : List (Nat × Bool × Nat × mT)} {C : String} {T : u_T} {N : Nat}
    (hpl : plainName y.cls = true) (hret : (rb = 0 ∧ ret = some .int) ∨ (rb = 1 ∧ ret = some .boolean) ∨ (rb = 2 ∧ ret = none)) (hcode : code.all (m_ok bytes maxL) = true)
    (hTb : ∀ (s : State) (args : Array Value), (∀ w ∈ Ts, w.before args s = true) → m_Tb s args cl ci Ts y.cls C T N fld fpt kon)
    (hcall : ∀ (l : Launch) (D : va_G) (cA : ClassId) (ad : Nat → Nat) (x : Nat) (st : Bool) (na : Nat) (T : mT), m_lk call x = some (st, na, T) → m_OK D cl cA ci ad Ts l y.cls (m_rm d) x st na T)
    (hlen : ∀ as h k, Tm as h k → as.length ≤ maxL)
    (body : ∀ as h k, Tm as h k → ∀ V, m_cl code fld fpt kon call rb k V → V (0, m_en maxL as, [], h)) : m_Con cl ci Ts y bytes maxL ret rb d Tm := by
  intro l D cA ad sz as h k hT
  refine Met.ofW (cc := bytes) (maxL := maxL) (ret := ret) hpl rfl ?_
  intro p e s m args below meth c s₁ B hml hv
  obtain ⟨rfl, hsz, hP, hK, hD0⟩ := hv
  have hx := B.exec
  have hb := B.bytes
  have hr := B.returns
  have hts0 := atoms_spec (ws := Cond.code y bytes maxL ret :: Ts) B.pre
  have hts : ∀ w ∈ Ts, w.before (as.map (m_v ad)).toArray s = true := fun w hw => hts0 w (List.mem_cons_of_mem _ hw)
  have hown : s.vm.findClass y.cls = some m.cls := findClass_of_methodNamed B.named
  have hlocks := B.notSynchronized
  subst hsz
  have hD := hD0.self (sz := s.heap.size)
  generalize hAe : va_A (m_w ci cA ad h) s.heap.size = A at hD ⊢
  have hA : ∀ q : Nat, s.heap.size ≤ q → A q := fun q h => by rw [← hAe]; exact Or.inr h
  have hS : va_S A s.heap s.heap [] := va_S.rf
  have hl := lv_entry (as.map (m_v ad)) (n := maxL) (by rw [m_sl_len]; exact hlen as h k hT)
  rw [lg_entry_eq]
  generalize (lg_sl (as.map (m_v ad)) ++ List.replicate (maxL - (lg_sl (as.map (m_v ad))).length) Slot.unset).toArray = ls at hl ⊢
  have hl2 : lv_has ls maxL (m_lv ad 0 (m_en maxL as)) := m_lvsub hl (m_en_sub ad maxL as 0)
  refine body as h k hT _ (m_walk (A := A) (H0 := s.heap) ⟨hx, hb, hml, hown, hts⟩ hK hA (hTb s _ hts) (hcall l D cA ad) ?_ hcode) (m_en_len maxL as) s.heap [] ls hP hD hS hl2
  intro r h' pc ls H locs hk h1 h2 hP1 hD1 hS1
  cases r with
  | some v =>
    obtain ⟨hz, hdg⟩ := h1 v rfl
    rcases hret with ⟨e1, e2⟩ | ⟨e1, e2⟩ | ⟨e1, e2⟩
    · subst e1; subst e2
      exact W.zret hx hb hr (vp_nar_int v) (fun t ht hW => ⟨⟨v, h', rfl, hk, by rw [ht]; exact hP1, va_K.moved hW.alike hK, hD1⟩, hS1.F ht⟩) hS1.2.2 hdg
    · subst e1; subst e2
      have hv : v = 0 ∨ v = 1 := by
        rcases hz with hz | hz
        · cases hz
        · exact hz.2
      exact W.zret hx hb hr (m_fit1 hv).1 (fun t ht hW => ⟨⟨v, h', rfl, hk, by rw [ht]; exact hP1, va_K.moved hW.alike hK, hD1⟩, hS1.F ht⟩) hS1.2.2 hdg
    · subst e1
      rcases hz with hz | hz
      · cases hz
      · cases hz.1
  | none =>
    obtain ⟨e0, hdg⟩ := h2 rfl
    rcases hret with ⟨e1, e2⟩ | ⟨e1, e2⟩ | ⟨e1, e2⟩
    · subst e1; cases e0
    · subst e1; cases e0
    · subst e1; subst e2
      exact W.vret hx hb hr (fun t ht hW => ⟨⟨h', rfl, hk, by rw [ht]; exact hP1, va_K.moved hW.alike hK, hD1⟩, hS1.F ht⟩) hS1.2.2 hdg
section MO
variable {cl : List vw_C} {ci : Nat} {Ts : List Cond} {y : MethodName} {bytes : ByteArray} {maxL : Nat} {ret : Option FieldType} {rb d : Nat} {T : mT} {D : va_G} {cA : ClassId} {ad : Nat → Nat} {l : Launch} {own : String} {R : Room} {idx na : Nat}
/-- behind a call, either way -/
theorem m_back {p : Program} {e : Env} {s : State} {m : MethodId} {args : Array Value} {below : List Frame} {meth : Method} {c : Code} {Q : State → Prop} {A : Nat → Prop} {H0 H : Heap} {locs : List Loc} {pc : Nat} {ls : Array Slot} {rest : List mV} {h : mH} {k : Option Int32 → mH → Prop} {st0 : List Value} {a : Array Value} (hrb : rb = 0 ∨ rb = 1 ∨ rb = 2)
    (hr : va_Run p l e R s m args below meth c H locs 0 0 0 0 (F0 m pc ls st0) (rest.map (m_v ad)) (m_Q D cl cA ci ad rb k (va_A (m_w ci cA ad h) H.size) a) (va_A (m_w ci cA ad h) H.size)) (hA : ∀ q, H0.size ≤ q → A q) (hD : va_D A (m_w ci cA ad h)) (hS : va_S A H0 H locs)
    (kk : ∀ (r : Option Int32) (h' : mH) (H1 : Heap) (locs1 : List Loc), k r h' → va_P D cl (m_w ci cA ad h') H1 → va_D A (m_w ci cA ad h') → va_S A H0 H1 locs1 → W p l e R s m args below meth c H1 locs1 0 0 Q (F0 m (pc + 3) ls ((m_ps r rest).map (m_v ad)))) :
    W p l e R s m args below meth c H locs 0 0 Q (F0 m pc ls st0) := by
  have hF : ∀ q, va_A (m_w ci cA ad h) H.size q → A q := by
    rintro q (⟨k2, e2, h2⟩ | h2)
    · exact hD.2 k2 (q, e2) h2
    · exact hA q (Nat.le_trans hS.1 h2)
  rcases hrb with rfl | rfl | rfl
  · exact va_calli (a := a) (A1 := va_A (m_w ci cA ad h) H.size) (post := fun (r : Int32) (u : mH) => k (some r) u) (B := m_B D cl cA ci ad (va_A (m_w ci cA ad h) H.size)) hr hS (fun q _ h => hF q h) hF (fun r u t H1 locs1 ht hvm hpost hB hsz hk hS1 => kk (some r) u H1 locs1 hpost (by rw [← ht]; exact hB.1) (hB.2.2.weaken (fun _ q _ hq => hF q.1 hq)) hS1)
  · exact va_calli (a := a) (A1 := va_A (m_w ci cA ad h) H.size) (post := fun (r : Int32) (u : mH) => k (some r) u) (B := m_B D cl cA ci ad (va_A (m_w ci cA ad h) H.size)) hr hS (fun q _ h => hF q h) hF (fun r u t H1 locs1 ht hvm hpost hB hsz hk hS1 => kk (some r) u H1 locs1 hpost (by rw [← ht]; exact hB.1) (hB.2.2.weaken (fun _ q _ hq => hF q.1 hq)) hS1)
  · exact va_callv (a := a) (A1 := va_A (m_w ci cA ad h) H.size) (post := fun (u : mH) => k none u) (B := m_B D cl cA ci ad (va_A (m_w ci cA ad h) H.size)) hr hS (fun q _ h => hF q h) hF (fun u t H1 locs1 ht hvm hpost hB hsz hk hS1 => kk none u H1 locs1 hpost (by rw [← ht]; exact hB.1) (hB.2.2.weaken (fun _ q _ hq => hF q.1 hq)) hS1)
theorem m_okV {C : String} {Tu : u_T} {N : Nat} (hcl : cl[ci]? = some (C, Tu, N)) (hC : m_Con cl ci Ts y bytes maxL ret rb d T) (hrb : rb = 0 ∨ rb = 1 ∨ rb = 2) (hgood : ∀ w ∈ Ts, ((w.onTables && w.keeps) = true ∨ ∃ ty, w = .arrayClass ty))
    (hws : ∀ w ∈ ([.methodLink own idx y, .instanceMethod y, .selects C y y, .initialized C, Cond.code y bytes maxL ret] : List Cond), w ∈ Ts) (hyc : y.cls = C ∧ y.cls ≠ "java/lang/invoke/MethodHandle" ∧ y.cls ≠ "java/lang/invoke/VarHandle" ∧ (parseMethodDescriptor y.desc).map (fun d => d.parameters.length) = some na) (hmx : maxL ≤ 13)
    (hR : d + 1 ≤ R.frames ∧ 32 * (d + 1) ≤ R.locals) (hrecv : ∀ as h k, T as h k → ∃ j as' fs, as = .inr j :: as' ∧ m_at h j = some (.inl fs)) : m_OK D cl cA ci ad Ts l own R idx false (na + 1) T := by
  intro p e s m args below meth c cc nL Q A H0 S0 hK hA pc ls rest as h k H locs hT has hdg hsz hrest hP hD hS kk
  obtain ⟨j, as', fs, rfl, hj⟩ := hrecv _ _ _ hT
  obtain ⟨hx, hb, hml, hown, hts⟩ := id S0
  have hG : GoodIn Ts (wsV own idx C y (Cond.code y bytes maxL ret :: Ts)) := by
    intro w hw
    have hin : w ∈ Ts := by
      unfold wsV at hw
      rcases List.mem_append.mp hw with h1 | h1
      · exact hws w (by simp only [List.mem_cons, List.not_mem_nil, or_false] at h1 ⊢; rcases h1 with h1 | h1 | h1 | h1 <;> simp [h1])
      · rcases List.mem_cons.mp h1 with h1 | h1
        · exact hws w (by simp [h1])
        · exact h1
    exact ⟨hin, hgood w hin⟩
  have hr := va_runV (As := as'.map (m_v ad)) (rest := rest.map (m_v ad)) (b := ad j) (C := C) (R := R) (e := e) (below := below) (meth := meth) (H := H) (locs := locs) (cells := 0) (slots := 0) (g := F0 m pc ls (((Sum.inr j :: as').reverse ++ rest).map (m_v ad))) S0 (hC l D cA ad H.size _ h k hT) (cwV na hts hG rfl rfl rfl hyc ⟨hR.1, by show 8 + (maxL + 11) + 32 * d ≤ R.locals; omega⟩)
    ⟨m_blind D cl cA ci ad H.size _ h, va_recv hK hP hcl (m_w_get hj), fun U hU hW => ⟨rfl, by rw [hU], by rw [hU]; exact hP, va_K.moved hW.alike hK, hD.weaken (fun _ _ _ _ => trivial)⟩⟩ rfl (by rw [List.length_map]; simpa using has) hsz (by simp [m_v]) (lv_room (by rw [m_sum]; exact hrest)) hdg ⟨Nat.zero_le _, Nat.zero_le _⟩
  exact m_back hrb hr hA hD hS kk
theorem m_okS (hC : m_Con cl ci Ts y bytes maxL ret rb d T) (hrb : rb = 0 ∨ rb = 1 ∨ rb = 2) (hgood : ∀ w ∈ Ts, ((w.onTables && w.keeps) = true ∨ ∃ ty, w = .arrayClass ty))
    (hws : ∀ w ∈ ([.methodLink own idx y, .static y, .initialized y.cls, Cond.code y bytes maxL ret] : List Cond), w ∈ Ts) (hyc : y.cls ≠ "java/lang/invoke/MethodHandle" ∧ y.cls ≠ "java/lang/invoke/VarHandle" ∧ (parseMethodDescriptor y.desc).map (fun d => d.parameters.length) = some na) (hmx : maxL ≤ 13)
    (hR : d + 1 ≤ R.frames ∧ 32 * (d + 1) ≤ R.locals) : m_OK D cl cA ci ad Ts l own R idx true na T := by
  intro p e s m args below meth c cc nL Q A H0 S0 hK hA pc ls rest as h k H locs hT has hdg hsz hrest hP hD hS kk
  obtain ⟨hx, hb, hml, hown, hts⟩ := id S0
  have hG : GoodIn Ts (va_wsS own idx y (Cond.code y bytes maxL ret :: Ts)) := by
    intro w hw
    have hin : w ∈ Ts := by
      unfold va_wsS at hw
      rcases List.mem_append.mp hw with h1 | h1
      · exact hws w (by simp only [List.mem_cons, List.not_mem_nil, or_false] at h1 ⊢; rcases h1 with h1 | h1 | h1 <;> simp [h1])
      · rcases List.mem_cons.mp h1 with h1 | h1
        · exact hws w (by simp [h1])
        · exact h1
    exact ⟨hin, hgood w hin⟩
  have hr := va_runS (As := as.map (m_v ad)) (rest := rest.map (m_v ad)) (R := R) (e := e) (below := below) (meth := meth) (H := H) (locs := locs) (cells := 0) (slots := 0) (g := F0 m pc ls ((as.reverse ++ rest).map (m_v ad))) S0 (hC l D cA ad H.size _ h k hT) (va_cwS na hts hG rfl rfl rfl hyc ⟨hR.1, by show 8 + (maxL + 11) + 32 * d ≤ R.locals; omega⟩)
    ⟨m_blind D cl cA ci ad H.size _ h, fun U hU hW => ⟨rfl, by rw [hU], by rw [hU]; exact hP, va_K.moved hW.alike hK, hD.weaken (fun _ _ _ _ => trivial)⟩⟩ rfl (by rw [List.length_map]; exact has) hsz (by simp) (lv_room (by rw [m_sum]; exact hrest)) hdg ⟨Nat.zero_le _, Nat.zero_le _⟩
  exact m_back hrb hr hA hD hS kk
end MO
