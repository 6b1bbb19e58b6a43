/-! the two constructors (by wip/whole/gen_ctor.py) -/
def y_C_init : MethodName := ⟨"DegreeCores", "<init>", "()V"⟩
abbrev b_C_init : ByteArray := prog_1_method_1_code
def freshC : mH := mkC (fun _ => 0) 0 (fun _ => 0) 0 (fun _ => 0) (fun _ => 0) (fun _ => 0)
abbrev fs_C : List Value := [.null, .int 0, .null, .int 0, .null, .null, .null]
set_option maxHeartbeats 1000000 in
set_option maxRecDepth 100000 in
theorem c_C_init {Ts : List Cond} (hn0 : Cond.methodLink R_C 1 objectInit ∈ Ts) (hn1 : Cond.instanceMethod objectInit ∈ Ts) (hn2 : Cond.code objectInit ⟨#[0xb1]⟩ 1 none ∈ Ts) (hn3 : Cond.arrayClass .int ∈ Ts) (hin0 : ∀ w ∈ u_ws R_C T_C 7, w ∈ Ts) (hfl : ∀ q ∈ f_C, q.2 < 7 ∧ Cond.fieldLink R_C q.1 (T_C q.2).1 (T_C q.2).2.1 (T_C q.2).2.2.1 ∈ Ts) (l : Launch) (D : va_G) (cA : ClassId) (h0 sz : Nat) : Met l y_C_init (Cond.code y_C_init b_C_init 1 none :: Ts) ({ frames := 1, cells := 5, slots := 60, locals := 12 }) (va_Pc [.ref h0] (fun U => U.heap.size = sz ∧ va_P D cls [(h0, .inr (0, fs_C))] U.heap ∧ va_K D cls [(cA, .int)] U ∧ va_D (fun _ => True) [(h0, .inr (0, fs_C))])) (va_Qv (fun ad : Nat → Nat => ad 0 = h0) (fun ad t => va_P D cls (m_w 0 cA ad freshC) t.heap ∧ va_K D cls [(cA, .int)] t ∧ va_D (va_A [(h0, .inr (0, fs_C))] sz) (m_w 0 cA ad freshC)) (va_A [(h0, .inr (0, fs_C))] sz)) 5 60 (va_A [(h0, .inr (0, fs_C))] sz) := by
  refine Met.ofW (cc := b_C_init) (maxL := 1) (ret := none) (by decide) rfl ?_
  intro p e s m args below meth c s₁ B hml hv
  obtain ⟨rfl, hsz, hP, hK, hD0⟩ := hv
  have hx := B.exec
  have hb := B.bytes
  have hr := B.returns
  have hts0 := atoms_spec (ws := Cond.code y_C_init b_C_init 1 none :: Ts) B.pre
  have hts : ∀ w ∈ Ts, w.before [Value.ref h0].toArray s = true := fun w hw => hts0 w (List.mem_cons_of_mem _ hw)
  have hown : s.vm.findClass R_C = some m.cls := findClass_of_methodNamed B.named
  have hlocks := B.notSynchronized
  have hin : meth.name = "<init>" := (name_of_methodNamed B.named B.method).1
  subst hsz
  have hD := hD0.self (sz := s.heap.size)
  generalize hAe : va_A [(h0, .inr (0, fs_C))] s.heap.size = A at hD ⊢
  have hA : ∀ q : Nat, s.heap.size ≤ q → A q := fun q h => by rw [← hAe]; exact Or.inr h
  have hS : va_S A s.heap s.heap [] := va_S.rf
  have hl := lv_entry ([.ref h0]) (n := 1) (Nat.le_of_ble_eq_true rfl)
  rw [lg_entry_eq]
  generalize (lg_sl ([.ref h0]) ++ List.replicate (1 - (lg_sl ([.ref h0])).length) Slot.unset).toArray = ls at hl ⊢
  have hl : lv_has ls 1 [(0, .ref h0)] := hl
  refine lv_aload_n hx hb (show decode b_C_init 0 = .ok (.aload_n 0, 1) by decide +kernel) rfl (lv_at hl 0 rfl) ?_
  refine W.objInit hx hb hown (hts _ hn0) (hts _ hn1) (hts _ hn2) rfl (by rw [hml]; exact hl.1) rfl (show decode b_C_init 1 = .ok (.invokespecial 1, 3) by decide +kernel) (Nat.le_of_ble_eq_true rfl) (Nat.le_of_ble_eq_true rfl) ?_
  refine W.eq (g2 := F0 m 4 ls []) rfl ?_
  refine lv_aload_n hx hb (show decode b_C_init 4 = .ok (.aload_n 0, 1) by decide +kernel) rfl (lv_at hl 0 rfl) ?_
  refine lv_bipush (v := 12) hx hb (show decode b_C_init 5 = .ok (.bipush 12, 2) by decide +kernel) (by decide) ?_
  refine va_newa (atype := .int) (ty := .int) (N' := 12) (a0 := (12, .inl (fun _ => 0))) hx hb (hts _ hn3) rfl hK hP hD hS hA (fun _ => rfl) (by decide) (by decide) (by decide) (Nat.le_of_ble_eq_true rfl) (Nat.le_of_ble_eq_true rfl) (show decode b_C_init 7 = .ok (.newarray .int, 2) by decide +kernel) (fun q1 cB H hKB hP hD hS => ?_)
  have eB : cB = cA := Option.some.inj ((hKB.2 1 _ rfl).2.symm.trans (hKB.2 0 _ rfl).2)
  subst cB
  have hP : va_P D cls [(h0, .inr (0, [.null, .int 0, .null, .int 0, .null, .null, .null])), (q1, .inl (cA, 12, .inl (fun _ => 0)))] H := hP
  have hD : va_D A [(h0, .inr (0, [.null, .int 0, .null, .int 0, .null, .null, .null])), (q1, .inl (cA, 12, .inl (fun _ => 0)))] := hD
  refine W.widen (k := 1) (n := 12) (Nat.le_of_ble_eq_true rfl) (Nat.le_of_ble_eq_true rfl) ?_
  refine va_putF (D := D) (ci := 0) (v := .ref q1) (ty := .array .int) (C := R_C) (T := T_C) (N := 7) hx hb hts hin0 ty_C ty_C_ok nm_C hown hK hP hD hS 0 rfl rfl 0 (by decide) (hts _ (hfl (9, 0) (by decide)).2) (fun _ h9 => h9) rfl hin rfl (by decide +kernel) rfl rfl (Nat.le_of_ble_eq_true rfl) (show decode b_C_init 9 = .ok (.putfield 9, 3) by decide +kernel) (fun H locs hP hD hS => ?_)
  have hP : va_P D cls [(h0, .inr (0, [.ref q1, .int 0, .null, .int 0, .null, .null, .null])), (q1, .inl (cA, 12, .inl (fun _ => 0)))] H := hP
  have hD : va_D A [(h0, .inr (0, [.ref q1, .int 0, .null, .int 0, .null, .null, .null])), (q1, .inl (cA, 12, .inl (fun _ => 0)))] := hD
  refine lv_aload_n hx hb (show decode b_C_init 12 = .ok (.aload_n 0, 1) by decide +kernel) rfl (lv_at hl 0 rfl) ?_
  refine lv_bipush (v := 12) hx hb (show decode b_C_init 13 = .ok (.bipush 12, 2) by decide +kernel) (by decide) ?_
  refine va_newa (atype := .int) (ty := .int) (N' := 12) (a0 := (12, .inl (fun _ => 0))) hx hb (hts _ hn3) rfl hK hP hD hS hA (fun _ => rfl) (by decide) (by decide) (by decide) (Nat.le_of_ble_eq_true rfl) (Nat.le_of_ble_eq_true rfl) (show decode b_C_init 15 = .ok (.newarray .int, 2) by decide +kernel) (fun q2 cB H hKB hP hD hS => ?_)
  have eB : cB = cA := Option.some.inj ((hKB.2 1 _ rfl).2.symm.trans (hKB.2 0 _ rfl).2)
  subst cB
  have hP : va_P D cls [(h0, .inr (0, [.ref q1, .int 0, .null, .int 0, .null, .null, .null])), (q1, .inl (cA, 12, .inl (fun _ => 0))), (q2, .inl (cA, 12, .inl (fun _ => 0)))] H := hP
  have hD : va_D A [(h0, .inr (0, [.ref q1, .int 0, .null, .int 0, .null, .null, .null])), (q1, .inl (cA, 12, .inl (fun _ => 0))), (q2, .inl (cA, 12, .inl (fun _ => 0)))] := hD
  refine W.widen (k := 2) (n := 24) (Nat.le_of_ble_eq_true rfl) (Nat.le_of_ble_eq_true rfl) ?_
  refine va_putF (D := D) (ci := 0) (v := .ref q2) (ty := .array .int) (C := R_C) (T := T_C) (N := 7) hx hb hts hin0 ty_C ty_C_ok nm_C hown hK hP hD hS 0 rfl rfl 4 (by decide) (hts _ (hfl (13, 4) (by decide)).2) (fun _ h9 => h9) rfl hin rfl (by decide +kernel) rfl rfl (Nat.le_of_ble_eq_true rfl) (show decode b_C_init 17 = .ok (.putfield 13, 3) by decide +kernel) (fun H locs hP hD hS => ?_)
  have hP : va_P D cls [(h0, .inr (0, [.ref q1, .int 0, .null, .int 0, .ref q2, .null, .null])), (q1, .inl (cA, 12, .inl (fun _ => 0))), (q2, .inl (cA, 12, .inl (fun _ => 0)))] H := hP
  have hD : va_D A [(h0, .inr (0, [.ref q1, .int 0, .null, .int 0, .ref q2, .null, .null])), (q1, .inl (cA, 12, .inl (fun _ => 0))), (q2, .inl (cA, 12, .inl (fun _ => 0)))] := hD
  refine lv_aload_n hx hb (show decode b_C_init 20 = .ok (.aload_n 0, 1) by decide +kernel) rfl (lv_at hl 0 rfl) ?_
  refine lv_bipush (v := 12) hx hb (show decode b_C_init 21 = .ok (.bipush 12, 2) by decide +kernel) (by decide) ?_
  refine va_newa (atype := .int) (ty := .int) (N' := 12) (a0 := (12, .inl (fun _ => 0))) hx hb (hts _ hn3) rfl hK hP hD hS hA (fun _ => rfl) (by decide) (by decide) (by decide) (Nat.le_of_ble_eq_true rfl) (Nat.le_of_ble_eq_true rfl) (show decode b_C_init 23 = .ok (.newarray .int, 2) by decide +kernel) (fun q3 cB H hKB hP hD hS => ?_)
  have eB : cB = cA := Option.some.inj ((hKB.2 1 _ rfl).2.symm.trans (hKB.2 0 _ rfl).2)
  subst cB
  have hP : va_P D cls [(h0, .inr (0, [.ref q1, .int 0, .null, .int 0, .ref q2, .null, .null])), (q1, .inl (cA, 12, .inl (fun _ => 0))), (q2, .inl (cA, 12, .inl (fun _ => 0))), (q3, .inl (cA, 12, .inl (fun _ => 0)))] H := hP
  have hD : va_D A [(h0, .inr (0, [.ref q1, .int 0, .null, .int 0, .ref q2, .null, .null])), (q1, .inl (cA, 12, .inl (fun _ => 0))), (q2, .inl (cA, 12, .inl (fun _ => 0))), (q3, .inl (cA, 12, .inl (fun _ => 0)))] := hD
  refine W.widen (k := 3) (n := 36) (Nat.le_of_ble_eq_true rfl) (Nat.le_of_ble_eq_true rfl) ?_
  refine va_putF (D := D) (ci := 0) (v := .ref q3) (ty := .array .int) (C := R_C) (T := T_C) (N := 7) hx hb hts hin0 ty_C ty_C_ok nm_C hown hK hP hD hS 0 rfl rfl 5 (by decide) (hts _ (hfl (16, 5) (by decide)).2) (fun _ h9 => h9) rfl hin rfl (by decide +kernel) rfl rfl (Nat.le_of_ble_eq_true rfl) (show decode b_C_init 25 = .ok (.putfield 16, 3) by decide +kernel) (fun H locs hP hD hS => ?_)
  have hP : va_P D cls [(h0, .inr (0, [.ref q1, .int 0, .null, .int 0, .ref q2, .ref q3, .null])), (q1, .inl (cA, 12, .inl (fun _ => 0))), (q2, .inl (cA, 12, .inl (fun _ => 0))), (q3, .inl (cA, 12, .inl (fun _ => 0)))] H := hP
  have hD : va_D A [(h0, .inr (0, [.ref q1, .int 0, .null, .int 0, .ref q2, .ref q3, .null])), (q1, .inl (cA, 12, .inl (fun _ => 0))), (q2, .inl (cA, 12, .inl (fun _ => 0))), (q3, .inl (cA, 12, .inl (fun _ => 0)))] := hD
  refine lv_aload_n hx hb (show decode b_C_init 28 = .ok (.aload_n 0, 1) by decide +kernel) rfl (lv_at hl 0 rfl) ?_
  refine lv_bipush (v := 12) hx hb (show decode b_C_init 29 = .ok (.bipush 12, 2) by decide +kernel) (by decide) ?_
  refine va_newa (atype := .int) (ty := .int) (N' := 12) (a0 := (12, .inl (fun _ => 0))) hx hb (hts _ hn3) rfl hK hP hD hS hA (fun _ => rfl) (by decide) (by decide) (by decide) (Nat.le_of_ble_eq_true rfl) (Nat.le_of_ble_eq_true rfl) (show decode b_C_init 31 = .ok (.newarray .int, 2) by decide +kernel) (fun q4 cB H hKB hP hD hS => ?_)
  have eB : cB = cA := Option.some.inj ((hKB.2 1 _ rfl).2.symm.trans (hKB.2 0 _ rfl).2)
  subst cB
  have hP : va_P D cls [(h0, .inr (0, [.ref q1, .int 0, .null, .int 0, .ref q2, .ref q3, .null])), (q1, .inl (cA, 12, .inl (fun _ => 0))), (q2, .inl (cA, 12, .inl (fun _ => 0))), (q3, .inl (cA, 12, .inl (fun _ => 0))), (q4, .inl (cA, 12, .inl (fun _ => 0)))] H := hP
  have hD : va_D A [(h0, .inr (0, [.ref q1, .int 0, .null, .int 0, .ref q2, .ref q3, .null])), (q1, .inl (cA, 12, .inl (fun _ => 0))), (q2, .inl (cA, 12, .inl (fun _ => 0))), (q3, .inl (cA, 12, .inl (fun _ => 0))), (q4, .inl (cA, 12, .inl (fun _ => 0)))] := hD
  refine W.widen (k := 4) (n := 48) (Nat.le_of_ble_eq_true rfl) (Nat.le_of_ble_eq_true rfl) ?_
  refine va_putF (D := D) (ci := 0) (v := .ref q4) (ty := .array .int) (C := R_C) (T := T_C) (N := 7) hx hb hts hin0 ty_C ty_C_ok nm_C hown hK hP hD hS 0 rfl rfl 2 (by decide) (hts _ (hfl (19, 2) (by decide)).2) (fun _ h9 => h9) rfl hin rfl (by decide +kernel) rfl rfl (Nat.le_of_ble_eq_true rfl) (show decode b_C_init 33 = .ok (.putfield 19, 3) by decide +kernel) (fun H locs hP hD hS => ?_)
  have hP : va_P D cls [(h0, .inr (0, [.ref q1, .int 0, .ref q4, .int 0, .ref q2, .ref q3, .null])), (q1, .inl (cA, 12, .inl (fun _ => 0))), (q2, .inl (cA, 12, .inl (fun _ => 0))), (q3, .inl (cA, 12, .inl (fun _ => 0))), (q4, .inl (cA, 12, .inl (fun _ => 0)))] H := hP
  have hD : va_D A [(h0, .inr (0, [.ref q1, .int 0, .ref q4, .int 0, .ref q2, .ref q3, .null])), (q1, .inl (cA, 12, .inl (fun _ => 0))), (q2, .inl (cA, 12, .inl (fun _ => 0))), (q3, .inl (cA, 12, .inl (fun _ => 0))), (q4, .inl (cA, 12, .inl (fun _ => 0)))] := hD
  refine lv_aload_n hx hb (show decode b_C_init 36 = .ok (.aload_n 0, 1) by decide +kernel) rfl (lv_at hl 0 rfl) ?_
  refine lv_bipush (v := 12) hx hb (show decode b_C_init 37 = .ok (.bipush 12, 2) by decide +kernel) (by decide) ?_
  refine va_newa (atype := .int) (ty := .int) (N' := 12) (a0 := (12, .inl (fun _ => 0))) hx hb (hts _ hn3) rfl hK hP hD hS hA (fun _ => rfl) (by decide) (by decide) (by decide) (Nat.le_of_ble_eq_true rfl) (Nat.le_of_ble_eq_true rfl) (show decode b_C_init 39 = .ok (.newarray .int, 2) by decide +kernel) (fun q5 cB H hKB hP hD hS => ?_)
  have eB : cB = cA := Option.some.inj ((hKB.2 1 _ rfl).2.symm.trans (hKB.2 0 _ rfl).2)
  subst cB
  have hP : va_P D cls [(h0, .inr (0, [.ref q1, .int 0, .ref q4, .int 0, .ref q2, .ref q3, .null])), (q1, .inl (cA, 12, .inl (fun _ => 0))), (q2, .inl (cA, 12, .inl (fun _ => 0))), (q3, .inl (cA, 12, .inl (fun _ => 0))), (q4, .inl (cA, 12, .inl (fun _ => 0))), (q5, .inl (cA, 12, .inl (fun _ => 0)))] H := hP
  have hD : va_D A [(h0, .inr (0, [.ref q1, .int 0, .ref q4, .int 0, .ref q2, .ref q3, .null])), (q1, .inl (cA, 12, .inl (fun _ => 0))), (q2, .inl (cA, 12, .inl (fun _ => 0))), (q3, .inl (cA, 12, .inl (fun _ => 0))), (q4, .inl (cA, 12, .inl (fun _ => 0))), (q5, .inl (cA, 12, .inl (fun _ => 0)))] := hD
  refine W.widen (k := 5) (n := 60) (Nat.le_of_ble_eq_true rfl) (Nat.le_of_ble_eq_true rfl) ?_
  refine va_putF (D := D) (ci := 0) (v := .ref q5) (ty := .array .int) (C := R_C) (T := T_C) (N := 7) hx hb hts hin0 ty_C ty_C_ok nm_C hown hK hP hD hS 0 rfl rfl 6 (by decide) (hts _ (hfl (22, 6) (by decide)).2) (fun _ h9 => h9) rfl hin rfl (by decide +kernel) rfl rfl (Nat.le_of_ble_eq_true rfl) (show decode b_C_init 41 = .ok (.putfield 22, 3) by decide +kernel) (fun H locs hP hD hS => ?_)
  have hP : va_P D cls [(h0, .inr (0, [.ref q1, .int 0, .ref q4, .int 0, .ref q2, .ref q3, .ref q5])), (q1, .inl (cA, 12, .inl (fun _ => 0))), (q2, .inl (cA, 12, .inl (fun _ => 0))), (q3, .inl (cA, 12, .inl (fun _ => 0))), (q4, .inl (cA, 12, .inl (fun _ => 0))), (q5, .inl (cA, 12, .inl (fun _ => 0)))] H := hP
  have hD : va_D A [(h0, .inr (0, [.ref q1, .int 0, .ref q4, .int 0, .ref q2, .ref q3, .ref q5])), (q1, .inl (cA, 12, .inl (fun _ => 0))), (q2, .inl (cA, 12, .inl (fun _ => 0))), (q3, .inl (cA, 12, .inl (fun _ => 0))), (q4, .inl (cA, 12, .inl (fun _ => 0))), (q5, .inl (cA, 12, .inl (fun _ => 0)))] := hD
  refine lv_aload_n hx hb (show decode b_C_init 44 = .ok (.aload_n 0, 1) by decide +kernel) rfl (lv_at hl 0 rfl) ?_
  refine lv_iconst (v := 0) hx hb (show decode b_C_init 45 = .ok (.iconst 0, 1) by decide +kernel) (by decide) ?_
  refine va_put (D := D) (ci := 0) (v := .int 0) (ty := .int) (C := R_C) (T := T_C) (N := 7) hx hb hts hin0 ty_C ty_C_ok nm_C hown hK hP hD hS 0 rfl rfl 1 (by decide) (hts _ (hfl (25, 1) (by decide)).2) (fun _ h9 => h9) rfl (by decide +kernel) (by decide +kernel) (by decide +kernel) (Nat.le_of_ble_eq_true rfl) (show decode b_C_init 46 = .ok (.putfield 25, 3) by decide +kernel) (fun H locs hP hD hS => ?_)
  have hP : va_P D cls [(h0, .inr (0, [.ref q1, .int 0, .ref q4, .int 0, .ref q2, .ref q3, .ref q5])), (q1, .inl (cA, 12, .inl (fun _ => 0))), (q2, .inl (cA, 12, .inl (fun _ => 0))), (q3, .inl (cA, 12, .inl (fun _ => 0))), (q4, .inl (cA, 12, .inl (fun _ => 0))), (q5, .inl (cA, 12, .inl (fun _ => 0)))] H := hP
  have hD : va_D A [(h0, .inr (0, [.ref q1, .int 0, .ref q4, .int 0, .ref q2, .ref q3, .ref q5])), (q1, .inl (cA, 12, .inl (fun _ => 0))), (q2, .inl (cA, 12, .inl (fun _ => 0))), (q3, .inl (cA, 12, .inl (fun _ => 0))), (q4, .inl (cA, 12, .inl (fun _ => 0))), (q5, .inl (cA, 12, .inl (fun _ => 0)))] := hD
  refine lv_aload_n hx hb (show decode b_C_init 49 = .ok (.aload_n 0, 1) by decide +kernel) rfl (lv_at hl 0 rfl) ?_
  refine lv_iconst (v := 0) hx hb (show decode b_C_init 50 = .ok (.iconst 0, 1) by decide +kernel) (by decide) ?_
  refine va_put (D := D) (ci := 0) (v := .int 0) (ty := .int) (C := R_C) (T := T_C) (N := 7) hx hb hts hin0 ty_C ty_C_ok nm_C hown hK hP hD hS 0 rfl rfl 3 (by decide) (hts _ (hfl (29, 3) (by decide)).2) (fun _ h9 => h9) rfl (by decide +kernel) (by decide +kernel) (by decide +kernel) (Nat.le_of_ble_eq_true rfl) (show decode b_C_init 51 = .ok (.putfield 29, 3) by decide +kernel) (fun H locs hP hD hS => ?_)
  have hP : va_P D cls [(h0, .inr (0, [.ref q1, .int 0, .ref q4, .int 0, .ref q2, .ref q3, .ref q5])), (q1, .inl (cA, 12, .inl (fun _ => 0))), (q2, .inl (cA, 12, .inl (fun _ => 0))), (q3, .inl (cA, 12, .inl (fun _ => 0))), (q4, .inl (cA, 12, .inl (fun _ => 0))), (q5, .inl (cA, 12, .inl (fun _ => 0)))] H := hP
  have hD : va_D A [(h0, .inr (0, [.ref q1, .int 0, .ref q4, .int 0, .ref q2, .ref q3, .ref q5])), (q1, .inl (cA, 12, .inl (fun _ => 0))), (q2, .inl (cA, 12, .inl (fun _ => 0))), (q3, .inl (cA, 12, .inl (fun _ => 0))), (q4, .inl (cA, 12, .inl (fun _ => 0))), (q5, .inl (cA, 12, .inl (fun _ => 0)))] := hD
  have hP9 := hP.sub (ws' := m_w 0 cA (fun k => match k with | 0 => h0 | 1 => q1 | 2 => q4 | 3 => q2 | 4 => q3 | _ => q5) freshC) [0, 1, 4, 2, 3, 5] rfl
  have hD9 := hD.sub (ws' := m_w 0 cA (fun k => match k with | 0 => h0 | 1 => q1 | 2 => q4 | 3 => q2 | 4 => q3 | _ => q5) freshC) [0, 1, 4, 2, 3, 5] (by decide) rfl
  exact W.vret hx hb hr (fun t ht hW => ⟨⟨_, rfl, rfl, by rw [ht]; exact hP9, va_K.moved hW.alike hK, hD9⟩, hS.F ht⟩) hS.2.2 (show decode b_C_init 54 = .ok (.return_, 1) by decide +kernel)
def y_M_init : MethodName := ⟨"DegreeCoresModel", "<init>", "()V"⟩
abbrev b_M_init : ByteArray := prog_3_method_1_code
def freshM : mH := mkM 0 (fun _ => 0) (zT (fun _ => 0) 1 0 (fun _ => 0) (fun _ => 0) 0 0 0 (fun _ => 0) 0 (fun _ => 0))
abbrev fs_M : List Value := [.int 0, .null, .null, .int 0, .int 0, .null, .null, .int 0, .int 0, .int 0, .null, .int 0, .null]
set_option maxHeartbeats 1000000 in
set_option maxRecDepth 100000 in
theorem c_M_init {Ts : List Cond} (hn0 : Cond.methodLink R_M 1 objectInit ∈ Ts) (hn1 : Cond.instanceMethod objectInit ∈ Ts) (hn2 : Cond.code objectInit ⟨#[0xb1]⟩ 1 none ∈ Ts) (hn3 : Cond.arrayClass .int ∈ Ts) (hin0 : ∀ w ∈ u_ws R_M T_M 13, w ∈ Ts) (hfl : ∀ q ∈ f_M, q.2 < 13 ∧ Cond.fieldLink R_M q.1 (T_M q.2).1 (T_M q.2).2.1 (T_M q.2).2.2.1 ∈ Ts) (l : Launch) (D : va_G) (cA : ClassId) (h0 sz : Nat) : Met l y_M_init (Cond.code y_M_init b_M_init 1 none :: Ts) ({ frames := 1, cells := 6, slots := 4156, locals := 12 }) (va_Pc [.ref h0] (fun U => U.heap.size = sz ∧ va_P D cls [(h0, .inr (1, fs_M))] U.heap ∧ va_K D cls [(cA, .int)] U ∧ va_D (fun _ => True) [(h0, .inr (1, fs_M))])) (va_Qv (fun ad : Nat → Nat => ad 0 = h0) (fun ad t => va_P D cls (m_w 1 cA ad freshM) t.heap ∧ va_K D cls [(cA, .int)] t ∧ va_D (va_A [(h0, .inr (1, fs_M))] sz) (m_w 1 cA ad freshM)) (va_A [(h0, .inr (1, fs_M))] sz)) 6 4156 (va_A [(h0, .inr (1, fs_M))] sz) := by
  refine Met.ofW (cc := b_M_init) (maxL := 1) (ret := none) (by decide) rfl ?_
  intro p e s m args below meth c s₁ B hml hv
  obtain ⟨rfl, hsz, hP, hK, hD0⟩ := hv
  have hx := B.exec
  have hb := B.bytes
  have hr := B.returns
  have hts0 := atoms_spec (ws := Cond.code y_M_init b_M_init 1 none :: Ts) B.pre
  have hts : ∀ w ∈ Ts, w.before [Value.ref h0].toArray s = true := fun w hw => hts0 w (List.mem_cons_of_mem _ hw)
  have hown : s.vm.findClass R_M = some m.cls := findClass_of_methodNamed B.named
  have hlocks := B.notSynchronized
  have hin : meth.name = "<init>" := (name_of_methodNamed B.named B.method).1
  subst hsz
  have hD := hD0.self (sz := s.heap.size)
  generalize hAe : va_A [(h0, .inr (1, fs_M))] s.heap.size = A at hD ⊢
  have hA : ∀ q : Nat, s.heap.size ≤ q → A q := fun q h => by rw [← hAe]; exact Or.inr h
  have hS : va_S A s.heap s.heap [] := va_S.rf
  have hl := lv_entry ([.ref h0]) (n := 1) (Nat.le_of_ble_eq_true rfl)
  rw [lg_entry_eq]
  generalize (lg_sl ([.ref h0]) ++ List.replicate (1 - (lg_sl ([.ref h0])).length) Slot.unset).toArray = ls at hl ⊢
  have hl : lv_has ls 1 [(0, .ref h0)] := hl
  refine lv_aload_n hx hb (show decode b_M_init 0 = .ok (.aload_n 0, 1) by decide +kernel) rfl (lv_at hl 0 rfl) ?_
  refine W.objInit hx hb hown (hts _ hn0) (hts _ hn1) (hts _ hn2) rfl (by rw [hml]; exact hl.1) rfl (show decode b_M_init 1 = .ok (.invokespecial 1, 3) by decide +kernel) (Nat.le_of_ble_eq_true rfl) (Nat.le_of_ble_eq_true rfl) ?_
  refine W.eq (g2 := F0 m 4 ls []) rfl ?_
  refine lv_aload_n hx hb (show decode b_M_init 4 = .ok (.aload_n 0, 1) by decide +kernel) rfl (lv_at hl 0 rfl) ?_
  refine lv_bipush (v := 12) hx hb (show decode b_M_init 5 = .ok (.bipush 12, 2) by decide +kernel) (by decide) ?_
  refine va_newa (atype := .int) (ty := .int) (N' := 12) (a0 := (12, .inl (fun _ => 0))) hx hb (hts _ hn3) rfl hK hP hD hS hA (fun _ => rfl) (by decide) (by decide) (by decide) (Nat.le_of_ble_eq_true rfl) (Nat.le_of_ble_eq_true rfl) (show decode b_M_init 7 = .ok (.newarray .int, 2) by decide +kernel) (fun q1 cB H hKB hP hD hS => ?_)
  have eB : cB = cA := Option.some.inj ((hKB.2 1 _ rfl).2.symm.trans (hKB.2 0 _ rfl).2)
  subst cB
  have hP : va_P D cls [(h0, .inr (1, [.int 0, .null, .null, .int 0, .int 0, .null, .null, .int 0, .int 0, .int 0, .null, .int 0, .null])), (q1, .inl (cA, 12, .inl (fun _ => 0)))] H := hP
  have hD : va_D A [(h0, .inr (1, [.int 0, .null, .null, .int 0, .int 0, .null, .null, .int 0, .int 0, .int 0, .null, .int 0, .null])), (q1, .inl (cA, 12, .inl (fun _ => 0)))] := hD
  refine W.widen (k := 1) (n := 12) (Nat.le_of_ble_eq_true rfl) (Nat.le_of_ble_eq_true rfl) ?_
  refine va_putF (D := D) (ci := 1) (v := .ref q1) (ty := .array .int) (C := R_M) (T := T_M) (N := 13) hx hb hts hin0 ty_M ty_M_ok nm_M hown hK hP hD hS 0 rfl rfl 1 (by decide) (hts _ (hfl (7, 1) (by decide)).2) (fun _ h9 => h9) rfl hin rfl (by decide +kernel) rfl rfl (Nat.le_of_ble_eq_true rfl) (show decode b_M_init 9 = .ok (.putfield 7, 3) by decide +kernel) (fun H locs hP hD hS => ?_)
  have hP : va_P D cls [(h0, .inr (1, [.int 0, .ref q1, .null, .int 0, .int 0, .null, .null, .int 0, .int 0, .int 0, .null, .int 0, .null])), (q1, .inl (cA, 12, .inl (fun _ => 0)))] H := hP
  have hD : va_D A [(h0, .inr (1, [.int 0, .ref q1, .null, .int 0, .int 0, .null, .null, .int 0, .int 0, .int 0, .null, .int 0, .null])), (q1, .inl (cA, 12, .inl (fun _ => 0)))] := hD
  refine lv_aload_n hx hb (show decode b_M_init 12 = .ok (.aload_n 0, 1) by decide +kernel) rfl (lv_at hl 0 rfl) ?_
  refine lv_sipush (v := 4096) hx hb (show decode b_M_init 13 = .ok (.sipush 4096, 3) by decide +kernel) (by decide) ?_
  refine va_newa (atype := .int) (ty := .int) (N' := 4096) (a0 := (4096, .inl (fun _ => 0))) hx hb (hts _ hn3) rfl hK hP hD hS hA (fun _ => rfl) (by decide) (by decide) (by decide) (Nat.le_of_ble_eq_true rfl) (Nat.le_of_ble_eq_true rfl) (show decode b_M_init 16 = .ok (.newarray .int, 2) by decide +kernel) (fun q2 cB H hKB hP hD hS => ?_)
  have eB : cB = cA := Option.some.inj ((hKB.2 1 _ rfl).2.symm.trans (hKB.2 0 _ rfl).2)
  subst cB
  have hP : va_P D cls [(h0, .inr (1, [.int 0, .ref q1, .null, .int 0, .int 0, .null, .null, .int 0, .int 0, .int 0, .null, .int 0, .null])), (q1, .inl (cA, 12, .inl (fun _ => 0))), (q2, .inl (cA, 4096, .inl (fun _ => 0)))] H := hP
  have hD : va_D A [(h0, .inr (1, [.int 0, .ref q1, .null, .int 0, .int 0, .null, .null, .int 0, .int 0, .int 0, .null, .int 0, .null])), (q1, .inl (cA, 12, .inl (fun _ => 0))), (q2, .inl (cA, 4096, .inl (fun _ => 0)))] := hD
  refine W.widen (k := 2) (n := 4108) (Nat.le_of_ble_eq_true rfl) (Nat.le_of_ble_eq_true rfl) ?_
  refine va_putF (D := D) (ci := 1) (v := .ref q2) (ty := .array .int) (C := R_M) (T := T_M) (N := 13) hx hb hts hin0 ty_M ty_M_ok nm_M hown hK hP hD hS 0 rfl rfl 2 (by decide) (hts _ (hfl (13, 2) (by decide)).2) (fun _ h9 => h9) rfl hin rfl (by decide +kernel) rfl rfl (Nat.le_of_ble_eq_true rfl) (show decode b_M_init 18 = .ok (.putfield 13, 3) by decide +kernel) (fun H locs hP hD hS => ?_)
  have hP : va_P D cls [(h0, .inr (1, [.int 0, .ref q1, .ref q2, .int 0, .int 0, .null, .null, .int 0, .int 0, .int 0, .null, .int 0, .null])), (q1, .inl (cA, 12, .inl (fun _ => 0))), (q2, .inl (cA, 4096, .inl (fun _ => 0)))] H := hP
  have hD : va_D A [(h0, .inr (1, [.int 0, .ref q1, .ref q2, .int 0, .int 0, .null, .null, .int 0, .int 0, .int 0, .null, .int 0, .null])), (q1, .inl (cA, 12, .inl (fun _ => 0))), (q2, .inl (cA, 4096, .inl (fun _ => 0)))] := hD
  refine lv_aload_n hx hb (show decode b_M_init 21 = .ok (.aload_n 0, 1) by decide +kernel) rfl (lv_at hl 0 rfl) ?_
  refine lv_iconst (v := 1) hx hb (show decode b_M_init 22 = .ok (.iconst 1, 1) by decide +kernel) (by decide) ?_
  refine va_put (D := D) (ci := 1) (v := .int 1) (ty := .boolean) (C := R_M) (T := T_M) (N := 13) hx hb hts hin0 ty_M ty_M_ok nm_M hown hK hP hD hS 0 rfl rfl 3 (by decide) (hts _ (hfl (16, 3) (by decide)).2) (fun _ h9 => h9) rfl (by decide +kernel) (by decide +kernel) (by decide +kernel) (Nat.le_of_ble_eq_true rfl) (show decode b_M_init 23 = .ok (.putfield 16, 3) by decide +kernel) (fun H locs hP hD hS => ?_)
  have hP : va_P D cls [(h0, .inr (1, [.int 0, .ref q1, .ref q2, .int 1, .int 0, .null, .null, .int 0, .int 0, .int 0, .null, .int 0, .null])), (q1, .inl (cA, 12, .inl (fun _ => 0))), (q2, .inl (cA, 4096, .inl (fun _ => 0)))] H := hP
  have hD : va_D A [(h0, .inr (1, [.int 0, .ref q1, .ref q2, .int 1, .int 0, .null, .null, .int 0, .int 0, .int 0, .null, .int 0, .null])), (q1, .inl (cA, 12, .inl (fun _ => 0))), (q2, .inl (cA, 4096, .inl (fun _ => 0)))] := hD
  refine lv_aload_n hx hb (show decode b_M_init 26 = .ok (.aload_n 0, 1) by decide +kernel) rfl (lv_at hl 0 rfl) ?_
  refine lv_bipush (v := 12) hx hb (show decode b_M_init 27 = .ok (.bipush 12, 2) by decide +kernel) (by decide) ?_
  refine va_newa (atype := .int) (ty := .int) (N' := 12) (a0 := (12, .inl (fun _ => 0))) hx hb (hts _ hn3) rfl hK hP hD hS hA (fun _ => rfl) (by decide) (by decide) (by decide) (Nat.le_of_ble_eq_true rfl) (Nat.le_of_ble_eq_true rfl) (show decode b_M_init 29 = .ok (.newarray .int, 2) by decide +kernel) (fun q3 cB H hKB hP hD hS => ?_)
  have eB : cB = cA := Option.some.inj ((hKB.2 1 _ rfl).2.symm.trans (hKB.2 0 _ rfl).2)
  subst cB
  have hP : va_P D cls [(h0, .inr (1, [.int 0, .ref q1, .ref q2, .int 1, .int 0, .null, .null, .int 0, .int 0, .int 0, .null, .int 0, .null])), (q1, .inl (cA, 12, .inl (fun _ => 0))), (q2, .inl (cA, 4096, .inl (fun _ => 0))), (q3, .inl (cA, 12, .inl (fun _ => 0)))] H := hP
  have hD : va_D A [(h0, .inr (1, [.int 0, .ref q1, .ref q2, .int 1, .int 0, .null, .null, .int 0, .int 0, .int 0, .null, .int 0, .null])), (q1, .inl (cA, 12, .inl (fun _ => 0))), (q2, .inl (cA, 4096, .inl (fun _ => 0))), (q3, .inl (cA, 12, .inl (fun _ => 0)))] := hD
  refine W.widen (k := 3) (n := 4120) (Nat.le_of_ble_eq_true rfl) (Nat.le_of_ble_eq_true rfl) ?_
  refine va_putF (D := D) (ci := 1) (v := .ref q3) (ty := .array .int) (C := R_M) (T := T_M) (N := 13) hx hb hts hin0 ty_M ty_M_ok nm_M hown hK hP hD hS 0 rfl rfl 5 (by decide) (hts _ (hfl (20, 5) (by decide)).2) (fun _ h9 => h9) rfl hin rfl (by decide +kernel) rfl rfl (Nat.le_of_ble_eq_true rfl) (show decode b_M_init 31 = .ok (.putfield 20, 3) by decide +kernel) (fun H locs hP hD hS => ?_)
  have hP : va_P D cls [(h0, .inr (1, [.int 0, .ref q1, .ref q2, .int 1, .int 0, .ref q3, .null, .int 0, .int 0, .int 0, .null, .int 0, .null])), (q1, .inl (cA, 12, .inl (fun _ => 0))), (q2, .inl (cA, 4096, .inl (fun _ => 0))), (q3, .inl (cA, 12, .inl (fun _ => 0)))] H := hP
  have hD : va_D A [(h0, .inr (1, [.int 0, .ref q1, .ref q2, .int 1, .int 0, .ref q3, .null, .int 0, .int 0, .int 0, .null, .int 0, .null])), (q1, .inl (cA, 12, .inl (fun _ => 0))), (q2, .inl (cA, 4096, .inl (fun _ => 0))), (q3, .inl (cA, 12, .inl (fun _ => 0)))] := hD
  refine lv_aload_n hx hb (show decode b_M_init 34 = .ok (.aload_n 0, 1) by decide +kernel) rfl (lv_at hl 0 rfl) ?_
  refine lv_bipush (v := 12) hx hb (show decode b_M_init 35 = .ok (.bipush 12, 2) by decide +kernel) (by decide) ?_
  refine va_newa (atype := .int) (ty := .int) (N' := 12) (a0 := (12, .inl (fun _ => 0))) hx hb (hts _ hn3) rfl hK hP hD hS hA (fun _ => rfl) (by decide) (by decide) (by decide) (Nat.le_of_ble_eq_true rfl) (Nat.le_of_ble_eq_true rfl) (show decode b_M_init 37 = .ok (.newarray .int, 2) by decide +kernel) (fun q4 cB H hKB hP hD hS => ?_)
  have eB : cB = cA := Option.some.inj ((hKB.2 1 _ rfl).2.symm.trans (hKB.2 0 _ rfl).2)
  subst cB
  have hP : va_P D cls [(h0, .inr (1, [.int 0, .ref q1, .ref q2, .int 1, .int 0, .ref q3, .null, .int 0, .int 0, .int 0, .null, .int 0, .null])), (q1, .inl (cA, 12, .inl (fun _ => 0))), (q2, .inl (cA, 4096, .inl (fun _ => 0))), (q3, .inl (cA, 12, .inl (fun _ => 0))), (q4, .inl (cA, 12, .inl (fun _ => 0)))] H := hP
  have hD : va_D A [(h0, .inr (1, [.int 0, .ref q1, .ref q2, .int 1, .int 0, .ref q3, .null, .int 0, .int 0, .int 0, .null, .int 0, .null])), (q1, .inl (cA, 12, .inl (fun _ => 0))), (q2, .inl (cA, 4096, .inl (fun _ => 0))), (q3, .inl (cA, 12, .inl (fun _ => 0))), (q4, .inl (cA, 12, .inl (fun _ => 0)))] := hD
  refine W.widen (k := 4) (n := 4132) (Nat.le_of_ble_eq_true rfl) (Nat.le_of_ble_eq_true rfl) ?_
  refine va_putF (D := D) (ci := 1) (v := .ref q4) (ty := .array .int) (C := R_M) (T := T_M) (N := 13) hx hb hts hin0 ty_M ty_M_ok nm_M hown hK hP hD hS 0 rfl rfl 6 (by decide) (hts _ (hfl (23, 6) (by decide)).2) (fun _ h9 => h9) rfl hin rfl (by decide +kernel) rfl rfl (Nat.le_of_ble_eq_true rfl) (show decode b_M_init 39 = .ok (.putfield 23, 3) by decide +kernel) (fun H locs hP hD hS => ?_)
  have hP : va_P D cls [(h0, .inr (1, [.int 0, .ref q1, .ref q2, .int 1, .int 0, .ref q3, .ref q4, .int 0, .int 0, .int 0, .null, .int 0, .null])), (q1, .inl (cA, 12, .inl (fun _ => 0))), (q2, .inl (cA, 4096, .inl (fun _ => 0))), (q3, .inl (cA, 12, .inl (fun _ => 0))), (q4, .inl (cA, 12, .inl (fun _ => 0)))] H := hP
  have hD : va_D A [(h0, .inr (1, [.int 0, .ref q1, .ref q2, .int 1, .int 0, .ref q3, .ref q4, .int 0, .int 0, .int 0, .null, .int 0, .null])), (q1, .inl (cA, 12, .inl (fun _ => 0))), (q2, .inl (cA, 4096, .inl (fun _ => 0))), (q3, .inl (cA, 12, .inl (fun _ => 0))), (q4, .inl (cA, 12, .inl (fun _ => 0)))] := hD
  refine lv_aload_n hx hb (show decode b_M_init 42 = .ok (.aload_n 0, 1) by decide +kernel) rfl (lv_at hl 0 rfl) ?_
  refine lv_bipush (v := 12) hx hb (show decode b_M_init 43 = .ok (.bipush 12, 2) by decide +kernel) (by decide) ?_
  refine va_newa (atype := .int) (ty := .int) (N' := 12) (a0 := (12, .inl (fun _ => 0))) hx hb (hts _ hn3) rfl hK hP hD hS hA (fun _ => rfl) (by decide) (by decide) (by decide) (Nat.le_of_ble_eq_true rfl) (Nat.le_of_ble_eq_true rfl) (show decode b_M_init 45 = .ok (.newarray .int, 2) by decide +kernel) (fun q5 cB H hKB hP hD hS => ?_)
  have eB : cB = cA := Option.some.inj ((hKB.2 1 _ rfl).2.symm.trans (hKB.2 0 _ rfl).2)
  subst cB
  have hP : va_P D cls [(h0, .inr (1, [.int 0, .ref q1, .ref q2, .int 1, .int 0, .ref q3, .ref q4, .int 0, .int 0, .int 0, .null, .int 0, .null])), (q1, .inl (cA, 12, .inl (fun _ => 0))), (q2, .inl (cA, 4096, .inl (fun _ => 0))), (q3, .inl (cA, 12, .inl (fun _ => 0))), (q4, .inl (cA, 12, .inl (fun _ => 0))), (q5, .inl (cA, 12, .inl (fun _ => 0)))] H := hP
  have hD : va_D A [(h0, .inr (1, [.int 0, .ref q1, .ref q2, .int 1, .int 0, .ref q3, .ref q4, .int 0, .int 0, .int 0, .null, .int 0, .null])), (q1, .inl (cA, 12, .inl (fun _ => 0))), (q2, .inl (cA, 4096, .inl (fun _ => 0))), (q3, .inl (cA, 12, .inl (fun _ => 0))), (q4, .inl (cA, 12, .inl (fun _ => 0))), (q5, .inl (cA, 12, .inl (fun _ => 0)))] := hD
  refine W.widen (k := 5) (n := 4144) (Nat.le_of_ble_eq_true rfl) (Nat.le_of_ble_eq_true rfl) ?_
  refine va_putF (D := D) (ci := 1) (v := .ref q5) (ty := .array .int) (C := R_M) (T := T_M) (N := 13) hx hb hts hin0 ty_M ty_M_ok nm_M hown hK hP hD hS 0 rfl rfl 10 (by decide) (hts _ (hfl (26, 10) (by decide)).2) (fun _ h9 => h9) rfl hin rfl (by decide +kernel) rfl rfl (Nat.le_of_ble_eq_true rfl) (show decode b_M_init 47 = .ok (.putfield 26, 3) by decide +kernel) (fun H locs hP hD hS => ?_)
  have hP : va_P D cls [(h0, .inr (1, [.int 0, .ref q1, .ref q2, .int 1, .int 0, .ref q3, .ref q4, .int 0, .int 0, .int 0, .ref q5, .int 0, .null])), (q1, .inl (cA, 12, .inl (fun _ => 0))), (q2, .inl (cA, 4096, .inl (fun _ => 0))), (q3, .inl (cA, 12, .inl (fun _ => 0))), (q4, .inl (cA, 12, .inl (fun _ => 0))), (q5, .inl (cA, 12, .inl (fun _ => 0)))] H := hP
  have hD : va_D A [(h0, .inr (1, [.int 0, .ref q1, .ref q2, .int 1, .int 0, .ref q3, .ref q4, .int 0, .int 0, .int 0, .ref q5, .int 0, .null])), (q1, .inl (cA, 12, .inl (fun _ => 0))), (q2, .inl (cA, 4096, .inl (fun _ => 0))), (q3, .inl (cA, 12, .inl (fun _ => 0))), (q4, .inl (cA, 12, .inl (fun _ => 0))), (q5, .inl (cA, 12, .inl (fun _ => 0)))] := hD
  refine lv_aload_n hx hb (show decode b_M_init 50 = .ok (.aload_n 0, 1) by decide +kernel) rfl (lv_at hl 0 rfl) ?_
  refine lv_bipush (v := 12) hx hb (show decode b_M_init 51 = .ok (.bipush 12, 2) by decide +kernel) (by decide) ?_
  refine va_newa (atype := .int) (ty := .int) (N' := 12) (a0 := (12, .inl (fun _ => 0))) hx hb (hts _ hn3) rfl hK hP hD hS hA (fun _ => rfl) (by decide) (by decide) (by decide) (Nat.le_of_ble_eq_true rfl) (Nat.le_of_ble_eq_true rfl) (show decode b_M_init 53 = .ok (.newarray .int, 2) by decide +kernel) (fun q6 cB H hKB hP hD hS => ?_)
  have eB : cB = cA := Option.some.inj ((hKB.2 1 _ rfl).2.symm.trans (hKB.2 0 _ rfl).2)
  subst cB
  have hP : va_P D cls [(h0, .inr (1, [.int 0, .ref q1, .ref q2, .int 1, .int 0, .ref q3, .ref q4, .int 0, .int 0, .int 0, .ref q5, .int 0, .null])), (q1, .inl (cA, 12, .inl (fun _ => 0))), (q2, .inl (cA, 4096, .inl (fun _ => 0))), (q3, .inl (cA, 12, .inl (fun _ => 0))), (q4, .inl (cA, 12, .inl (fun _ => 0))), (q5, .inl (cA, 12, .inl (fun _ => 0))), (q6, .inl (cA, 12, .inl (fun _ => 0)))] H := hP
  have hD : va_D A [(h0, .inr (1, [.int 0, .ref q1, .ref q2, .int 1, .int 0, .ref q3, .ref q4, .int 0, .int 0, .int 0, .ref q5, .int 0, .null])), (q1, .inl (cA, 12, .inl (fun _ => 0))), (q2, .inl (cA, 4096, .inl (fun _ => 0))), (q3, .inl (cA, 12, .inl (fun _ => 0))), (q4, .inl (cA, 12, .inl (fun _ => 0))), (q5, .inl (cA, 12, .inl (fun _ => 0))), (q6, .inl (cA, 12, .inl (fun _ => 0)))] := hD
  refine W.widen (k := 6) (n := 4156) (Nat.le_of_ble_eq_true rfl) (Nat.le_of_ble_eq_true rfl) ?_
  refine va_putF (D := D) (ci := 1) (v := .ref q6) (ty := .array .int) (C := R_M) (T := T_M) (N := 13) hx hb hts hin0 ty_M ty_M_ok nm_M hown hK hP hD hS 0 rfl rfl 12 (by decide) (hts _ (hfl (29, 12) (by decide)).2) (fun _ h9 => h9) rfl hin rfl (by decide +kernel) rfl rfl (Nat.le_of_ble_eq_true rfl) (show decode b_M_init 55 = .ok (.putfield 29, 3) by decide +kernel) (fun H locs hP hD hS => ?_)
  have hP : va_P D cls [(h0, .inr (1, [.int 0, .ref q1, .ref q2, .int 1, .int 0, .ref q3, .ref q4, .int 0, .int 0, .int 0, .ref q5, .int 0, .ref q6])), (q1, .inl (cA, 12, .inl (fun _ => 0))), (q2, .inl (cA, 4096, .inl (fun _ => 0))), (q3, .inl (cA, 12, .inl (fun _ => 0))), (q4, .inl (cA, 12, .inl (fun _ => 0))), (q5, .inl (cA, 12, .inl (fun _ => 0))), (q6, .inl (cA, 12, .inl (fun _ => 0)))] H := hP
  have hD : va_D A [(h0, .inr (1, [.int 0, .ref q1, .ref q2, .int 1, .int 0, .ref q3, .ref q4, .int 0, .int 0, .int 0, .ref q5, .int 0, .ref q6])), (q1, .inl (cA, 12, .inl (fun _ => 0))), (q2, .inl (cA, 4096, .inl (fun _ => 0))), (q3, .inl (cA, 12, .inl (fun _ => 0))), (q4, .inl (cA, 12, .inl (fun _ => 0))), (q5, .inl (cA, 12, .inl (fun _ => 0))), (q6, .inl (cA, 12, .inl (fun _ => 0)))] := hD
  have hP9 := hP.sub (ws' := m_w 1 cA (fun k => match k with | 0 => h0 | 1 => q1 | 2 => q2 | 3 => q3 | 4 => q4 | 5 => q5 | _ => q6) freshM) [0, 1, 2, 3, 4, 5, 6] rfl
  have hD9 := hD.sub (ws' := m_w 1 cA (fun k => match k with | 0 => h0 | 1 => q1 | 2 => q2 | 3 => q3 | 4 => q4 | 5 => q5 | _ => q6) freshM) [0, 1, 2, 3, 4, 5, 6] (by decide) rfl
  exact W.vret hx hb hr (fun t ht hW => ⟨⟨_, rfl, rfl, by rw [ht]; exact hP9, va_K.moved hW.alike hK, hD9⟩, hS.F ht⟩) hS.2.2 (show decode b_M_init 58 = .ok (.return_, 1) by decide +kernel)
