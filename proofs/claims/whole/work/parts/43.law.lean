/-! THE CLAIM OUT OF ONE WALK OF THE LAW'S BODY. Your part is whole_start (and what it stands on); all else here is the same for every law, but numbers. -/
def R_law : String := "DegreeCoresLaw"
def lw_P (b : Addr) (xs : List Int32) (args : Array Value) (s : State) : Prop := args = #[.ref b] ∧ s.IntsAt b xs ∧ xs.length ≤ 2048 ∧ (Jvm.Cond.and given_1 narrow_1).before args s = true
def lw_Q (_ : Array Value) (s : State) (o : Outcome) (t : State) : Prop := o = .returned (some (.int 1)) ∧ Framed s o t [] 13 4236
def lw_Z (below : List Frame) (a : Array Value) (s : State) : State → Prop := fun t => ∃ o, t.status = .running ∧ Ended t below o ∧ lw_Q a s o t
/-- the law's own end, with 1 on the stack, nothing written that was there before, its room as the claim has it -/
theorem lw_ret {p : Program} {l : Launch} {e : Env} {s : State} {m : MethodId} {below : List Frame} {meth : Method} {c : Code} {b : Nat} (hx : p.tables.exec = Jvm.exec) (hb : c.code = code) (hr : meth.sig.returnType = ret) (hlocks : meth.locks = false) {pc : Nat} {H : Heap} {ls : Array Slot} (hdg : decode code pc = .ok (.ireturn, 1)) : W p l e room_1 s m #[Value.ref b] below meth c H [] 13 4236 (lw_Z below #[Value.ref b] s) (F0 m pc ls [.int 1]) := by
  intro T hT X
  obtain ⟨fs, hret, hrun, hended, hW, hframe⟩ := X.leave (v := some (.int 1)) (hlocks := hlocks) (fun h => by rw [hr] at h; cases h)
  have hmeth' : T.vm.method? m = some meth := X.method'
  refine ⟨T.setFrames fs, ?_, .returned (some (.int 1)), hrun, hended, rfl, ⟨_, rfl⟩, hW, hframe⟩
  jvm_step X.here [X.here.top, hx, hb, hdg, hmeth', hr, ret, narrow_b1]
  (try refine ⟨rfl, ?_⟩); (try refine ⟨rfl, ?_⟩)
  first | (intro acts; rw [hret _ acts rfl rfl rfl]) | rw [hret _ _ rfl rfl rfl]
  exact Steps.refl _
/-- what holds at the law's entry: the machine, the code, the tables' words (any of lw_tbl by 'hts w (by decide +kernel)'), the script of L ints xs at the cell b, what the Statement gives of the start (any of its parts by flat_of_before) -/
def lw_At (p : Program) (s : State) (m : MethodId) (meth : Method) (c : Code) (b L : Nat) (xs : Nat → Int32) : Prop :=
  p.tables.exec = Jvm.exec ∧ c.code = code ∧ meth.sig.returnType = ret ∧ c.maxLocals = 4 ∧ s.vm.findClass R_law = some m.cls ∧ (∀ w ∈ lw_tbl, w.before #[Value.ref b] s = true) ∧ va_X b L xs s s.heap ∧ b < s.heap.size ∧ meth.locks = false ∧ (Jvm.Cond.and given_1 narrow_1).before #[Value.ref b] s = true
set_option maxHeartbeats 4000000 in
/-- the law's loop: at its head both hold the same -/
theorem lw_loop {p : Program} {l : Launch} {e : Env} {s : State} {m : MethodId} {below : List Frame} {meth : Method} {c : Code} {b L : Nat} {xs : Nat → Int32} {D : va_G} {cA : ClassId} (hc0 : lwC p s m meth c b L xs TB D cA) {adC adM : Nat → Nat} :
    ∀ (n i : Nat), i ≤ 2052 → 2052 ≤ i + n → ∀ (H : Heap) (locs : List Loc) (ls : Array Slot) (hc hm : mH), lv_has ls 4 [(0, .ref b), (1, .ref (adC 0)), (2, .ref (adM 0)), (3, .int (nI i))] → Lsm hc hm → va_P D cls (m_w 0 cA adC hc ++ m_w 1 cA adM hm) H → va_D (fun q => s.heap.size ≤ q) (m_w 0 cA adC hc ++ m_w 1 cA adM hm) → va_S (fun q => s.heap.size ≤ q) s.heap H locs →
    W p l e room_1 s m #[Value.ref b] below meth c H locs 13 4236 (lw_Z below #[Value.ref b] s) (F0 m 18 ls []) := by
  obtain ⟨hx, hb, hr, hml, hown, hts, hX, hbl, hlk, hK, hL⟩ := id hc0
  intro n
  induction n with
  | zero =>
    intro i h1 h2 H locs ls hc hm hl hLs hP hD hS
    refine lv_iload_n hx hb dl_18 rfl (lv_at hl 3 rfl) (lv_aload_n hx hb dl_19 rfl (lv_at hl 0 rfl) (va_slen hx hb hX hbl (Nat.not_le.mpr hbl) hS dl_20 (lv_iconst (v := 4) hx hb dl_21 (by decide) (lv_isub hx hb dl_22 (lv_icmp_gt (tgt := 775) hx hb dl_23 (by decide) (fun _ => ?_) (fun z => ?_))))))
    · refine lv_iconst (v := 1) hx hb dl_775 (by decide) (va_forget (fun q hq => hS.2.2 q hq) ?_)
      exact lw_ret hx hb hr hlk dl_776
    · exfalso
      apply z
      rw [Int32.lt_iff_toInt_lt]
      have e1 : (nI L - 4).toInt = (L : Int) - 4 := pk_sub_toInt (b := 4) (by omega) (by omega)
      have e2 : (nI i).toInt = (i : Int) := nI_toInt (by omega)
      show (nI L - 4).toInt < (nI i).toInt
      omega
  | succ n ih =>
    intro i h1 h2 H locs ls hc hm hl hLs hP hD hS
    refine lv_iload_n hx hb dl_18 rfl (lv_at hl 3 rfl) (lv_aload_n hx hb dl_19 rfl (lv_at hl 0 rfl) (va_slen hx hb hX hbl (Nat.not_le.mpr hbl) hS dl_20 (lv_iconst (v := 4) hx hb dl_21 (by decide) (lv_isub hx hb dl_22 (lv_icmp_gt (tgt := 775) hx hb dl_23 (by decide) (fun _ => ?_) (fun z => ?_))))))
    · refine lv_iconst (v := 1) hx hb dl_775 (by decide) (va_forget (fun q hq => hS.2.2 q hq) ?_)
      exact lw_ret hx hb hr hlk dl_776
    · have hi : i + 4 ≤ L := by
        apply Nat.le_of_not_lt
        intro hlt
        apply z
        rw [Int32.lt_iff_toInt_lt]
        have e1 : (nI L - 4).toInt = (L : Int) - 4 := pk_sub_toInt (b := 4) (by omega) (by omega)
        have e2 : (nI i).toInt = (i : Int) := nI_toInt (by omega)
        show (nI L - 4).toInt < (nI i).toInt
        omega
      have next : ∀ (hc' hm' : mH) (H1 : Heap) (locs1 : List Loc), Lsm hc' hm' → va_P D cls (m_w 0 cA adC hc' ++ m_w 1 cA adM hm') H1 → va_D (fun q => s.heap.size ≤ q) (m_w 0 cA adC hc' ++ m_w 1 cA adM hm') → va_S (fun q => s.heap.size ≤ q) s.heap H1 locs1 → W p l e room_1 s m #[Value.ref b] below meth c H1 locs1 13 4236 (lw_Z below #[Value.ref b] s) (F0 m 769 ls []) := by
        intro hc' hm' H1 locs1 hLs1 hP1 hD1 hS1
        refine lv_iinc (v := nI (i + 4)) (lv' := [(3, .int (nI (i + 4))), (0, .ref b), (1, .ref (adC 0)), (2, .ref (adM 0))]) hx hb dl_769 hl (k := 3) rfl (nI_add i 4) (by decide) rfl (fun ls' hl' => ?_)
        refine lv_goto (tgt := 18) hx hb dl_772 (by decide) ?_
        exact ih (i + 4) (by omega) (by omega) H1 locs1 ls' hc' hm' (lv_sub hl' [1, 2, 3, 0] rfl) hLs1 hP1 hD1 hS1
      refine lv_aload_n hx hb dl_26 rfl (lv_at hl 0 rfl) (lv_iload_n hx hb dl_27 rfl (lv_at hl 3 rfl) (va_sld hx hb hX hbl (Nat.not_le.mpr hbl) hS (vp_in_nI (by omega) (by omega)) dl_28 (lv_bipush (v := 31) hx hb dl_29 (by decide) (lv_iand hx hb dl_31 ?_))))
      obtain ⟨j, hj, ej⟩ := pk_andE (xs (nI i).toNatClampNeg) (m := 31) 5 (by decide)
      rw [ej]
      have hji : (nI j).toInt = (j : Int) := nI_toInt (by omega)
      by_cases hj2 : j ≤ 24
      · rcases (show j = 0 ∨ j = 1 ∨ j = 2 ∨ j = 3 ∨ j = 4 ∨ j = 5 ∨ j = 6 ∨ j = 7 ∨ j = 8 ∨ j = 9 ∨ j = 10 ∨ j = 11 ∨ j = 12 ∨ j = 13 ∨ j = 14 ∨ j = 15 ∨ j = 16 ∨ j = 17 ∨ j = 18 ∨ j = 19 ∨ j = 20 ∨ j = 21 ∨ j = 22 ∨ j = 23 ∨ j = 24 by omega) with rfl | rfl | rfl | rfl | rfl | rfl | rfl | rfl | rfl | rfl | rfl | rfl | rfl | rfl | rfl | rfl | rfl | rfl | rfl | rfl | rfl | rfl | rfl | rfl | rfl
        · exact lv_tableIn (tgt := 148) hx hb dl_32 (by decide) (by decide) (off := 116) rfl (by decide) (lw_c0 hc0 hi hl hLs hP hD hS next)
        · exact lv_tableIn (tgt := 161) hx hb dl_32 (by decide) (by decide) (off := 129) rfl (by decide) (lw_c1 hc0 hi hl hLs hP hD hS next)
        · exact lv_tableIn (tgt := 220) hx hb dl_32 (by decide) (by decide) (off := 188) rfl (by decide) (lw_c2 hc0 hi hl hLs hP hD hS next)
        · exact lv_tableIn (tgt := 253) hx hb dl_32 (by decide) (by decide) (off := 221) rfl (by decide) (lw_c3 hc0 hi hl hLs hP hD hS next)
        · exact lv_tableIn (tgt := 266) hx hb dl_32 (by decide) (by decide) (off := 234) rfl (by decide) (lw_c4 hc0 hi hl hLs hP hD hS next)
        · exact lv_tableIn (tgt := 289) hx hb dl_32 (by decide) (by decide) (off := 257) rfl (by decide) (lw_c5 hc0 hi hl hLs hP hD hS next)
        · exact lv_tableIn (tgt := 312) hx hb dl_32 (by decide) (by decide) (off := 280) rfl (by decide) (lw_c6 hc0 hi hl hLs hP hD hS next)
        · exact lv_tableIn (tgt := 335) hx hb dl_32 (by decide) (by decide) (off := 303) rfl (by decide) (lw_c7 hc0 hi hl hLs hP hD hS next)
        · exact lv_tableIn (tgt := 358) hx hb dl_32 (by decide) (by decide) (off := 326) rfl (by decide) (lw_c8 hc0 hi hl hLs hP hD hS next)
        · exact lv_tableIn (tgt := 381) hx hb dl_32 (by decide) (by decide) (off := 349) rfl (by decide) (lw_c9 hc0 hi hl hLs hP hD hS next)
        · exact lv_tableIn (tgt := 394) hx hb dl_32 (by decide) (by decide) (off := 362) rfl (by decide) (lw_c10 hc0 hi hl hLs hP hD hS next)
        · exact lv_tableIn (tgt := 427) hx hb dl_32 (by decide) (by decide) (off := 395) rfl (by decide) (lw_c11 hc0 hi hl hLs hP hD hS next)
        · exact lv_tableIn (tgt := 460) hx hb dl_32 (by decide) (by decide) (off := 428) rfl (by decide) (lw_c12 hc0 hi hl hLs hP hD hS next)
        · exact lv_tableIn (tgt := 493) hx hb dl_32 (by decide) (by decide) (off := 461) rfl (by decide) (lw_c13 hc0 hi hl hLs hP hD hS next)
        · exact lv_tableIn (tgt := 526) hx hb dl_32 (by decide) (by decide) (off := 494) rfl (by decide) (lw_c14 hc0 hi hl hLs hP hD hS next)
        · exact lv_tableIn (tgt := 549) hx hb dl_32 (by decide) (by decide) (off := 517) rfl (by decide) (lw_c15 hc0 hi hl hLs hP hD hS next)
        · exact lv_tableIn (tgt := 562) hx hb dl_32 (by decide) (by decide) (off := 530) rfl (by decide) (lw_c16 hc0 hi hl hLs hP hD hS next)
        · exact lv_tableIn (tgt := 585) hx hb dl_32 (by decide) (by decide) (off := 553) rfl (by decide) (lw_c17 hc0 hi hl hLs hP hD hS next)
        · exact lv_tableIn (tgt := 618) hx hb dl_32 (by decide) (by decide) (off := 586) rfl (by decide) (lw_c18 hc0 hi hl hLs hP hD hS next)
        · exact lv_tableIn (tgt := 651) hx hb dl_32 (by decide) (by decide) (off := 619) rfl (by decide) (lw_c19 hc0 hi hl hLs hP hD hS next)
        · exact lv_tableIn (tgt := 674) hx hb dl_32 (by decide) (by decide) (off := 642) rfl (by decide) (lw_c20 hc0 hi hl hLs hP hD hS next)
        · exact lv_tableIn (tgt := 707) hx hb dl_32 (by decide) (by decide) (off := 675) rfl (by decide) (lw_c21 hc0 hi hl hLs hP hD hS next)
        · exact lv_tableIn (tgt := 730) hx hb dl_32 (by decide) (by decide) (off := 698) rfl (by decide) (lw_c22 hc0 hi hl hLs hP hD hS next)
        · exact lv_tableIn (tgt := 743) hx hb dl_32 (by decide) (by decide) (off := 711) rfl (by decide) (lw_c23 hc0 hi hl hLs hP hD hS next)
        · exact lv_tableIn (tgt := 756) hx hb dl_32 (by decide) (by decide) (off := 724) rfl (by decide) (lw_c24 hc0 hi hl hLs hP hD hS next)
      · exact lv_tableOut (tgt := 769) hx hb dl_32 (by rw [hji]; omega) (by decide) (next hc hm H locs hLs hP hD hS)
theorem lw_K {s : State} {b : Nat} {Ts : List Cond} (hts : ∀ w ∈ Ts, w.before #[Value.ref b] s = true) (ha : Cond.arrayClass .int ∈ Ts) (hC : ∀ w ∈ u_ws R_C T_C 7, w ∈ Ts) (hM : ∀ w ∈ u_ws R_M T_M 13, w ∈ Ts) (iC : Cond.instantiable R_C 7 ∈ Ts) (iM : Cond.instantiable R_M 13 ∈ Ts) : ∃ (D : va_G) (cA : ClassId), va_K D cls [(cA, .int)] s := by
  obtain ⟨c0, iS0, hKn0⟩ := u_known (C := R_C) (T := T_C) (N := 7) (n := 7) hts hC (hts _ iC)
  obtain ⟨c1, iS1, hKn1⟩ := u_known (C := R_M) (T := T_M) (N := 13) (n := 13) hts hM (hts _ iM)
  obtain ⟨cA, kA, comp, h1, h2, h3⟩ := Cond.arrayClass_spec (hts _ ha)
  refine ⟨(fun k => if k = 0 then c0 else c1, fun k => if k = 0 then iS0 else iS1), cA, fun k q hq => ?_, fun k q hq => ?_⟩
  · match k, hq with
    | 0, hq => cases hq; exact hKn0
    | 1, hq => cases hq; exact hKn1
    | k + 2, hq => simp [cls] at hq
  · match k, hq with
    | 0, hq =>
      cases hq
      exact ⟨fun n z => ⟨fun k h => (by cases h), kA, h2, comp, h3⟩, h1⟩
    | k + 1, hq => simp at hq
theorem lw_words : (Cond.arrayClass .int ∈ TB ∧ Cond.instantiable R_C 7 ∈ TB ∧ Cond.instantiable R_M 13 ∈ TB) ∧ (Cond.classLink "DegreeCoresLaw" 7 R_C ∈ TB ∧ Cond.classLink "DegreeCoresLaw" 10 R_M ∈ TB ∧ Cond.initialized R_C ∈ TB ∧ Cond.initialized R_M ∈ TB) ∧ (Cond.methodLink R_C 1 objectInit ∈ TB ∧ Cond.methodLink R_M 1 objectInit ∈ TB ∧ Cond.instanceMethod objectInit ∈ TB ∧ Cond.code objectInit ⟨#[0xb1]⟩ 1 none ∈ TB) := by decide +kernel
set_option maxHeartbeats 4000000 in
/-- from the entry, for any words that hold what is wanted -/
theorem lw_begin {p : Program} {l : Launch} {e : Env} {s : State} {m : MethodId} {below : List Frame} {meth : Method} {c : Code} {b L : Nat} {xs : Nat → Int32} {Ts : List Cond} {D : va_G} {cA : ClassId} {Q : State → Prop} (hc0 : lwC p s m meth c b L xs Ts D cA) (hgood : ∀ w ∈ Ts, ((w.onTables && w.keeps) = true ∨ ∃ ty, w = .arrayClass ty))
    (k1 : Cond.arrayClass .int ∈ Ts ∧ Cond.instantiable R_C 7 ∈ Ts ∧ Cond.instantiable R_M 13 ∈ Ts) (k2 : Cond.classLink "DegreeCoresLaw" 7 R_C ∈ Ts ∧ Cond.classLink "DegreeCoresLaw" 10 R_M ∈ Ts ∧ Cond.initialized R_C ∈ Ts ∧ Cond.initialized R_M ∈ Ts) (k3 : Cond.methodLink R_C 1 objectInit ∈ Ts ∧ Cond.methodLink R_M 1 objectInit ∈ Ts ∧ Cond.instanceMethod objectInit ∈ Ts ∧ Cond.code objectInit ⟨#[0xb1]⟩ 1 none ∈ Ts)
    (inC : ∀ w ∈ u_ws R_C T_C 7, w ∈ Ts) (inM : ∀ w ∈ u_ws R_M T_M 13, w ∈ Ts) (flC : ∀ q ∈ f_C, q.2 < 7 ∧ Cond.fieldLink R_C q.1 (T_C q.2).1 (T_C q.2).2.1 (T_C q.2).2.2.1 ∈ Ts) (flM : ∀ q ∈ f_M, q.2 < 13 ∧ Cond.fieldLink R_M q.1 (T_M q.2).1 (T_M q.2).2.1 (T_M q.2).2.2.1 ∈ Ts)
    (wC : ∀ w ∈ ([.methodLink "DegreeCoresLaw" 9 y_C_init, .instanceMethod y_C_init, .initialized R_C, Cond.code y_C_init b_C_init 1 none] : List Cond), w ∈ Ts) (wM : ∀ w ∈ ([.methodLink "DegreeCoresLaw" 12 y_M_init, .instanceMethod y_M_init, .initialized R_M, Cond.code y_M_init b_M_init 1 none] : List Cond), w ∈ Ts)
    (kk : ∀ (adC adM : Nat → Nat) (H : Heap) (locs : List Loc) (ls : Array Slot), lv_has ls 4 [(0, .ref b), (1, .ref (adC 0)), (2, .ref (adM 0)), (3, .int (nI 0))] → va_P D cls (m_w 0 cA adC freshC ++ m_w 1 cA adM freshM) H → va_D (fun q => s.heap.size ≤ q) (m_w 0 cA adC freshC ++ m_w 1 cA adM freshM) → va_S (fun q => s.heap.size ≤ q) s.heap H locs → W p l e room_1 s m #[Value.ref b] below meth c H locs 13 4236 Q (F0 m 18 ls [])) :
    W p l e room_1 s m #[Value.ref b] below meth c s.heap [] 0 0 Q (entryFrame m ([Value.ref b] : List Value).toArray 4) := by
  obtain ⟨hx, hb, hr, hml, hown, hts, hX, hbl, hlk, hK, hL⟩ := id hc0
  have hA : ∀ q : Nat, s.heap.size ≤ q → (fun q : Nat => s.heap.size ≤ q) q := fun _ h => h
  have hS : va_S (fun q : Nat => s.heap.size ≤ q) s.heap s.heap [] := va_S.rf
  have hP : va_P D cls [] s.heap := fun k q h => by simp at h
  have hD : va_D (fun q : Nat => s.heap.size ≤ q) [] := ⟨fun i j p q h => by simp at h, fun k q h => by simp at h⟩
  have gi : ∀ {y : MethodName} {bytes : ByteArray}, Cond.code y bytes 1 none ∈ Ts → GoodIn Ts (Cond.code y bytes 1 none :: Ts) := fun {y bytes} hy w hw => by
    rcases List.mem_cons.mp hw with h | h
    · rw [h]; exact ⟨hy, hgood _ hy⟩
    · exact ⟨h, hgood _ h⟩
  have hl := lv_entry ([.ref b]) (n := 4) (Nat.le_of_ble_eq_true rfl)
  rw [lg_entry_eq]
  generalize (lg_sl ([.ref b]) ++ List.replicate (4 - (lg_sl ([.ref b])).length) Slot.unset).toArray = ls at hl ⊢
  have hl : lv_has ls 4 [(0, .ref b)] := hl
  refine va_new (ci := 0) (fs := fs_C) (C := R_C) (T := T_C) (N := 7) hx hb hts inC ty_C ty_C_ok hown (hts _ k2.1) (hts _ k1.2.1) (hts _ k2.2.2.1) hK hP hD hS hA rfl (fun j hj => by rcases (show j = 0 ∨ j = 1 ∨ j = 2 ∨ j = 3 ∨ j = 4 ∨ j = 5 ∨ j = 6 by omega) with rfl | rfl | rfl | rfl | rfl | rfl | rfl <;> rfl) (Nat.le_of_ble_eq_true rfl) (Nat.le_of_ble_eq_true rfl) dl_0 (fun q0 H hP hD hS => ?_)
  have hP : va_P D cls [(q0, .inr (0, fs_C))] H := hP
  have hD : va_D (fun q : Nat => s.heap.size ≤ q) [(q0, .inr (0, fs_C))] := hD
  refine W.widen (k := 1) (n := 7) (by omega) (by omega) ?_
  refine lv_dup hx hb dl_3 rfl ?_
  have hFc := va_free (wc := [(q0, .inr (0, fs_C))]) hD hS hA [0] rfl
  refine va_callv (va_runI (As := []) (rest := [.ref q0]) ⟨hx, hb, hml, hown, hts⟩ (c_C_init k3.1 k3.2.2.1 k3.2.2.2 k1.1 inC flC l D cA q0 H.size) (cwI 0 hts (gi (wC _ (by simp))) rfl rfl rfl (hts _ k2.2.2.1) (hts _ (wC _ (by simp))) (hts _ (wC _ (by simp))) rfl (by decide +kernel) ⟨Nat.le_of_ble_eq_true rfl, Nat.le_of_ble_eq_true rfl⟩) ⟨fun a U g mk q => by obtain ⟨q0, q1, qP, qK, qD⟩ := q; exact ⟨q0, q1, qP, va_K.moved (u := U) (U := U.calling g mk a) (Vm.Alike.refl U.vm) qK, qD⟩, fun U hU hW => ⟨rfl, by rw [hU], by rw [hU]; exact hP, va_K.moved hW.alike hK, hD.weaken (fun _ _ _ _ => trivial)⟩⟩ rfl rfl hl.1 rfl (lv_room (Nat.le_of_ble_eq_true rfl)) dl_4 ⟨Nat.le_of_ble_eq_true rfl, Nat.le_of_ble_eq_true rfl⟩) hS (fun q _ h => hFc q h) hFc (fun adC t H1 locs ht hvm hw hB hz1 hk1 hS => ?_)
  obtain ⟨hP1, hK1, hD1⟩ := hB
  rw [ht] at hP1
  have hw : adC 0 = q0 := hw
  subst hw
  have hD1 := hD1.weaken (B := fun q : Nat => s.heap.size ≤ q) (fun _ q _ h => hFc q.1 h)
  refine W.widen (k := 6) (n := 67) (by omega) (by omega) ?_
  refine lv_astore_n (lv' := [(1, .ref (adC 0)), (0, .ref b)]) hx hb dl_7 rfl hl (by decide) rfl (fun ls hl => ?_)
  refine va_new (ci := 1) (fs := fs_M) (C := R_M) (T := T_M) (N := 13) hx hb hts inM ty_M ty_M_ok hown (hts _ k2.2.1) (hts _ k1.2.2) (hts _ k2.2.2.2) hK hP1 hD1 hS hA rfl (fun j hj => by rcases (show j = 0 ∨ j = 1 ∨ j = 2 ∨ j = 3 ∨ j = 4 ∨ j = 5 ∨ j = 6 ∨ j = 7 ∨ j = 8 ∨ j = 9 ∨ j = 10 ∨ j = 11 ∨ j = 12 by omega) with rfl | rfl | rfl | rfl | rfl | rfl | rfl | rfl | rfl | rfl | rfl | rfl | rfl <;> rfl) (Nat.le_of_ble_eq_true rfl) (Nat.le_of_ble_eq_true rfl) dl_8 (fun q1 H hP hD hS => ?_)
  refine W.widen (k := 7) (n := 80) (by omega) (by omega) ?_
  refine lv_dup hx hb dl_11 rfl ?_
  have hPm : va_P D cls [(q1, .inr (1, fs_M))] H := fun k q h => hP ((m_w 0 cA adC freshC).length + k) q (by rw [List.getElem?_append_right (by omega), show (m_w 0 cA adC freshC).length + k - (m_w 0 cA adC freshC).length = k by omega]; exact h)
  have hDm : va_D (fun q : Nat => s.heap.size ≤ q) [(q1, .inr (1, fs_M))] := ⟨fun i j p q h1 h2 _ => by
    have a := (List.getElem?_eq_some_iff.mp h1).1
    have b := (List.getElem?_eq_some_iff.mp h2).1
    simp at a b
    omega, fun k q h => hD.2 ((m_w 0 cA adC freshC).length + k) q (by rw [List.getElem?_append_right (by omega), show (m_w 0 cA adC freshC).length + k - (m_w 0 cA adC freshC).length = k by omega]; exact h)⟩
  have hFm := va_free (wc := [(q1, .inr (1, fs_M))]) hDm hS hA [0] rfl
  refine va_callv (va_runI (As := []) (rest := [.ref q1]) ⟨hx, hb, hml, hown, hts⟩ (c_M_init k3.2.1 k3.2.2.1 k3.2.2.2 k1.1 inM flM l D cA q1 H.size) (cwI 0 hts (gi (wM _ (by simp))) rfl rfl rfl (hts _ k2.2.2.2) (hts _ (wM _ (by simp))) (hts _ (wM _ (by simp))) rfl (by decide +kernel) ⟨Nat.le_of_ble_eq_true rfl, Nat.le_of_ble_eq_true rfl⟩) ⟨fun a U g mk q => by obtain ⟨q0, q1, qP, qK, qD⟩ := q; exact ⟨q0, q1, qP, va_K.moved (u := U) (U := U.calling g mk a) (Vm.Alike.refl U.vm) qK, qD⟩, fun U hU hW => ⟨rfl, by rw [hU], by rw [hU]; exact hPm, va_K.moved hW.alike hK, hDm.weaken (fun _ _ _ _ => trivial)⟩⟩ rfl rfl hl.1 rfl (lv_room (Nat.le_of_ble_eq_true rfl)) dl_12 ⟨Nat.le_of_ble_eq_true rfl, Nat.le_of_ble_eq_true rfl⟩) hS (fun q _ h => hFm q h) hFm (fun adM t H2 locs ht2 hvm2 hw2 hB2 hz2 hk2 hS => ?_)
  obtain ⟨hP2, hK2, hD2⟩ := hB2
  rw [ht2] at hP2
  have hw2 : adM 0 = q1 := hw2
  subst hw2
  obtain ⟨hPj, hDj⟩ := lw_join (pre := m_w 0 cA adC freshC) (w1 := [(adM 0, .inr (1, fs_M))]) (post := []) (by rw [List.append_nil]; exact hP) (by rw [List.append_nil]; exact hD) hk2 hFm hP2 hD2
  rw [List.append_nil] at hPj hDj
  refine W.widen (k := 13) (n := 4236) (by omega) (by omega) ?_
  refine lv_astore_n (lv' := [(2, .ref (adM 0)), (1, .ref (adC 0)), (0, .ref b)]) hx hb dl_15 rfl hl (by decide) rfl (fun ls hl => ?_)
  refine lv_iconst (v := 0) hx hb dl_16 (by decide) ?_
  refine lv_istore_n (lv' := [(3, .int 0), (2, .ref (adM 0)), (1, .ref (adC 0)), (0, .ref b)]) hx hb dl_17 rfl hl (by decide) rfl (fun ls hl => ?_)
  exact kk adC adM H2 locs ls (lv_sub hl [3, 2, 1, 0] rfl) hPj hDj hS
theorem whole_start {p : Program} {e : Env} {s : State} {m : MethodId} {below : List Frame} {meth : Method} {c : Code} (l : Launch) {b L : Nat} {xs : Nat → Int32} (hL : L ≤ 2048) (C0 : lw_At p s m meth c b L xs) : W p l e room_1 s m #[Value.ref b] below meth c s.heap [] 0 0 (lw_Z below #[Value.ref b] s) (entryFrame m ([Value.ref b] : List Value).toArray 4) := by
  obtain ⟨hx, hb, hr, hml, hown, hts, hX, hbl, hlk, hgv⟩ := C0
  have hts2 : ∀ w ∈ TB, w.before #[Value.ref b] s = true := fun w hw => hts w (tb_in w hw)
  obtain ⟨k1, k2, k3⟩ := lw_words
  obtain ⟨D, cA, hK⟩ := lw_K hts2 k1.1 in_C in_M k1.2.1 k1.2.2
  have hc0 : lwC p s m meth c b L xs TB D cA := ⟨hx, hb, hr, hml, hown, hts2, hX, hbl, hlk, hK, hL⟩
  exact lw_begin hc0 tb_good k1 k2 k3 in_C in_M fl_C fl_M w_L9 w_L12 (fun adC adM H locs ls hl hP hD hS => lw_loop hc0 2052 0 (by omega) (by omega) H locs ls freshC freshM hl Lsm_0 hP hD hS)
set_option maxHeartbeats 4000000 in
theorem lw_walk (l : Launch) (b : Addr) (xs : List Int32) : MetFree l x (headSpec (Jvm.Cond.code x code maxLocals ret :: tables_1) room_1) (lw_P b xs) (fun _ _ _ _ _ => True) lw_Q := by
  refine MetFree.of_bodyS (code := code) (maxLocals := maxLocals) (ret := ret) (by decide) ?_ ?_
  · intro args s m h hn
    obtain ⟨meth, c, h1, h2, h3, h4, h5, h6, -, -⟩ := Cond.code_spec hn (atoms_spec (ws := Jvm.Cond.code x code maxLocals ret :: tables_1) h _ List.mem_cons_self)
    exact ⟨meth, c, h1, h2, h3, h4, h5, h6⟩
  · intro p e s m args below meth c s₁ B hml0 hP _
    obtain ⟨rfl, hx, hbd, hgv⟩ := hP
    obtain ⟨scr, harrAt, hlist, hof, hsmall⟩ := hx
    obtain ⟨hcb, hkn, -, -⟩ := State.arrayAt?_spec harrAt
    have hown : s.vm.findClass R_law = some m.cls := findClass_of_methodNamed B.named
    have hts0 : ∀ c ∈ (Jvm.Cond.code x code maxLocals ret :: tables_1), c.before #[Value.ref b] s = true := atoms_spec (ws := Jvm.Cond.code x code maxLocals ret :: tables_1) B.pre
    have hts : ∀ w ∈ lw_tbl, w.before #[Value.ref b] s = true := k2_hts_sels lw_privs (fun w hw => hts0 w (List.mem_cons_of_mem _ hw)) lw_privs_ok
    have hml : c.maxLocals = 4 := B.maxLocals_eq (hts0 _ List.mem_cons_self)
    have X₀ : Stand p l e room_1 s m #[Value.ref b] below meth c s₁ [] 0 0 := Stand.of_body B
    have hh0 : s₁.heap = s.heap := by rw [B.state]; rfl
    have hsz : scr.slots.size = xs.length := by rw [← Array.length_toList, hlist, List.length_map]
    have hval : ∀ j : Nat, j < xs.length → scr.slots[j]? = some (.int (xs.getD j 0)) := fun j hj => by
      rw [← Array.getElem?_toList, hlist]
      simp [hj]
    have hbl : b < s.heap.size := (Array.getElem?_eq_some_iff.mp hcb).1
    have hX : va_X b xs.length (fun j => xs.getD j 0) s s.heap := ⟨scr, hcb, hof, hkn, hsz, hval⟩
    have K : W p l e room_1 s m #[Value.ref b] below meth c s₁.heap [] 0 0 (lw_Z below #[Value.ref b] s) (entryFrame m ([Value.ref b] : List Value).toArray 4) := by
      rw [hh0]
      exact whole_start l hbd ⟨B.exec, B.bytes, B.returns, hml, hown, hts, hX, hbl, B.notSynchronized, hgv⟩
    obtain ⟨t, a1, o, b1, b2, b3⟩ := K s₁ rfl X₀
    exact ⟨t, o, a1, b1, b2, b3⟩
theorem lw_pre_spec {args : Array Value} {s : State} (h : (Jvm.Cond.and given_1 narrow_1).before args s = true) (hr : rest_1_c.before args s = true) : ∃ (b : Addr) (xs : List Int32), lw_P b xs args s := by
  have hs := flat_of_before _ h
  have hq := flat_of_before _ hr
  have hc : (Cond.count 1).before args s = true := hs _ (by decide +kernel)
  have harr : (Cond.arrayOf (.arg 0) .int).before args s = true := hs _ (by decide +kernel)
  have hle : (Cond.le (.length (.arg 0)) (.int 2048)).before args s = true := hs _ (by decide +kernel)
  have hlen : (Cond.isInt (.length (.arg 0))).before args s = true := hq _ (by decide +kernel)
  have hall : (Cond.all (.arg 0) (.isInt (.elem (.arg 0) (.index 0)))).before args s = true := hq _ (by decide +kernel)
  obtain ⟨b, xs, hb, hx⟩ := State.ints_of_pre rfl harr hlen hall
  have hsm : xs.length < 2 ^ 31 := hx.choose_spec.2.2.2
  have hev : (Term.length (.arg 0)).eval args s none [] s = some (.int xs.length.toInt32) := hx.length_eval hb
  have hv := Cond.le_ints hev (show (Term.int 2048).eval args s none [] s = some (.int 2048) from rfl)
  have hd : xs.length.toInt32 ≤ 2048 := by
    simpa [Cond.before, Cond.holds, hv] using hle
  have hN : xs.length ≤ 2048 := (Int32.ofNat_le_ofNat hsm (by decide)).mp (show Int32.ofNat xs.length ≤ Int32.ofNat 2048 from hd)
  exact ⟨b, xs, Cond.one_arg hc (show args[0]? = some (.ref b) from hb), hx, hN, h⟩
theorem lw_comes (l : Launch) : Comes l x (Jvm.Cond.code x code maxLocals ret :: tables_1) room_1 (fun tb e args s => Calls_1 tb e args s ∧ rest_1 tb e args s ∧ Pre_1 tb e args s)
    (fun _ _ args s o t => lw_Q args s o t) := by
  intro p e ha hc hk s m args below hf hfit hheap happ hpre
  obtain ⟨b, xs, hP⟩ := lw_pre_spec hpre.2.2 hpre.2.1
  obtain ⟨k, o, h1, h2, h3, hQ⟩ := lw_walk l b xs p e ha hc hk s m args below hf ((Spec.applies_iff_loose hf).mp happ).1 hP trivial
  exact ⟨k, o, h1, h2, h3, hQ⟩
theorem lw_frame {s t : State} {o : Outcome} {args : Array Value} (h : Framed s o t [] 13 4236) :
    Framed s o t (fieldLocs frame_1_writes args s ++ arrayLocs frame_1_arrays args s ++ staticLocs frame_1_statics s) 13 4236 := h
theorem lw_limb (L : Cond) (hL : ∀ (args : Array Value) (s t : State), L.after args s (.returned (some (.int 1))) t = true) :
    ArmFor flags0 classFile x code maxLocals ret World_1 tables_1 room_1 Calls_1 rest_1 Pre_1
      (fun tb e a s o t => postC L tb e a s o t ∧ Framed s o t (fieldLocs frame_1_writes a s ++ arrayLocs frame_1_arrays a s ++ staticLocs frame_1_statics s) 13 4236) := by
  intro l _ _ _ p e ha hc hk s m args below hf hfit hheap happ hpre
  obtain ⟨k, o, h1, h2, h3, rfl, hF⟩ := lw_comes l p e ha hc hk s m args below hf hfit hheap happ hpre
  exact ⟨k, _, h1, h2, h3, hL args s _, lw_frame hF⟩
theorem i_vc : Claimed_1_1 ∧ Claimed_1_2 := ⟨lw_limb limb_1_1 (fun args s t => by simp [limb_1_1, Cond.after, Cond.holds, Cond.value]), lw_limb limb_1_2 (fun args s t => Cond.after_iff.mpr (by
  first | (rw [show limb_1_2 = Cond.eq .result (.int 1) from rfl, Cond.eq_ints (x := 1) (y := 1) rfl rfl]; simp; done) | (simp [limb_1_2, Cond.value, Term.eval]; done)))⟩

