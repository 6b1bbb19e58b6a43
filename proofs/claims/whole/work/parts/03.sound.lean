/-! the small machine is the machine: one step, then a walk, then a method's contract -/
section MS
variable {p : Program} {l : Launch} {e : Env} {R : Room} {s : State} {m : MethodId} {args : Array Value} {below : List Frame} {meth : Method} {c : Code} {cc : ByteArray} {nL : Nat} {Q : State → Prop}
variable {D : va_G} {cl : List vw_C} {cA : ClassId} {ci : Nat} {ad : Nat → Nat} {A : Nat → Prop} {H0 : Heap}
/-- the machine at a point of the small machine -/
def m_W (p : Program) (l : Launch) (e : Env) (R : Room) (s : State) (m : MethodId) (args : Array Value) (below : List Frame) (meth : Method) (c : Code) (nL : Nat) (Q : State → Prop) (D : va_G) (cl : List vw_C) (cA : ClassId) (ci : Nat) (ad : Nat → Nat) (A : Nat → Prop) (H0 : Heap) (g : mG) : Prop :=
  g.2.1.length = nL → ∀ (H : Heap) (locs : List Loc) (ls : Array Slot), va_P D cl (m_w ci cA ad g.2.2.2) H → va_D A (m_w ci cA ad g.2.2.2) → va_S A H0 H locs → lv_has ls nL (m_lv ad 0 g.2.1) → W p l e R s m args below meth c H locs 0 0 Q (F0 m g.1 ls (g.2.2.1.map (m_v ad)))
/-- a call at pool number idx does what T says -/
def m_OK (D : va_G) (cl : List vw_C) (cA : ClassId) (ci : Nat) (ad : Nat → Nat) (Ts : List Cond) (l : Launch) (own : String) (R : Room) (idx : Nat) (st : Bool) (na : Nat) (T : mT) : Prop :=
  ∀ (p : Program) (e : Env) (s : State) (m : MethodId) (args : Array Value) (below : List Frame) (meth : Method) (c : Code) (cc : ByteArray) (nL : Nat) (Q : State → Prop) (A : Nat → Prop) (H0 : Heap), CallFix p m c cc nL s args Ts own → va_K D cl [(cA, .int)] s → (∀ q, H0.size ≤ q → A q) →
  ∀ (pc : Nat) (ls : Array Slot) (rest as : List mV) (h : mH) (k : Option Int32 → mH → Prop) (H : Heap) (locs : List Loc), T as h k → as.length = na → decode cc pc = .ok (bif st then .invokestatic idx else .invokevirtual idx, 3) → ls.size = nL → rest.length ≤ 8 → va_P D cl (m_w ci cA ad h) H → va_D A (m_w ci cA ad h) → va_S A H0 H locs →
  (∀ (r : Option Int32) (h' : mH) (H1 : Heap) (locs1 : List Loc), k r h' → va_P D cl (m_w ci cA ad h') H1 → va_D A (m_w ci cA ad h') → va_S A H0 H1 locs1 → W p l e R s m args below meth c H1 locs1 0 0 Q (F0 m (pc + 3) ls ((m_ps r rest).map (m_v ad)))) →
  W p l e R s m args below meth c H locs 0 0 Q (F0 m pc ls ((as.reverse ++ rest).map (m_v ad)))
/-- what holds of the method's own tables -/
def m_Tb (s : State) (args : Array Value) (cl : List vw_C) (ci : Nat) (Ts : List Cond) (own C : String) (T : u_T) (N : Nat) (fld : List (Nat × Nat)) (fpt : List (Nat × Nat × Bool)) (kon : List (Nat × Int32)) : Prop :=
  cl[ci]? = some (C, T, N) ∧ (∀ w ∈ u_ws C T N, w ∈ Ts) ∧ (∀ a, a < N → ∀ b, b < N → a ≠ b → (T a).2.1 ≠ (T b).2.1) ∧ (∃ ty0 : Nat → FieldType, ∀ k, k < N → parseFieldDescriptor (T k).2.2.1 = some (ty0 k)) ∧
  (∀ q ∈ fld, q.2 < N ∧ (Cond.fieldLink own q.1 (T q.2).1 (T q.2).2.1 (T q.2).2.2.1).before args s = true) ∧
  (∀ q ∈ fpt, q.2.1 < N ∧ (Cond.fieldLink own q.1 (T q.2.1).1 (T q.2.1).2.1 (T q.2.1).2.2.1).before args s = true ∧ (T q.2.1).2.2.2 = false ∧ parseFieldDescriptor (T q.2.1).2.2.1 = some (bif q.2.2 then .boolean else .int)) ∧
  (∀ q ∈ kon, (Jvm.Cond.constant own q.1 q.2).before args s = true)
theorem m_fit1 {v : Int32} (h : v = 0 ∨ v = 1) : narrow .boolean (.int v) = .int v ∧ fits .boolean (.int v) = true := by
  rcases h with rfl | rfl <;> decide +kernel
theorem m_sum (ad : Nat → Nat) (rest : List mV) : ((rest.map (m_v ad)).map fun v => v.category).sum = rest.length := by
  induction rest with
  | nil => rfl
  | cons v t ih =>
    simp only [List.map_cons, List.sum_cons, List.length_cons, m_cat]
    rw [ih]
    omega
set_option maxHeartbeats 4000000 in
theorem m_step {fld : List (Nat × Nat)} {fpt : List (Nat × Nat × Bool)} {kon : List (Nat × Int32)} {call : List (Nat × Bool × Nat × mT)} {rb : Nat} {Rr : Option Int32 → mH → Prop} {Ts : List Cond} {own C : String} {T : u_T} {N : Nat}
    (S0 : CallFix p m c cc nL s args Ts own) (hK : va_K D cl [(cA, .int)] s) (hA : ∀ q, H0.size ≤ q → A q) (hTb : m_Tb s args cl ci Ts own C T N fld fpt kon)
    (hcall : ∀ (x : Nat) (st : Bool) (na : Nat) (T : mT), m_lk call x = some (st, na, T) → m_OK D cl cA ci ad Ts l own R x st na T)
    (hR : ∀ (r : Option Int32) (h : mH) (pc : Nat) (ls : Array Slot) (H : Heap) (locs : List Loc), Rr r h → (∀ v, r = some v → (rb = 0 ∨ rb = 1 ∧ (v = 0 ∨ v = 1)) ∧ decode cc pc = .ok (.ireturn, 1)) → (r = none → rb = 2 ∧ decode cc pc = .ok (.return_, 1)) → va_P D cl (m_w ci cA ad h) H → va_D A (m_w ci cA ad h) → va_S A H0 H locs → W p l e R s m args below meth c H locs 0 0 Q (F0 m pc ls ((m_ps r []).map (m_v ad))))
    {pc nx tg : Nat} {cv : Int32} {hd : Bool} {i : Jvm.ClassFile.Instr} (hi : m_ok cc nL (pc, i, nx, tg, cv, hd) = true)
    {L : mL} {S : List mV} {h : mH} {K : Nat → mL → List mV → mH → Prop} (hs : m_st fld fpt kon call rb Rr i nx tg cv L S h K)
    (hk : ∀ pc' L' S' h', K pc' L' S' h' → m_W p l e R s m args below meth c nL Q D cl cA ci ad A H0 (pc', L', S', h')) : m_W p l e R s m args below meth c nL Q D cl cA ci ad A H0 (pc, L, S, h) := by
  obtain ⟨hx, hb, hml, hown, hts⟩ := id S0
  obtain ⟨hc, hin, hnm, ⟨ty0, hty⟩, hfl, hfp, hkn⟩ := hTb
  unfold m_ok at hi
  rw [Bool.and_eq_true, Bool.and_eq_true, decide_eq_true_eq, decide_eq_true_eq] at hi
  obtain ⟨hdg, hnx, hsd⟩ := hi
  dsimp only at hdg hnx hsd
  subst hnx
  intro hL H locs ls hP hD hS hl
  dsimp only at hL hP hD hl ⊢
  unfold m_st at hs
  split at hs
  · exact lv_iconst hx hb hdg (of_decide_eq_true hsd) (hk _ _ _ _ hs hL _ _ _ hP hD hS hl)
  · exact lv_bipush hx hb hdg (of_decide_eq_true hsd) (hk _ _ _ _ hs hL _ _ _ hP hD hS hl)
  · exact lv_sipush hx hb hdg (of_decide_eq_true hsd) (hk _ _ _ _ hs hL _ _ _ hP hD hS hl)
  · split at hs
    · rename_i x _ v hv
      exact lv_ldc hx hb hown (hkn _ (m_lk_mem hv)) hdg (hk _ _ _ _ hs hL _ _ _ hP hD hS hl)
    · exact hs.elim
  · split at hs
    · rename_i x _ v hv
      exact lv_ldcw hx hb hown (hkn _ (m_lk_mem hv)) hdg (hk _ _ _ _ hs hL _ _ _ hP hD hS hl)
    · exact hs.elim
  · split at hs
    · rename_i j _ x hv
      exact lv_iload_n hx hb hdg rfl (m_has hl hv) (hk _ _ _ _ hs hL _ _ _ hP hD hS hl)
    · exact hs.elim
  · split at hs
    · rename_i j _ x hv
      exact lv_iload hx hb hdg (m_has hl hv) (hk _ _ _ _ hs hL _ _ _ hP hD hS hl)
    · exact hs.elim
  · split at hs
    · rename_i j _ x hv
      exact lv_aload_n hx hb hdg rfl (m_has hl hv) (hk _ _ _ _ hs hL _ _ _ hP hD hS hl)
    · exact hs.elim
  · split at hs
    · rename_i j _ x hv
      exact lv_aload hx hb hdg (m_has hl hv) (hk _ _ _ _ hs hL _ _ _ hP hD hS hl)
    · exact hs.elim
  · split at hs
    · exact lv_istore_n hx hb hdg rfl hl (of_decide_eq_true hsd) rfl (fun ls' hl' => hk _ _ _ _ hs (by dsimp only; rw [List.length_set]; exact hL) _ _ _ hP hD hS (m_lvset rfl hl'))
    · exact hs.elim
  · split at hs
    · exact lv_istore hx hb hdg hl (of_decide_eq_true hsd) rfl (fun ls' hl' => hk _ _ _ _ hs (by dsimp only; rw [List.length_set]; exact hL) _ _ _ hP hD hS (m_lvset rfl hl'))
    · exact hs.elim
  · split at hs
    · rename_i j _ _ x hv
      have h1 := Bool.and_eq_true_iff.mp hsd
      obtain ⟨kk, hkk⟩ := List.getElem?_of_mem (m_lv_mem (ad := ad) (q := (j, .int x)) (i := 0) |>.mpr ⟨j, .inl x, (Nat.zero_add j).symm, hv, rfl⟩)
      exact lv_iinc hx hb hdg hl hkk (by rw [of_decide_eq_true h1.1]) (of_decide_eq_true h1.2) rfl (fun ls' hl' => hk _ _ _ _ (hs _ rfl) (by dsimp only; rw [List.length_set]; exact hL) _ _ _ hP hD hS (m_lvset rfl hl'))
    · exact hs.elim
  · split at hs
    · exact lv_iadd hx hb hdg (hk _ _ _ _ (hs _ rfl) hL _ _ _ hP hD hS hl)
    · exact hs.elim
  · split at hs
    · exact lv_isub hx hb hdg (hk _ _ _ _ (hs _ rfl) hL _ _ _ hP hD hS hl)
    · exact hs.elim
  · split at hs
    · exact lv_imul hx hb hdg (hk _ _ _ _ (hs _ rfl) hL _ _ _ hP hD hS hl)
    · exact hs.elim
  · split at hs
    · exact lv_iand hx hb hdg (hk _ _ _ _ (hs _ rfl) hL _ _ _ hP hD hS hl)
    · exact hs.elim
  · split at hs
    · exact lv_ior hx hb hdg (hk _ _ _ _ (hs _ rfl) hL _ _ _ hP hD hS hl)
    · exact hs.elim
  · split at hs
    · exact lv_ixor hx hb hdg (hk _ _ _ _ (hs _ rfl) hL _ _ _ hP hD hS hl)
    · exact hs.elim
  · split at hs
    · exact lv_ishl hx hb hdg (hk _ _ _ _ (hs _ rfl) hL _ _ _ hP hD hS hl)
    · exact hs.elim
  · split at hs
    · exact lv_ishr hx hb hdg (hk _ _ _ _ (hs _ rfl) hL _ _ _ hP hD hS hl)
    · exact hs.elim
  · split at hs
    · exact lv_iushr hx hb hdg rfl (hk _ _ _ _ (hs _ rfl) hL _ _ _ hP hD hS hl)
    · exact hs.elim
  · split at hs
    · exact lv_ineg hx hb hdg (hk _ _ _ _ (hs _ rfl) hL _ _ _ hP hD hS hl)
    · exact hs.elim
  · split at hs
    · exact lv_idiv hx hb hdg hs.1 (hk _ _ _ _ (hs.2 _ rfl) hL _ _ _ hP hD hS hl)
    · exact hs.elim
  · split at hs
    · exact lv_irem hx hb hdg hs.1 (hk _ _ _ _ (hs.2 _ rfl) hL _ _ _ hP hD hS hl)
    · exact hs.elim
  · split at hs
    · exact lv_dup hx hb hdg (m_cat ad _) (hk _ _ _ _ hs hL _ _ _ hP hD hS hl)
    · exact hs.elim
  · split at hs
    · exact lv_dup2_11 hx hb hdg (m_cat ad _) (m_cat ad _) (hk _ _ _ _ hs hL _ _ _ hP hD hS hl)
    · exact hs.elim
  · split at hs
    · exact lv_dup_x1 hx hb hdg (m_cat ad _) (m_cat ad _) (hk _ _ _ _ hs hL _ _ _ hP hD hS hl)
    · exact hs.elim
  · split at hs
    · exact lv_dup_x2 hx hb hdg (m_cat ad _) (m_cat ad _) (m_cat ad _) (hk _ _ _ _ hs hL _ _ _ hP hD hS hl)
    · exact hs.elim
  · split at hs
    · exact lv_pop hx hb hdg (m_cat ad _) (hk _ _ _ _ hs hL _ _ _ hP hD hS hl)
    · exact hs.elim
  · exact lv_goto hx hb hdg (of_decide_eq_true hsd) (hk _ _ _ _ hs hL _ _ _ hP hD hS hl)
  · split at hs
    · exact lv_if_eq hx hb hdg (of_decide_eq_true hsd) (fun z => hk _ _ _ _ (hs.1 z) hL _ _ _ hP hD hS hl) (fun z => hk _ _ _ _ (hs.2 z) hL _ _ _ hP hD hS hl)
    · exact hs.elim
  · split at hs
    · exact lv_if_ne hx hb hdg (of_decide_eq_true hsd) (fun z => hk _ _ _ _ (hs.1 z) hL _ _ _ hP hD hS hl) (fun z => hk _ _ _ _ (hs.2 z) hL _ _ _ hP hD hS hl)
    · exact hs.elim
  · split at hs
    · exact lv_if_lt hx hb hdg (of_decide_eq_true hsd) (fun z => hk _ _ _ _ (hs.1 z) hL _ _ _ hP hD hS hl) (fun z => hk _ _ _ _ (hs.2 z) hL _ _ _ hP hD hS hl)
    · exact hs.elim
  · split at hs
    · exact lv_if_ge hx hb hdg (of_decide_eq_true hsd) (fun z => hk _ _ _ _ (hs.1 z) hL _ _ _ hP hD hS hl) (fun z => hk _ _ _ _ (hs.2 z) hL _ _ _ hP hD hS hl)
    · exact hs.elim
  · split at hs
    · exact lv_if_gt hx hb hdg (of_decide_eq_true hsd) (fun z => hk _ _ _ _ (hs.1 z) hL _ _ _ hP hD hS hl) (fun z => hk _ _ _ _ (hs.2 z) hL _ _ _ hP hD hS hl)
    · exact hs.elim
  · split at hs
    · exact lv_if_le hx hb hdg (of_decide_eq_true hsd) (fun z => hk _ _ _ _ (hs.1 z) hL _ _ _ hP hD hS hl) (fun z => hk _ _ _ _ (hs.2 z) hL _ _ _ hP hD hS hl)
    · exact hs.elim
  · split at hs
    · exact lv_icmp_eq hx hb hdg (of_decide_eq_true hsd) (fun z => hk _ _ _ _ (hs.1 z) hL _ _ _ hP hD hS hl) (fun z => hk _ _ _ _ (hs.2 z) hL _ _ _ hP hD hS hl)
    · exact hs.elim
  · split at hs
    · exact lv_icmp_ne hx hb hdg (of_decide_eq_true hsd) (fun z => hk _ _ _ _ (hs.1 z) hL _ _ _ hP hD hS hl) (fun z => hk _ _ _ _ (hs.2 z) hL _ _ _ hP hD hS hl)
    · exact hs.elim
  · split at hs
    · exact lv_icmp_lt hx hb hdg (of_decide_eq_true hsd) (fun z => hk _ _ _ _ (hs.1 z) hL _ _ _ hP hD hS hl) (fun z => hk _ _ _ _ (hs.2 z) hL _ _ _ hP hD hS hl)
    · exact hs.elim
  · split at hs
    · exact lv_icmp_ge hx hb hdg (of_decide_eq_true hsd) (fun z => hk _ _ _ _ (hs.1 z) hL _ _ _ hP hD hS hl) (fun z => hk _ _ _ _ (hs.2 z) hL _ _ _ hP hD hS hl)
    · exact hs.elim
  · split at hs
    · exact lv_icmp_gt hx hb hdg (of_decide_eq_true hsd) (fun z => hk _ _ _ _ (hs.1 z) hL _ _ _ hP hD hS hl) (fun z => hk _ _ _ _ (hs.2 z) hL _ _ _ hP hD hS hl)
    · exact hs.elim
  · split at hs
    · exact lv_icmp_le hx hb hdg (of_decide_eq_true hsd) (fun z => hk _ _ _ _ (hs.1 z) hL _ _ _ hP hD hS hl) (fun z => hk _ _ _ _ (hs.2 z) hL _ _ _ hP hD hS hl)
    · exact hs.elim
  · split at hs
    · rename_i x _ j S'
      split at hs
      · rename_i fs hfs
        split at hs
        · rename_i k hfk
          split at hs
          · rename_i v hv
            obtain ⟨hkN, hlink⟩ := hfl _ (m_lk_mem hfk)
            exact va_get hx hb hts hin hown hK hP j (m_w_get hfs) hc k hkN hlink (fun _ z => z) (by rw [List.getElem?_map, ← m_at_eq, hv]; rfl) hdg (hk _ _ _ _ hs hL _ _ _ hP hD hS hl)
          · exact hs.elim
        · exact hs.elim
      · exact hs.elim
    · exact hs.elim
  · split at hs
    · rename_i x _ v j S'
      split at hs
      · rename_i fs hfs
        split at hs
        · rename_i k b hfk
          split at hs
          · rename_i v0 hv
            obtain ⟨hkN, hlink, hfin, hpd⟩ := hfp _ (m_lk_mem hfk)
            have hlt : k < (fs.map (m_v ad)).length := by
              rw [m_at_eq] at hv
              rw [List.length_map]
              exact (List.getElem?_eq_some_iff.mp hv).1
            have hset : (m_w ci cA ad h).set j (ad j, .inr (ci, (fs.map (m_v ad)).set k (m_v ad (.inl v)))) = m_w ci cA ad (h.set j (.inl (fs.set k (.inl v)))) := by
              rw [← m_w_set]
              simp [m_e, m_v, List.map_set]
            cases b with
            | true =>
              obtain ⟨hz, hs⟩ := hs
              refine va_put hx hb hts hin ty0 hty hnm hown hK hP hD hS j (m_w_get hfs) hc k hkN hlink (fun _ z => z) hfin hpd (m_fit1 hz).1 (m_fit1 hz).2 hlt hdg (fun H1 locs1 hP1 hD1 hS1 => ?_)
              rw [hset] at hP1 hD1
              exact hk _ _ _ _ hs hL _ _ _ hP1 hD1 hS1 hl
            | false =>
              refine va_put hx hb hts hin ty0 hty hnm hown hK hP hD hS j (m_w_get hfs) hc k hkN hlink (fun _ z => z) hfin hpd (vp_nar_int v) rfl hlt hdg (fun H1 locs1 hP1 hD1 hS1 => ?_)
              rw [hset] at hP1 hD1
              exact hk _ _ _ _ hs hL _ _ _ hP1 hD1 hS1 hl
          · exact hs.elim
        · exact hs.elim
      · exact hs.elim
    · exact hs.elim
  · split at hs
    · rename_i x j S'
      split at hs
      · rename_i n f hfs
        exact va_iald hx hb hK hP j 0 (m_w_get hfs) rfl hs.1 hdg (hk _ _ _ _ (hs.2 _ rfl) hL _ _ _ hP hD hS hl)
      · exact hs.elim
    · exact hs.elim
  · split at hs
    · rename_i x i j S'
      split at hs
      · rename_i n f hfs
        have hset : (m_w ci cA ad h).set j (ad j, .inl (cA, n, .inl (upd f i.toNatClampNeg x))) = m_w ci cA ad (h.set j (.inr (n, upd f i.toNatClampNeg x))) := by
          rw [← m_w_set]
          rfl
        refine va_iast hx hb hK hP hD hS j 0 (m_w_get hfs) rfl hs.1 hdg (fun H1 locs1 hP1 hD1 hS1 => ?_)
        rw [hset] at hP1 hD1
        exact hk _ _ _ _ hs.2 hL _ _ _ hP1 hD1 hS1 hl
      · exact hs.elim
    · exact hs.elim
  · split at hs
    · rename_i x _ na T' hcl
      split at hs
      · rename_i as rest hpop
        cases hlen : Nat.ble rest.length 8 with
        | false => rw [hlen] at hs; exact hs.elim
        | true =>
          rw [hlen] at hs
          obtain ⟨e1, e2⟩ := m_pop_eq hpop
          have e1 : S = as.reverse ++ rest := e1
          subst e1
          exact hcall _ _ _ _ hcl p e s m args below meth c cc nL Q A H0 S0 hK hA pc ls rest as h _ H locs hs e2 hdg hl.1 (Nat.le_of_ble_eq_true hlen) hP hD hS (fun r h' H1 locs1 z hP1 hD1 hS1 => hk _ _ _ _ z hL _ _ _ hP1 hD1 hS1 hl)
      · exact hs.elim
    · exact hs.elim
  · split at hs
    · rename_i x _ na T' hcl
      split at hs
      · rename_i as rest hpop
        cases hlen : Nat.ble rest.length 8 with
        | false => rw [hlen] at hs; exact hs.elim
        | true =>
          rw [hlen] at hs
          obtain ⟨e1, e2⟩ := m_pop_eq hpop
          have e1 : S = as.reverse ++ rest := e1
          subst e1
          exact hcall _ _ _ _ hcl p e s m args below meth c cc nL Q A H0 S0 hK hA pc ls rest as h _ H locs hs e2 hdg hl.1 (Nat.le_of_ble_eq_true hlen) hP hD hS (fun r h' H1 locs1 z hP1 hD1 hS1 => hk _ _ _ _ z hL _ _ _ hP1 hD1 hS1 hl)
      · exact hs.elim
    · exact hs.elim
  · split at hs
    · split at hs
      · exact hR (some _) h pc ls H locs hs (fun v e => ⟨Or.inl rfl, hdg⟩) (fun e => by cases e) hP hD hS
      · exact hR (some _) h pc ls H locs hs.2 (fun v e => ⟨Or.inr ⟨rfl, by cases e; exact hs.1⟩, hdg⟩) (fun e => by cases e) hP hD hS
      · exact hs.elim
    · exact hs.elim
  · split at hs
    · split at hs
      · exact hR none h pc ls H locs hs (fun v e => by cases e) (fun _ => ⟨rfl, hdg⟩) hP hD hS
      · exact hs.elim
    · exact hs.elim
  · exact hs.elim
theorem m_walk {code : List (Nat × mE)} {fld : List (Nat × Nat)} {fpt : List (Nat × Nat × Bool)} {kon : List (Nat × Int32)} {call : List (Nat × Bool × Nat × mT)} {rb : Nat} {Rr : Option Int32 → mH → Prop} {Ts : List Cond} {own C : String} {T : u_T} {N : Nat}
    (S0 : CallFix p m c cc nL s args Ts own) (hK : va_K D cl [(cA, .int)] s) (hA : ∀ q, H0.size ≤ q → A q) (hTb : m_Tb s args cl ci Ts own C T N fld fpt kon)
    (hcall : ∀ (x : Nat) (st : Bool) (na : Nat) (T : mT), m_lk call x = some (st, na, T) → m_OK D cl cA ci ad Ts l own R x st na T)
    (hR : ∀ (r : Option Int32) (h : mH) (pc : Nat) (ls : Array Slot) (H : Heap) (locs : List Loc), Rr r h → (∀ v, r = some v → (rb = 0 ∨ rb = 1 ∧ (v = 0 ∨ v = 1)) ∧ decode cc pc = .ok (.ireturn, 1)) → (r = none → rb = 2 ∧ decode cc pc = .ok (.return_, 1)) → va_P D cl (m_w ci cA ad h) H → va_D A (m_w ci cA ad h) → va_S A H0 H locs → W p l e R s m args below meth c H locs 0 0 Q (F0 m pc ls ((m_ps r []).map (m_v ad))))
    (hcode : code.all (m_ok cc nL) = true) : m_cl code fld fpt kon call rb Rr (m_W p l e R s m args below meth c nL Q D cl cA ci ad A H0) := by
  have key : ∀ (n : Nat) (st : Bool) (pc : Nat) (L : mL) (S : List mV) (h : mH), m_wp code fld fpt kon call rb (m_W p l e R s m args below meth c nL Q D cl cA ci ad A H0) Rr n st pc L S h → m_W p l e R s m args below meth c nL Q D cl cA ci ad A H0 (pc, L, S, h) := by
    intro n
    induction n with
    | zero => intro st pc L S h hs; exact hs
    | succ n ih =>
      intro st pc L S h hs
      unfold m_wp at hs
      split at hs
      · exact hs.elim
      · rename_i i nx tg cv hd hlk
        cases hb : (st && hd) with
        | true => rw [hb] at hs; exact hs
        | false =>
          rw [hb] at hs
          exact m_step S0 hK hA hTb hcall hR (List.all_eq_true.mp hcode _ (m_lk_mem hlk)) hs (fun pc' L' S' h' z => ih true pc' L' S' h' z)
  intro n pc L S h hs
  exact key n false pc L S h hs
end MS
