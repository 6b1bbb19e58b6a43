section
-- ===== PART A: goes FIRST, ahead of the names: the tables' words, and 'selects' of the private methods out of them =====
/-- a private method of a class that the tables say can be made, by its rows of tables_1 -/
def lw_okq (q : MethodName × Nat) : Prop := (q.1.cls ≠ "java/lang/invoke/MethodHandle" ∧ q.1.cls ≠ "java/lang/invoke/VarHandle") ∧ Cond.instantiable q.1.cls q.2 ∈ tables_1 ∧ Cond.privateMethod q.1 ∈ tables_1 ∧ Cond.instanceMethod q.1 ∈ tables_1
theorem lw_p0 : lw_okq (⟨"DegreeCores", "areTwoNodes", "(II)Z"⟩, 7) := ⟨⟨by decide +kernel, by decide +kernel⟩, List.mem_of_getElem? (i := 7) (by decide +kernel), List.mem_of_getElem? (i := 46) (by decide +kernel), List.mem_of_getElem? (i := 47) (by decide +kernel)⟩
theorem lw_p1 : lw_okq (⟨"DegreeCores", "isNode", "(I)Z"⟩, 7) := ⟨⟨by decide +kernel, by decide +kernel⟩, List.mem_of_getElem? (i := 7) (by decide +kernel), List.mem_of_getElem? (i := 50) (by decide +kernel), List.mem_of_getElem? (i := 51) (by decide +kernel)⟩
theorem lw_p2 : lw_okq (⟨"DegreeCores", "coreBits", "(I)I"⟩, 7) := ⟨⟨by decide +kernel, by decide +kernel⟩, List.mem_of_getElem? (i := 7) (by decide +kernel), List.mem_of_getElem? (i := 79) (by decide +kernel), List.mem_of_getElem? (i := 80) (by decide +kernel)⟩
theorem lw_p3 : lw_okq (⟨"DegreeCores", "allNodes", "()I"⟩, 7) := ⟨⟨by decide +kernel, by decide +kernel⟩, List.mem_of_getElem? (i := 7) (by decide +kernel), List.mem_of_getElem? (i := 83) (by decide +kernel), List.mem_of_getElem? (i := 84) (by decide +kernel)⟩
theorem lw_p4 : lw_okq (⟨"DegreeCores", "looseIn", "(II)I"⟩, 7) := ⟨⟨by decide +kernel, by decide +kernel⟩, List.mem_of_getElem? (i := 7) (by decide +kernel), List.mem_of_getElem? (i := 87) (by decide +kernel), List.mem_of_getElem? (i := 88) (by decide +kernel)⟩
theorem lw_p5 : lw_okq (⟨"DegreeCores", "degreeWithin", "(II)I"⟩, 7) := ⟨⟨by decide +kernel, by decide +kernel⟩, List.mem_of_getElem? (i := 7) (by decide +kernel), List.mem_of_getElem? (i := 91) (by decide +kernel), List.mem_of_getElem? (i := 92) (by decide +kernel)⟩
theorem lw_p6 : lw_okq (⟨"DegreeCores", "leastDegreeWithin", "(I)I"⟩, 7) := ⟨⟨by decide +kernel, by decide +kernel⟩, List.mem_of_getElem? (i := 7) (by decide +kernel), List.mem_of_getElem? (i := 103) (by decide +kernel), List.mem_of_getElem? (i := 104) (by decide +kernel)⟩
theorem lw_p7 : lw_okq (⟨"DegreeCores", "triangleCorners", "()I"⟩, 7) := ⟨⟨by decide +kernel, by decide +kernel⟩, List.mem_of_getElem? (i := 7) (by decide +kernel), List.mem_of_getElem? (i := 124) (by decide +kernel), List.mem_of_getElem? (i := 125) (by decide +kernel)⟩
theorem lw_p8 : lw_okq (⟨"DegreeCores", "trianglesAt", "(I)I"⟩, 7) := ⟨⟨by decide +kernel, by decide +kernel⟩, List.mem_of_getElem? (i := 7) (by decide +kernel), List.mem_of_getElem? (i := 128) (by decide +kernel), List.mem_of_getElem? (i := 129) (by decide +kernel)⟩
theorem lw_p9 : lw_okq (⟨"DegreeCores", "edgesWithin", "(I)I"⟩, 7) := ⟨⟨by decide +kernel, by decide +kernel⟩, List.mem_of_getElem? (i := 7) (by decide +kernel), List.mem_of_getElem? (i := 132) (by decide +kernel), List.mem_of_getElem? (i := 133) (by decide +kernel)⟩
theorem lw_p10 : lw_okq (⟨"DegreeCores", "isTriangle", "(III)Z"⟩, 7) := ⟨⟨by decide +kernel, by decide +kernel⟩, List.mem_of_getElem? (i := 7) (by decide +kernel), List.mem_of_getElem? (i := 140) (by decide +kernel), List.mem_of_getElem? (i := 141) (by decide +kernel)⟩
theorem lw_p11 : lw_okq (⟨"DegreeCores", "isEdge", "(II)Z"⟩, 7) := ⟨⟨by decide +kernel, by decide +kernel⟩, List.mem_of_getElem? (i := 7) (by decide +kernel), List.mem_of_getElem? (i := 151) (by decide +kernel), List.mem_of_getElem? (i := 152) (by decide +kernel)⟩
theorem lw_p12 : lw_okq (⟨"DegreeCores", "shrinkToTruss", "(I)V"⟩, 7) := ⟨⟨by decide +kernel, by decide +kernel⟩, List.mem_of_getElem? (i := 7) (by decide +kernel), List.mem_of_getElem? (i := 162) (by decide +kernel), List.mem_of_getElem? (i := 163) (by decide +kernel)⟩
theorem lw_p13 : lw_okq (⟨"DegreeCores", "dropEdgesBelow", "(I)Z"⟩, 7) := ⟨⟨by decide +kernel, by decide +kernel⟩, List.mem_of_getElem? (i := 7) (by decide +kernel), List.mem_of_getElem? (i := 166) (by decide +kernel), List.mem_of_getElem? (i := 167) (by decide +kernel)⟩
theorem lw_p14 : lw_okq (⟨"DegreeCores", "pairsAt", "(I)I"⟩, 7) := ⟨⟨by decide +kernel, by decide +kernel⟩, List.mem_of_getElem? (i := 7) (by decide +kernel), List.mem_of_getElem? (i := 177) (by decide +kernel), List.mem_of_getElem? (i := 178) (by decide +kernel)⟩
theorem lw_p15 : lw_okq (⟨"DegreeCores", "densestBits", "()I"⟩, 7) := ⟨⟨by decide +kernel, by decide +kernel⟩, List.mem_of_getElem? (i := 7) (by decide +kernel), List.mem_of_getElem? (i := 201) (by decide +kernel), List.mem_of_getElem? (i := 202) (by decide +kernel)⟩
def lw_privs_1 : List (MethodName × Nat) := [(⟨"DegreeCores", "areTwoNodes", "(II)Z"⟩, 7), (⟨"DegreeCores", "isNode", "(I)Z"⟩, 7), (⟨"DegreeCores", "coreBits", "(I)I"⟩, 7), (⟨"DegreeCores", "allNodes", "()I"⟩, 7), (⟨"DegreeCores", "looseIn", "(II)I"⟩, 7), (⟨"DegreeCores", "degreeWithin", "(II)I"⟩, 7), (⟨"DegreeCores", "leastDegreeWithin", "(I)I"⟩, 7), (⟨"DegreeCores", "triangleCorners", "()I"⟩, 7), (⟨"DegreeCores", "trianglesAt", "(I)I"⟩, 7), (⟨"DegreeCores", "edgesWithin", "(I)I"⟩, 7), (⟨"DegreeCores", "isTriangle", "(III)Z"⟩, 7), (⟨"DegreeCores", "isEdge", "(II)Z"⟩, 7), (⟨"DegreeCores", "shrinkToTruss", "(I)V"⟩, 7), (⟨"DegreeCores", "dropEdgesBelow", "(I)Z"⟩, 7), (⟨"DegreeCores", "pairsAt", "(I)I"⟩, 7), (⟨"DegreeCores", "densestBits", "()I"⟩, 7)]
theorem lw_r1 : ∀ q ∈ lw_privs_1, lw_okq q := List.forall_mem_cons.mpr ⟨lw_p0, List.forall_mem_cons.mpr ⟨lw_p1, List.forall_mem_cons.mpr ⟨lw_p2, List.forall_mem_cons.mpr ⟨lw_p3, List.forall_mem_cons.mpr ⟨lw_p4, List.forall_mem_cons.mpr ⟨lw_p5, List.forall_mem_cons.mpr ⟨lw_p6, List.forall_mem_cons.mpr ⟨lw_p7, List.forall_mem_cons.mpr ⟨lw_p8, List.forall_mem_cons.mpr ⟨lw_p9, List.forall_mem_cons.mpr ⟨lw_p10, List.forall_mem_cons.mpr ⟨lw_p11, List.forall_mem_cons.mpr ⟨lw_p12, List.forall_mem_cons.mpr ⟨lw_p13, List.forall_mem_cons.mpr ⟨lw_p14, List.forall_mem_cons.mpr ⟨lw_p15, fun _ h => absurd h List.not_mem_nil⟩⟩⟩⟩⟩⟩⟩⟩⟩⟩⟩⟩⟩⟩⟩⟩
theorem lw_p16 : lw_okq (⟨"DegreeCores", "cutSteps", "()I"⟩, 7) := ⟨⟨by decide +kernel, by decide +kernel⟩, List.mem_of_getElem? (i := 7) (by decide +kernel), List.mem_of_getElem? (i := 216) (by decide +kernel), List.mem_of_getElem? (i := 217) (by decide +kernel)⟩
theorem lw_p17 : lw_okq (⟨"DegreeCores", "cutChange", "(II)I"⟩, 7) := ⟨⟨by decide +kernel, by decide +kernel⟩, List.mem_of_getElem? (i := 7) (by decide +kernel), List.mem_of_getElem? (i := 220) (by decide +kernel), List.mem_of_getElem? (i := 221) (by decide +kernel)⟩
theorem lw_p18 : lw_okq (⟨"DegreeCores", "classBits", "(II)I"⟩, 7) := ⟨⟨by decide +kernel, by decide +kernel⟩, List.mem_of_getElem? (i := 7) (by decide +kernel), List.mem_of_getElem? (i := 228) (by decide +kernel), List.mem_of_getElem? (i := 229) (by decide +kernel)⟩
theorem lw_p19 : lw_okq (⟨"DegreeCores", "tryMaking", "()Z"⟩, 7) := ⟨⟨by decide +kernel, by decide +kernel⟩, List.mem_of_getElem? (i := 7) (by decide +kernel), List.mem_of_getElem? (i := 252) (by decide +kernel), List.mem_of_getElem? (i := 253) (by decide +kernel)⟩
theorem lw_p20 : lw_okq (⟨"DegreeCores", "wantsMost", "(I)I"⟩, 7) := ⟨⟨by decide +kernel, by decide +kernel⟩, List.mem_of_getElem? (i := 7) (by decide +kernel), List.mem_of_getElem? (i := 256) (by decide +kernel), List.mem_of_getElem? (i := 257) (by decide +kernel)⟩
theorem lw_p21 : lw_okq (⟨"DegreeCores", "serve", "(I)Z"⟩, 7) := ⟨⟨by decide +kernel, by decide +kernel⟩, List.mem_of_getElem? (i := 7) (by decide +kernel), List.mem_of_getElem? (i := 260) (by decide +kernel), List.mem_of_getElem? (i := 261) (by decide +kernel)⟩
theorem lw_p22 : lw_okq (⟨"DegreeCoresModel", "areTwo", "(II)Z"⟩, 13) := ⟨⟨by decide +kernel, by decide +kernel⟩, List.mem_of_getElem? (i := 268) (by decide +kernel), List.mem_of_getElem? (i := 322) (by decide +kernel), List.mem_of_getElem? (i := 323) (by decide +kernel)⟩
theorem lw_p23 : lw_okq (⟨"DegreeCoresModel", "isNode", "(I)Z"⟩, 13) := ⟨⟨by decide +kernel, by decide +kernel⟩, List.mem_of_getElem? (i := 268) (by decide +kernel), List.mem_of_getElem? (i := 326) (by decide +kernel), List.mem_of_getElem? (i := 327) (by decide +kernel)⟩
theorem lw_p24 : lw_okq (⟨"DegreeCoresModel", "coreOf", "(I)I"⟩, 13) := ⟨⟨by decide +kernel, by decide +kernel⟩, List.mem_of_getElem? (i := 268) (by decide +kernel), List.mem_of_getElem? (i := 349) (by decide +kernel), List.mem_of_getElem? (i := 350) (by decide +kernel)⟩
theorem lw_p25 : lw_okq (⟨"DegreeCoresModel", "all", "()I"⟩, 13) := ⟨⟨by decide +kernel, by decide +kernel⟩, List.mem_of_getElem? (i := 268) (by decide +kernel), List.mem_of_getElem? (i := 353) (by decide +kernel), List.mem_of_getElem? (i := 354) (by decide +kernel)⟩
theorem lw_p26 : lw_okq (⟨"DegreeCoresModel", "walk", "(I)I"⟩, 13) := ⟨⟨by decide +kernel, by decide +kernel⟩, List.mem_of_getElem? (i := 268) (by decide +kernel), List.mem_of_getElem? (i := 373) (by decide +kernel), List.mem_of_getElem? (i := 374) (by decide +kernel)⟩
theorem lw_p27 : lw_okq (⟨"DegreeCoresModel", "areJoined", "(II)Z"⟩, 13) := ⟨⟨by decide +kernel, by decide +kernel⟩, List.mem_of_getElem? (i := 268) (by decide +kernel), List.mem_of_getElem? (i := 377) (by decide +kernel), List.mem_of_getElem? (i := 378) (by decide +kernel)⟩
theorem lw_p28 : lw_okq (⟨"DegreeCoresModel", "isEdge", "(II)Z"⟩, 13) := ⟨⟨by decide +kernel, by decide +kernel⟩, List.mem_of_getElem? (i := 268) (by decide +kernel), List.mem_of_getElem? (i := 389) (by decide +kernel), List.mem_of_getElem? (i := 390) (by decide +kernel)⟩
theorem lw_p29 : lw_okq (⟨"DegreeCoresModel", "trussOf", "(I)V"⟩, 13) := ⟨⟨by decide +kernel, by decide +kernel⟩, List.mem_of_getElem? (i := 268) (by decide +kernel), List.mem_of_getElem? (i := 397) (by decide +kernel), List.mem_of_getElem? (i := 398) (by decide +kernel)⟩
theorem lw_p30 : lw_okq (⟨"DegreeCoresModel", "densestOf", "()I"⟩, 13) := ⟨⟨by decide +kernel, by decide +kernel⟩, List.mem_of_getElem? (i := 268) (by decide +kernel), List.mem_of_getElem? (i := 419) (by decide +kernel), List.mem_of_getElem? (i := 420) (by decide +kernel)⟩
theorem lw_p31 : lw_okq (⟨"DegreeCoresModel", "edgesIn", "(I)I"⟩, 13) := ⟨⟨by decide +kernel, by decide +kernel⟩, List.mem_of_getElem? (i := 268) (by decide +kernel), List.mem_of_getElem? (i := 423) (by decide +kernel), List.mem_of_getElem? (i := 424) (by decide +kernel)⟩
def lw_privs_2 : List (MethodName × Nat) := [(⟨"DegreeCores", "cutSteps", "()I"⟩, 7), (⟨"DegreeCores", "cutChange", "(II)I"⟩, 7), (⟨"DegreeCores", "classBits", "(II)I"⟩, 7), (⟨"DegreeCores", "tryMaking", "()Z"⟩, 7), (⟨"DegreeCores", "wantsMost", "(I)I"⟩, 7), (⟨"DegreeCores", "serve", "(I)Z"⟩, 7), (⟨"DegreeCoresModel", "areTwo", "(II)Z"⟩, 13), (⟨"DegreeCoresModel", "isNode", "(I)Z"⟩, 13), (⟨"DegreeCoresModel", "coreOf", "(I)I"⟩, 13), (⟨"DegreeCoresModel", "all", "()I"⟩, 13), (⟨"DegreeCoresModel", "walk", "(I)I"⟩, 13), (⟨"DegreeCoresModel", "areJoined", "(II)Z"⟩, 13), (⟨"DegreeCoresModel", "isEdge", "(II)Z"⟩, 13), (⟨"DegreeCoresModel", "trussOf", "(I)V"⟩, 13), (⟨"DegreeCoresModel", "densestOf", "()I"⟩, 13), (⟨"DegreeCoresModel", "edgesIn", "(I)I"⟩, 13)]
theorem lw_r2 : ∀ q ∈ lw_privs_2, lw_okq q := List.forall_mem_cons.mpr ⟨lw_p16, List.forall_mem_cons.mpr ⟨lw_p17, List.forall_mem_cons.mpr ⟨lw_p18, List.forall_mem_cons.mpr ⟨lw_p19, List.forall_mem_cons.mpr ⟨lw_p20, List.forall_mem_cons.mpr ⟨lw_p21, List.forall_mem_cons.mpr ⟨lw_p22, List.forall_mem_cons.mpr ⟨lw_p23, List.forall_mem_cons.mpr ⟨lw_p24, List.forall_mem_cons.mpr ⟨lw_p25, List.forall_mem_cons.mpr ⟨lw_p26, List.forall_mem_cons.mpr ⟨lw_p27, List.forall_mem_cons.mpr ⟨lw_p28, List.forall_mem_cons.mpr ⟨lw_p29, List.forall_mem_cons.mpr ⟨lw_p30, List.forall_mem_cons.mpr ⟨lw_p31, fun _ h => absurd h List.not_mem_nil⟩⟩⟩⟩⟩⟩⟩⟩⟩⟩⟩⟩⟩⟩⟩⟩
theorem lw_p32 : lw_okq (⟨"DegreeCoresModel", "firmOf", "(II)I"⟩, 13) := ⟨⟨by decide +kernel, by decide +kernel⟩, List.mem_of_getElem? (i := 268) (by decide +kernel), List.mem_of_getElem? (i := 435) (by decide +kernel), List.mem_of_getElem? (i := 436) (by decide +kernel)⟩
theorem lw_p33 : lw_okq (⟨"DegreeCoresModel", "makeCuts", "()V"⟩, 13) := ⟨⟨by decide +kernel, by decide +kernel⟩, List.mem_of_getElem? (i := 268) (by decide +kernel), List.mem_of_getElem? (i := 439) (by decide +kernel), List.mem_of_getElem? (i := 440) (by decide +kernel)⟩
theorem lw_p34 : lw_okq (⟨"DegreeCoresModel", "tries", "()Z"⟩, 13) := ⟨⟨by decide +kernel, by decide +kernel⟩, List.mem_of_getElem? (i := 268) (by decide +kernel), List.mem_of_getElem? (i := 467) (by decide +kernel), List.mem_of_getElem? (i := 468) (by decide +kernel)⟩
theorem lw_p35 : lw_okq (⟨"DegreeCoresModel", "most", "(I)I"⟩, 13) := ⟨⟨by decide +kernel, by decide +kernel⟩, List.mem_of_getElem? (i := 268) (by decide +kernel), List.mem_of_getElem? (i := 471) (by decide +kernel), List.mem_of_getElem? (i := 472) (by decide +kernel)⟩
def lw_privs_3 : List (MethodName × Nat) := [(⟨"DegreeCoresModel", "firmOf", "(II)I"⟩, 13), (⟨"DegreeCoresModel", "makeCuts", "()V"⟩, 13), (⟨"DegreeCoresModel", "tries", "()Z"⟩, 13), (⟨"DegreeCoresModel", "most", "(I)I"⟩, 13)]
theorem lw_r3 : ∀ q ∈ lw_privs_3, lw_okq q := List.forall_mem_cons.mpr ⟨lw_p32, List.forall_mem_cons.mpr ⟨lw_p33, List.forall_mem_cons.mpr ⟨lw_p34, List.forall_mem_cons.mpr ⟨lw_p35, fun _ h => absurd h List.not_mem_nil⟩⟩⟩⟩
def lw_privs : List (MethodName × Nat) := lw_privs_1 ++ (lw_privs_2 ++ (lw_privs_3))
def lw_tbl : List Cond := k2_sels lw_privs ++ tables_1
theorem lw_privs_ok : ∀ q ∈ lw_privs, lw_okq q := by
  show ∀ q ∈ lw_privs_1 ++ (lw_privs_2 ++ (lw_privs_3)), lw_okq q
  exact List.forall_mem_append.mpr ⟨lw_r1, List.forall_mem_append.mpr ⟨lw_r2, lw_r3⟩⟩
end
section
/-! a small machine over the kit's rows: ints, one made object with its int arrays; calls by contract. 'm_wp' is its weakest precondition, evaluated by unfolding alone; 'm_con' makes a method's contract out of it. -/
abbrev mV : Type := Int32 ⊕ Nat
abbrev mC : Type := List mV ⊕ (Nat × (Nat → Int32))
abbrev mH : Type := List mC
abbrev mL : Type := List (Option mV)
abbrev mG : Type := Nat × mL × List mV × mH
abbrev mT : Type := List mV → mH → (Option Int32 → mH → Prop) → Prop
/-- an instruction: itself, the next pc, its target, its constant, whether a loop begins there -/
abbrev mE : Type := Jvm.ClassFile.Instr × Nat × Nat × Int32 × Bool
def m_lk {α : Type} : List (Nat × α) → Nat → Option α
  | [], _ => none
  | q :: t, i => bif Nat.beq q.1 i then some q.2 else m_lk t i
def m_gl : mL → Nat → Option mV
  | [], _ => none
  | x :: _, 0 => x
  | _ :: t, i + 1 => m_gl t i
def m_at {α : Type} : List α → Nat → Option α
  | [], _ => none
  | x :: _, 0 => some x
  | _ :: t, i + 1 => m_at t i
def m_pop : Nat → List mV → List mV → Option (List mV × List mV)
  | 0, acc, S => some (acc, S)
  | _ + 1, _, [] => none
  | k + 1, acc, v :: S => m_pop k (v :: acc) S
def m_ps (r : Option Int32) (S : List mV) : List mV := match r with
  | some x => .inl x :: S
  | none => S
def m_st (fld : List (Nat × Nat)) (fpt : List (Nat × Nat × Bool)) (kon : List (Nat × Int32)) (call : List (Nat × Bool × Nat × mT)) (rb : Nat) (R : Option Int32 → mH → Prop) (i : Jvm.ClassFile.Instr) (nx tg : Nat) (cv : Int32) (L : mL) (S : List mV) (h : mH) (K : Nat → mL → List mV → mH → Prop) : Prop :=
  match i with
  | .iconst _ => K nx L (.inl cv :: S) h
  | .bipush _ => K nx L (.inl cv :: S) h
  | .sipush _ => K nx L (.inl cv :: S) h
  | .ldc x => match m_lk kon x with
    | some v => K nx L (.inl v :: S) h
    | none => False
  | .ldc_w x => match m_lk kon x with
    | some v => K nx L (.inl v :: S) h
    | none => False
  | .iload_n j => match m_gl L j.val with
    | some (.inl x) => K nx L (.inl x :: S) h
    | _ => False
  | .iload j => match m_gl L j with
    | some (.inl x) => K nx L (.inl x :: S) h
    | _ => False
  | .aload_n j => match m_gl L j.val with
    | some (.inr x) => K nx L (.inr x :: S) h
    | _ => False
  | .aload j => match m_gl L j with
    | some (.inr x) => K nx L (.inr x :: S) h
    | _ => False
  | .istore_n j => match S with
    | .inl x :: S => K nx (L.set j.val (some (.inl x))) S h
    | _ => False
  | .istore j => match S with
    | .inl x :: S => K nx (L.set j (some (.inl x))) S h
    | _ => False
  | .iinc j _ => match m_gl L j with
    | some (.inl x) => ∀ z, z = x + cv → K nx (L.set j (some (.inl z))) S h
    | _ => False
  | .iadd => match S with
    | .inl y :: .inl x :: S => (∀ z, z = x + y → K nx L (.inl z :: S) h)
    | _ => False
  | .isub => match S with
    | .inl y :: .inl x :: S => (∀ z, z = x - y → K nx L (.inl z :: S) h)
    | _ => False
  | .imul => match S with
    | .inl y :: .inl x :: S => (∀ z, z = x * y → K nx L (.inl z :: S) h)
    | _ => False
  | .iand => match S with
    | .inl y :: .inl x :: S => (∀ z, z = x &&& y → K nx L (.inl z :: S) h)
    | _ => False
  | .ior => match S with
    | .inl y :: .inl x :: S => (∀ z, z = x ||| y → K nx L (.inl z :: S) h)
    | _ => False
  | .ixor => match S with
    | .inl y :: .inl x :: S => (∀ z, z = x ^^^ y → K nx L (.inl z :: S) h)
    | _ => False
  | .ishl => match S with
    | .inl y :: .inl x :: S => (∀ z, z = x <<< (y &&& 31) → K nx L (.inl z :: S) h)
    | _ => False
  | .ishr => match S with
    | .inl y :: .inl x :: S => (∀ z, z = x >>> (y &&& 31) → K nx L (.inl z :: S) h)
    | _ => False
  | .iushr => match S with
    | .inl y :: .inl x :: S => (∀ z, z = (x.toUInt32 >>> (y.toUInt32 &&& Int32.toUInt32 31)).toInt32 → K nx L (.inl z :: S) h)
    | _ => False
  | .ineg => match S with
    | .inl x :: S => (∀ z, z = -x → K nx L (.inl z :: S) h)
    | _ => False
  | .idiv => match S with
    | .inl y :: .inl x :: S => ¬ y = 0 ∧ (∀ z, z = x / y → K nx L (.inl z :: S) h)
    | _ => False
  | .irem => match S with
    | .inl y :: .inl x :: S => ¬ y = 0 ∧ (∀ z, z = x - x / y * y → K nx L (.inl z :: S) h)
    | _ => False
  | .dup => match S with
    | v :: S => K nx L (v :: v :: S) h
    | _ => False
  | .dup2 => match S with
    | v :: w :: S => K nx L (v :: w :: v :: w :: S) h
    | _ => False
  | .dup_x1 => match S with
    | v :: w :: S => K nx L (v :: w :: v :: S) h
    | _ => False
  | .dup_x2 => match S with
    | v :: w :: z :: S => K nx L (v :: w :: z :: v :: S) h
    | _ => False
  | .pop => match S with
    | _ :: S => K nx L S h
    | _ => False
  | .goto _ => K tg L S h
  | .ifCond .eq _ => match S with
    | .inl x :: S => (x = 0 → K tg L S h) ∧ (¬ x = 0 → K nx L S h)
    | _ => False
  | .ifCond .ne _ => match S with
    | .inl x :: S => (¬ x = 0 → K tg L S h) ∧ (x = 0 → K nx L S h)
    | _ => False
  | .ifCond .lt _ => match S with
    | .inl x :: S => (x < 0 → K tg L S h) ∧ (¬ x < 0 → K nx L S h)
    | _ => False
  | .ifCond .ge _ => match S with
    | .inl x :: S => (0 ≤ x → K tg L S h) ∧ (¬ 0 ≤ x → K nx L S h)
    | _ => False
  | .ifCond .gt _ => match S with
    | .inl x :: S => (0 < x → K tg L S h) ∧ (¬ 0 < x → K nx L S h)
    | _ => False
  | .ifCond .le _ => match S with
    | .inl x :: S => (x ≤ 0 → K tg L S h) ∧ (¬ x ≤ 0 → K nx L S h)
    | _ => False
  | .if_icmp .eq _ => match S with
    | .inl y :: .inl x :: S => (x = y → K tg L S h) ∧ (¬ x = y → K nx L S h)
    | _ => False
  | .if_icmp .ne _ => match S with
    | .inl y :: .inl x :: S => (¬ x = y → K tg L S h) ∧ (x = y → K nx L S h)
    | _ => False
  | .if_icmp .lt _ => match S with
    | .inl y :: .inl x :: S => (x < y → K tg L S h) ∧ (¬ x < y → K nx L S h)
    | _ => False
  | .if_icmp .ge _ => match S with
    | .inl y :: .inl x :: S => (y ≤ x → K tg L S h) ∧ (¬ y ≤ x → K nx L S h)
    | _ => False
  | .if_icmp .gt _ => match S with
    | .inl y :: .inl x :: S => (y < x → K tg L S h) ∧ (¬ y < x → K nx L S h)
    | _ => False
  | .if_icmp .le _ => match S with
    | .inl y :: .inl x :: S => (x ≤ y → K tg L S h) ∧ (¬ x ≤ y → K nx L S h)
    | _ => False
  | .getfield x => match S with
    | .inr j :: S => match m_at h j with
      | some (.inl fs) => match m_lk fld x with
        | some k => match m_at fs k with
          | some v => K nx L (v :: S) h
          | none => False
        | none => False
      | _ => False
    | _ => False
  | .putfield x => match S with
    | .inl v :: .inr j :: S => match m_at h j with
      | some (.inl fs) => match m_lk fpt x with
        | some (k, b) => match m_at fs k with
          | some _ => bif b then ((v = 0 ∨ v = 1) ∧ K nx L S (h.set j (.inl (fs.set k (.inl v))))) else K nx L S (h.set j (.inl (fs.set k (.inl v))))
          | none => False
        | none => False
      | _ => False
    | _ => False
  | .iaload => match S with
    | .inl i :: .inr j :: S => match m_at h j with
      | some (.inr (n, f)) => vp_in i n ∧ (∀ z, z = f i.toNatClampNeg → K nx L (.inl z :: S) h)
      | _ => False
    | _ => False
  | .iastore => match S with
    | .inl x :: .inl i :: .inr j :: S => match m_at h j with
      | some (.inr (n, f)) => vp_in i n ∧ K nx L S (h.set j (.inr (n, upd f i.toNatClampNeg x)))
      | _ => False
    | _ => False
  | .invokestatic x => match m_lk call x with
    | some (true, na, T) => match m_pop na [] S with
      | some (as, rest) => bif Nat.ble rest.length 8 then T as h (fun r h' => K nx L (m_ps r rest) h') else False
      | none => False
    | _ => False
  | .invokevirtual x => match m_lk call x with
    | some (false, na, T) => match m_pop na [] S with
      | some (as, rest) => bif Nat.ble rest.length 8 then T as h (fun r h' => K nx L (m_ps r rest) h') else False
      | none => False
    | _ => False
  | .ireturn => match S with
    | [.inl v] => match rb with
      | 0 => R (some v) h
      | 1 => (v = 0 ∨ v = 1) ∧ R (some v) h
      | _ => False
    | _ => False
  | .return_ => match S with
    | [] => match rb with
      | 2 => R none h
      | _ => False
    | _ => False
  | _ => False
def m_wp (code : List (Nat × mE)) (fld : List (Nat × Nat)) (fpt : List (Nat × Nat × Bool)) (kon : List (Nat × Int32)) (call : List (Nat × Bool × Nat × mT)) (rb : Nat) (V : mG → Prop) (R : Option Int32 → mH → Prop) : Nat → Bool → Nat → mL → List mV → mH → Prop
  | 0, _, pc, L, S, h => V (pc, L, S, h)
  | n + 1, st, pc, L, S, h => match m_lk code pc with
    | none => False
    | some (i, nx, tg, cv, hd) => bif st && hd then V (pc, L, S, h) else m_st fld fpt kon call rb R i nx tg cv L S h (fun pc' L' S' h' => m_wp code fld fpt kon call rb V R n true pc' L' S' h')
/-- what a method's walk has to show: for every V that is closed under the walk, V at the entry -/
def m_cl (code : List (Nat × mE)) (fld : List (Nat × Nat)) (fpt : List (Nat × Nat × Bool)) (kon : List (Nat × Int32)) (call : List (Nat × Bool × Nat × mT)) (rb : Nat) (R : Option Int32 → mH → Prop) (V : mG → Prop) : Prop :=
  ∀ (n pc : Nat) (L : mL) (S : List mV) (h : mH), m_wp code fld fpt kon call rb V R n false pc L S h → V (pc, L, S, h)
def m_len : Jvm.ClassFile.Instr → Nat
  | .bipush _ => 2
  | .sipush _ => 3
  | .ldc _ => 2
  | .ldc_w _ => 3
  | .iload _ => 2
  | .aload _ => 2
  | .istore _ => 2
  | .iinc _ _ => 3
  | .goto _ => 3
  | .ifCond _ _ => 3
  | .if_icmp _ _ => 3
  | .getfield _ => 3
  | .putfield _ => 3
  | .invokestatic _ => 3
  | .invokevirtual _ => 3
  | _ => 1
def m_side (nL pc : Nat) (i : Jvm.ClassFile.Instr) (tg : Nat) (cv : Int32) : Bool := match i with
  | .iconst v => decide (Int32.ofInt v = cv)
  | .bipush v => decide ((Int8.ofInt v).toInt32 = cv)
  | .sipush v => decide ((Int16.ofInt v).toInt32 = cv)
  | .istore_n j => decide (j.val < nL)
  | .istore j => decide (j < nL)
  | .iinc j v => decide (Int32.ofInt v = cv) && decide (j < nL)
  | .goto o => decide ((pc : Int) + o = (tg : Int))
  | .ifCond _ o => decide ((pc : Int) + o = (tg : Int))
  | .if_icmp _ o => decide ((pc : Int) + o = (tg : Int))
  | _ => true
def m_ok (cc : ByteArray) (nL : Nat) (q : Nat × mE) : Bool := decide (decode cc q.1 = .ok (q.2.1, m_len q.2.1)) && (decide (q.2.2.1 = q.1 + m_len q.2.1) && m_side nL q.1 q.2.1 q.2.2.2.1 q.2.2.2.2.1)
theorem m_lk_mem {α : Type} {l : List (Nat × α)} {i : Nat} {a : α} (h : m_lk l i = some a) : (i, a) ∈ l := by
  induction l with
  | nil => cases h
  | cons q t ih =>
    obtain ⟨j, b⟩ := q
    unfold m_lk at h
    cases e : Nat.beq j i with
    | true =>
      rw [e] at h
      have hji : j = i := Nat.eq_of_beq_eq_true e
      subst hji
      cases h
      exact List.mem_cons_self
    | false =>
      rw [e] at h
      exact List.mem_cons_of_mem _ (ih h)
theorem m_at_eq {α : Type} (l : List α) (i : Nat) : m_at l i = l[i]? := by
  induction l generalizing i with
  | nil => rfl
  | cons x t ih => cases i with
    | zero => rfl
    | succ i => exact ih i
theorem m_pop_eq {k : Nat} {acc S as rest : List mV} (h : m_pop k acc S = some (as, rest)) : acc.reverse ++ S = as.reverse ++ rest ∧ as.length = k + acc.length := by
  induction k generalizing acc S with
  | zero => cases h; exact ⟨rfl, (Nat.zero_add _).symm⟩
  | succ k ih => cases S with
    | nil => cases h
    | cons v S =>
      obtain ⟨h1, h2⟩ := ih (acc := v :: acc) h
      refine ⟨?_, ?_⟩
      · rw [← h1]; simp
      · rw [h2]; simp; omega
-- the cells and the locals as the kit has them
def m_v (ad : Nat → Nat) : mV → Value
  | .inl x => .int x
  | .inr j => .ref (ad j)
def m_e (ci : Nat) (cA : ClassId) (ad : Nat → Nat) : mC → va_E
  | .inl fs => .inr (ci, fs.map (m_v ad))
  | .inr a => .inl (cA, a.1, .inl a.2)
def m_w (ci : Nat) (cA : ClassId) (ad : Nat → Nat) (h : mH) : va_W := h.mapIdx (fun j q => (ad j, m_e ci cA ad q))
theorem m_w_get {ci : Nat} {cA : ClassId} {ad : Nat → Nat} {h : mH} {j : Nat} {q : mC} (e : m_at h j = some q) : (m_w ci cA ad h)[j]? = some (ad j, m_e ci cA ad q) := by
  rw [m_at_eq] at e
  simp [m_w, e]
theorem m_w_set {ci : Nat} {cA : ClassId} {ad : Nat → Nat} {h : mH} {j : Nat} {q : mC} : (m_w ci cA ad h).set j (ad j, m_e ci cA ad q) = m_w ci cA ad (h.set j q) := by
  simp [m_w]
theorem m_cat (ad : Nat → Nat) (v : mV) : (m_v ad v).category = 1 := by cases v <;> rfl
def m_lv (ad : Nat → Nat) : Nat → mL → List (Nat × Value)
  | _, [] => []
  | i, none :: t => m_lv ad (i + 1) t
  | i, some v :: t => (i, m_v ad v) :: m_lv ad (i + 1) t
theorem m_lv_mem {ad : Nat → Nat} {q : Nat × Value} {L : mL} : ∀ {i : Nat}, q ∈ m_lv ad i L ↔ ∃ (k : Nat) (v : mV), q.1 = i + k ∧ m_gl L k = some v ∧ q.2 = m_v ad v := by
  induction L with
  | nil => intro i; simp [m_lv, m_gl]
  | cons x t ih =>
    intro i
    cases x with
    | none =>
      simp only [m_lv]
      rw [ih]
      constructor
      · rintro ⟨k, v, h1, h2, h3⟩
        exact ⟨k + 1, v, by omega, h2, h3⟩
      · rintro ⟨k, v, h1, h2, h3⟩
        cases k with
        | zero => cases h2
        | succ k => exact ⟨k, v, by omega, h2, h3⟩
    | some w =>
      simp only [m_lv, List.mem_cons]
      rw [ih]
      constructor
      · rintro (rfl | ⟨k, v, h1, h2, h3⟩)
        · exact ⟨0, w, rfl, rfl, rfl⟩
        · exact ⟨k + 1, v, by omega, h2, h3⟩
      · rintro ⟨k, v, h1, h2, h3⟩
        cases k with
        | zero =>
          left
          have : w = v := Option.some.inj h2
          subst this
          exact Prod.ext h1 h3
        | succ k => right; exact ⟨k, v, by omega, h2, h3⟩
theorem m_gl_set {L : mL} {i j : Nat} {w : mV} : m_gl (L.set i (some w)) j = if j = i ∧ i < L.length then some w else m_gl L j := by
  induction L generalizing i j with
  | nil => simp [m_gl]
  | cons x t ih =>
    cases i with
    | zero => cases j with
      | zero => simp [m_gl]
      | succ j => simp [m_gl]
    | succ i => cases j with
      | zero => simp [m_gl]
      | succ j =>
        simp only [List.set_cons_succ, m_gl, ih, List.length_cons]
        by_cases hc : j = i ∧ i < t.length
        · rw [if_pos hc, if_pos ⟨by omega, by omega⟩]
        · rw [if_neg hc, if_neg (by omega)]
theorem m_gl_lt {L : mL} {k : Nat} {v : mV} (h : m_gl L k = some v) : k < L.length := by
  induction L generalizing k with
  | nil => cases h
  | cons x t ih => cases k with
    | zero => simp
    | succ k =>
      have := ih h
      simp
      omega
theorem m_has {ad : Nat → Nat} {ls : Array Slot} {nL : Nat} {L : mL} (h : lv_has ls nL (m_lv ad 0 L)) {i : Nat} {v : mV} (e : m_gl L i = some v) : ls[i]? = some (.val (m_v ad v)) :=
  h.2.2 (i, m_v ad v) (m_lv_mem.mpr ⟨i, v, (Nat.zero_add i).symm, e, rfl⟩)
theorem m_lvsub {ls : Array Slot} {nL : Nat} {l l' : List (Nat × Value)} (h : lv_has ls nL l) (hs : ∀ q ∈ l', q ∈ l) : lv_has ls nL l' := ⟨h.1, h.2.1, fun q hq => h.2.2 q (hs q hq)⟩
theorem m_lvset {ad : Nat → Nat} {ls : Array Slot} {nL i : Nat} {L : mL} {w : mV} {u : Value} (hu : u = m_v ad w) (h : lv_has ls nL ((i, u) :: (m_lv ad 0 L).filter (fun q => !(q.1 == i) && !(q.1 + 1 == i && q.2.category == 2)))) : lv_has ls nL (m_lv ad 0 (L.set i (some w))) := by
  refine m_lvsub h (fun q hq => ?_)
  obtain ⟨k, v, h1, h2, h3⟩ := m_lv_mem.mp hq
  rw [m_gl_set] at h2
  have hk : q.1 = k := by omega
  by_cases hc : k = i ∧ i < L.length
  · rw [if_pos hc] at h2
    have : w = v := Option.some.inj h2
    subst this
    rw [List.mem_cons]
    left
    exact Prod.ext (by rw [hk, hc.1]) (by rw [h3, hu])
  · rw [if_neg hc] at h2
    by_cases hki : k = i
    · have hlt : i < L.length := by rw [← hki]; exact m_gl_lt h2
      exact absurd ⟨hki, hlt⟩ hc
    · rw [List.mem_cons]
      right
      rw [List.mem_filter]
      refine ⟨m_lv_mem.mpr ⟨k, v, h1, h2, h3⟩, ?_⟩
      have h4 : q.2.category = 1 := by rw [h3]; exact m_cat ad v
      simp [hk, hki, h4]
end
section
/-! the small machine is the machine: one step, then a walk, then a method's contract -/
section MS
variable {p : Program} {l : Launch} {e : Env} {R : Room} {s : State} {m : MethodId} {args : Array Value} {below : List Frame} {meth : Method} {c : Code} {cc : ByteArray} {nL : Nat} {Q : State → Prop}
variable {D : va_G} {cl : List vw_C} {cA : ClassId} {ci : Nat} {ad : Nat → Nat} {A : Nat → Prop} {H0 : Heap}
/-- the machine at a point of the small machine -/
def m_W (p : Program) (l : Launch) (e : Env) (R : Room) (s : State) (m : MethodId) (args : Array Value) (below : List Frame) (meth : Method) (c : Code) (nL : Nat) (Q : State → Prop) (D : va_G) (cl : List vw_C) (cA : ClassId) (ci : Nat) (ad : Nat → Nat) (A : Nat → Prop) (H0 : Heap) (g : mG) : Prop :=
  g.2.1.length = nL → ∀ (H : Heap) (locs : List Loc) (ls : Array Slot), va_P D cl (m_w ci cA ad g.2.2.2) H → va_D A (m_w ci cA ad g.2.2.2) → va_S A H0 H locs → lv_has ls nL (m_lv ad 0 g.2.1) → W p l e R s m args below meth c H locs 0 0 Q (F0 m g.1 ls (g.2.2.1.map (m_v ad)))
/-- a call at pool number idx does what T says -/
def m_OK (D : va_G) (cl : List vw_C) (cA : ClassId) (ci : Nat) (ad : Nat → Nat) (Ts : List Cond) (l : Launch) (own : String) (R : Room) (idx : Nat) (st : Bool) (na : Nat) (T : mT) : Prop :=
  ∀ (p : Program) (e : Env) (s : State) (m : MethodId) (args : Array Value) (below : List Frame) (meth : Method) (c : Code) (cc : ByteArray) (nL : Nat) (Q : State → Prop) (A : Nat → Prop) (H0 : Heap), CallFix p m c cc nL s args Ts own → va_K D cl [(cA, .int)] s → (∀ q, H0.size ≤ q → A q) →
  ∀ (pc : Nat) (ls : Array Slot) (rest as : List mV) (h : mH) (k : Option Int32 → mH → Prop) (H : Heap) (locs : List Loc), T as h k → as.length = na → decode cc pc = .ok (bif st then .invokestatic idx else .invokevirtual idx, 3) → ls.size = nL → rest.length ≤ 8 → va_P D cl (m_w ci cA ad h) H → va_D A (m_w ci cA ad h) → va_S A H0 H locs →
  (∀ (r : Option Int32) (h' : mH) (H1 : Heap) (locs1 : List Loc), k r h' → va_P D cl (m_w ci cA ad h') H1 → va_D A (m_w ci cA ad h') → va_S A H0 H1 locs1 → W p l e R s m args below meth c H1 locs1 0 0 Q (F0 m (pc + 3) ls ((m_ps r rest).map (m_v ad)))) →
  W p l e R s m args below meth c H locs 0 0 Q (F0 m pc ls ((as.reverse ++ rest).map (m_v ad)))
/-- what holds of the method's own tables -/
def m_Tb (s : State) (args : Array Value) (cl : List vw_C) (ci : Nat) (Ts : List Cond) (own C : String) (T : u_T) (N : Nat) (fld : List (Nat × Nat)) (fpt : List (Nat × Nat × Bool)) (kon : List (Nat × Int32)) : Prop :=
  cl[ci]? = some (C, T, N) ∧ (∀ w ∈ u_ws C T N, w ∈ Ts) ∧ (∀ a, a < N → ∀ b, b < N → a ≠ b → (T a).2.1 ≠ (T b).2.1) ∧ (∃ ty0 : Nat → FieldType, ∀ k, k < N → parseFieldDescriptor (T k).2.2.1 = some (ty0 k)) ∧
  (∀ q ∈ fld, q.2 < N ∧ (Cond.fieldLink own q.1 (T q.2).1 (T q.2).2.1 (T q.2).2.2.1).before args s = true) ∧
  (∀ q ∈ fpt, q.2.1 < N ∧ (Cond.fieldLink own q.1 (T q.2.1).1 (T q.2.1).2.1 (T q.2.1).2.2.1).before args s = true ∧ (T q.2.1).2.2.2 = false ∧ parseFieldDescriptor (T q.2.1).2.2.1 = some (bif q.2.2 then .boolean else .int)) ∧
  (∀ q ∈ kon, (Jvm.Cond.constant own q.1 q.2).before args s = true)
theorem m_fit1 {v : Int32} (h : v = 0 ∨ v = 1) : narrow .boolean (.int v) = .int v ∧ fits .boolean (.int v) = true := by
  rcases h with rfl | rfl <;> decide +kernel
theorem m_sum (ad : Nat → Nat) (rest : List mV) : ((rest.map (m_v ad)).map fun v => v.category).sum = rest.length := by
  induction rest with
  | nil => rfl
  | cons v t ih =>
    simp only [List.map_cons, List.sum_cons, List.length_cons, m_cat]
    rw [ih]
    omega
set_option maxHeartbeats 4000000 in
theorem m_step {fld : List (Nat × Nat)} {fpt : List (Nat × Nat × Bool)} {kon : List (Nat × Int32)} {call : List (Nat × Bool × Nat × mT)} {rb : Nat} {Rr : Option Int32 → mH → Prop} {Ts : List Cond} {own C : String} {T : u_T} {N : Nat}
    (S0 : CallFix p m c cc nL s args Ts own) (hK : va_K D cl [(cA, .int)] s) (hA : ∀ q, H0.size ≤ q → A q) (hTb : m_Tb s args cl ci Ts own C T N fld fpt kon)
    (hcall : ∀ (x : Nat) (st : Bool) (na : Nat) (T : mT), m_lk call x = some (st, na, T) → m_OK D cl cA ci ad Ts l own R x st na T)
    (hR : ∀ (r : Option Int32) (h : mH) (pc : Nat) (ls : Array Slot) (H : Heap) (locs : List Loc), Rr r h → (∀ v, r = some v → (rb = 0 ∨ rb = 1 ∧ (v = 0 ∨ v = 1)) ∧ decode cc pc = .ok (.ireturn, 1)) → (r = none → rb = 2 ∧ decode cc pc = .ok (.return_, 1)) → va_P D cl (m_w ci cA ad h) H → va_D A (m_w ci cA ad h) → va_S A H0 H locs → W p l e R s m args below meth c H locs 0 0 Q (F0 m pc ls ((m_ps r []).map (m_v ad))))
    {pc nx tg : Nat} {cv : Int32} {hd : Bool} {i : Jvm.ClassFile.Instr} (hi : m_ok cc nL (pc, i, nx, tg, cv, hd) = true)
    {L : mL} {S : List mV} {h : mH} {K : Nat → mL → List mV → mH → Prop} (hs : m_st fld fpt kon call rb Rr i nx tg cv L S h K)
    (hk : ∀ pc' L' S' h', K pc' L' S' h' → m_W p l e R s m args below meth c nL Q D cl cA ci ad A H0 (pc', L', S', h')) : m_W p l e R s m args below meth c nL Q D cl cA ci ad A H0 (pc, L, S, h) := by
  obtain ⟨hx, hb, hml, hown, hts⟩ := id S0
  obtain ⟨hc, hin, hnm, ⟨ty0, hty⟩, hfl, hfp, hkn⟩ := hTb
  unfold m_ok at hi
  rw [Bool.and_eq_true, Bool.and_eq_true, decide_eq_true_eq, decide_eq_true_eq] at hi
  obtain ⟨hdg, hnx, hsd⟩ := hi
  dsimp only at hdg hnx hsd
  subst hnx
  intro hL H locs ls hP hD hS hl
  dsimp only at hL hP hD hl ⊢
  unfold m_st at hs
  split at hs
  · exact lv_iconst hx hb hdg (of_decide_eq_true hsd) (hk _ _ _ _ hs hL _ _ _ hP hD hS hl)
  · exact lv_bipush hx hb hdg (of_decide_eq_true hsd) (hk _ _ _ _ hs hL _ _ _ hP hD hS hl)
  · exact lv_sipush hx hb hdg (of_decide_eq_true hsd) (hk _ _ _ _ hs hL _ _ _ hP hD hS hl)
  · split at hs
    · rename_i x _ v hv
      exact lv_ldc hx hb hown (hkn _ (m_lk_mem hv)) hdg (hk _ _ _ _ hs hL _ _ _ hP hD hS hl)
    · exact hs.elim
  · split at hs
    · rename_i x _ v hv
      exact lv_ldcw hx hb hown (hkn _ (m_lk_mem hv)) hdg (hk _ _ _ _ hs hL _ _ _ hP hD hS hl)
    · exact hs.elim
  · split at hs
    · rename_i j _ x hv
      exact lv_iload_n hx hb hdg rfl (m_has hl hv) (hk _ _ _ _ hs hL _ _ _ hP hD hS hl)
    · exact hs.elim
  · split at hs
    · rename_i j _ x hv
      exact lv_iload hx hb hdg (m_has hl hv) (hk _ _ _ _ hs hL _ _ _ hP hD hS hl)
    · exact hs.elim
  · split at hs
    · rename_i j _ x hv
      exact lv_aload_n hx hb hdg rfl (m_has hl hv) (hk _ _ _ _ hs hL _ _ _ hP hD hS hl)
    · exact hs.elim
  · split at hs
    · rename_i j _ x hv
      exact lv_aload hx hb hdg (m_has hl hv) (hk _ _ _ _ hs hL _ _ _ hP hD hS hl)
    · exact hs.elim
  · split at hs
    · exact lv_istore_n hx hb hdg rfl hl (of_decide_eq_true hsd) rfl (fun ls' hl' => hk _ _ _ _ hs (by dsimp only; rw [List.length_set]; exact hL) _ _ _ hP hD hS (m_lvset rfl hl'))
    · exact hs.elim
  · split at hs
    · exact lv_istore hx hb hdg hl (of_decide_eq_true hsd) rfl (fun ls' hl' => hk _ _ _ _ hs (by dsimp only; rw [List.length_set]; exact hL) _ _ _ hP hD hS (m_lvset rfl hl'))
    · exact hs.elim
  · split at hs
    · rename_i j _ _ x hv
      have h1 := Bool.and_eq_true_iff.mp hsd
      obtain ⟨kk, hkk⟩ := List.getElem?_of_mem (m_lv_mem (ad := ad) (q := (j, .int x)) (i := 0) |>.mpr ⟨j, .inl x, (Nat.zero_add j).symm, hv, rfl⟩)
      exact lv_iinc hx hb hdg hl hkk (by rw [of_decide_eq_true h1.1]) (of_decide_eq_true h1.2) rfl (fun ls' hl' => hk _ _ _ _ (hs _ rfl) (by dsimp only; rw [List.length_set]; exact hL) _ _ _ hP hD hS (m_lvset rfl hl'))
    · exact hs.elim
  · split at hs
    · exact lv_iadd hx hb hdg (hk _ _ _ _ (hs _ rfl) hL _ _ _ hP hD hS hl)
    · exact hs.elim
  · split at hs
    · exact lv_isub hx hb hdg (hk _ _ _ _ (hs _ rfl) hL _ _ _ hP hD hS hl)
    · exact hs.elim
  · split at hs
    · exact lv_imul hx hb hdg (hk _ _ _ _ (hs _ rfl) hL _ _ _ hP hD hS hl)
    · exact hs.elim
  · split at hs
    · exact lv_iand hx hb hdg (hk _ _ _ _ (hs _ rfl) hL _ _ _ hP hD hS hl)
    · exact hs.elim
  · split at hs
    · exact lv_ior hx hb hdg (hk _ _ _ _ (hs _ rfl) hL _ _ _ hP hD hS hl)
    · exact hs.elim
  · split at hs
    · exact lv_ixor hx hb hdg (hk _ _ _ _ (hs _ rfl) hL _ _ _ hP hD hS hl)
    · exact hs.elim
  · split at hs
    · exact lv_ishl hx hb hdg (hk _ _ _ _ (hs _ rfl) hL _ _ _ hP hD hS hl)
    · exact hs.elim
  · split at hs
    · exact lv_ishr hx hb hdg (hk _ _ _ _ (hs _ rfl) hL _ _ _ hP hD hS hl)
    · exact hs.elim
  · split at hs
    · exact lv_iushr hx hb hdg rfl (hk _ _ _ _ (hs _ rfl) hL _ _ _ hP hD hS hl)
    · exact hs.elim
  · split at hs
    · exact lv_ineg hx hb hdg (hk _ _ _ _ (hs _ rfl) hL _ _ _ hP hD hS hl)
    · exact hs.elim
  · split at hs
    · exact lv_idiv hx hb hdg hs.1 (hk _ _ _ _ (hs.2 _ rfl) hL _ _ _ hP hD hS hl)
    · exact hs.elim
  · split at hs
    · exact lv_irem hx hb hdg hs.1 (hk _ _ _ _ (hs.2 _ rfl) hL _ _ _ hP hD hS hl)
    · exact hs.elim
  · split at hs
    · exact lv_dup hx hb hdg (m_cat ad _) (hk _ _ _ _ hs hL _ _ _ hP hD hS hl)
    · exact hs.elim
  · split at hs
    · exact lv_dup2_11 hx hb hdg (m_cat ad _) (m_cat ad _) (hk _ _ _ _ hs hL _ _ _ hP hD hS hl)
    · exact hs.elim
  · split at hs
    · exact lv_dup_x1 hx hb hdg (m_cat ad _) (m_cat ad _) (hk _ _ _ _ hs hL _ _ _ hP hD hS hl)
    · exact hs.elim
  · split at hs
    · exact lv_dup_x2 hx hb hdg (m_cat ad _) (m_cat ad _) (m_cat ad _) (hk _ _ _ _ hs hL _ _ _ hP hD hS hl)
    · exact hs.elim
  · split at hs
    · exact lv_pop hx hb hdg (m_cat ad _) (hk _ _ _ _ hs hL _ _ _ hP hD hS hl)
    · exact hs.elim
  · exact lv_goto hx hb hdg (of_decide_eq_true hsd) (hk _ _ _ _ hs hL _ _ _ hP hD hS hl)
  · split at hs
    · exact lv_if_eq hx hb hdg (of_decide_eq_true hsd) (fun z => hk _ _ _ _ (hs.1 z) hL _ _ _ hP hD hS hl) (fun z => hk _ _ _ _ (hs.2 z) hL _ _ _ hP hD hS hl)
    · exact hs.elim
  · split at hs
    · exact lv_if_ne hx hb hdg (of_decide_eq_true hsd) (fun z => hk _ _ _ _ (hs.1 z) hL _ _ _ hP hD hS hl) (fun z => hk _ _ _ _ (hs.2 z) hL _ _ _ hP hD hS hl)
    · exact hs.elim
  · split at hs
    · exact lv_if_lt hx hb hdg (of_decide_eq_true hsd) (fun z => hk _ _ _ _ (hs.1 z) hL _ _ _ hP hD hS hl) (fun z => hk _ _ _ _ (hs.2 z) hL _ _ _ hP hD hS hl)
    · exact hs.elim
  · split at hs
    · exact lv_if_ge hx hb hdg (of_decide_eq_true hsd) (fun z => hk _ _ _ _ (hs.1 z) hL _ _ _ hP hD hS hl) (fun z => hk _ _ _ _ (hs.2 z) hL _ _ _ hP hD hS hl)
    · exact hs.elim
  · split at hs
    · exact lv_if_gt hx hb hdg (of_decide_eq_true hsd) (fun z => hk _ _ _ _ (hs.1 z) hL _ _ _ hP hD hS hl) (fun z => hk _ _ _ _ (hs.2 z) hL _ _ _ hP hD hS hl)
    · exact hs.elim
  · split at hs
    · exact lv_if_le hx hb hdg (of_decide_eq_true hsd) (fun z => hk _ _ _ _ (hs.1 z) hL _ _ _ hP hD hS hl) (fun z => hk _ _ _ _ (hs.2 z) hL _ _ _ hP hD hS hl)
    · exact hs.elim
  · split at hs
    · exact lv_icmp_eq hx hb hdg (of_decide_eq_true hsd) (fun z => hk _ _ _ _ (hs.1 z) hL _ _ _ hP hD hS hl) (fun z => hk _ _ _ _ (hs.2 z) hL _ _ _ hP hD hS hl)
    · exact hs.elim
  · split at hs
    · exact lv_icmp_ne hx hb hdg (of_decide_eq_true hsd) (fun z => hk _ _ _ _ (hs.1 z) hL _ _ _ hP hD hS hl) (fun z => hk _ _ _ _ (hs.2 z) hL _ _ _ hP hD hS hl)
    · exact hs.elim
  · split at hs
    · exact lv_icmp_lt hx hb hdg (of_decide_eq_true hsd) (fun z => hk _ _ _ _ (hs.1 z) hL _ _ _ hP hD hS hl) (fun z => hk _ _ _ _ (hs.2 z) hL _ _ _ hP hD hS hl)
    · exact hs.elim
  · split at hs
    · exact lv_icmp_ge hx hb hdg (of_decide_eq_true hsd) (fun z => hk _ _ _ _ (hs.1 z) hL _ _ _ hP hD hS hl) (fun z => hk _ _ _ _ (hs.2 z) hL _ _ _ hP hD hS hl)
    · exact hs.elim
  · split at hs
    · exact lv_icmp_gt hx hb hdg (of_decide_eq_true hsd) (fun z => hk _ _ _ _ (hs.1 z) hL _ _ _ hP hD hS hl) (fun z => hk _ _ _ _ (hs.2 z) hL _ _ _ hP hD hS hl)
    · exact hs.elim
  · split at hs
    · exact lv_icmp_le hx hb hdg (of_decide_eq_true hsd) (fun z => hk _ _ _ _ (hs.1 z) hL _ _ _ hP hD hS hl) (fun z => hk _ _ _ _ (hs.2 z) hL _ _ _ hP hD hS hl)
    · exact hs.elim
  · split at hs
    · rename_i x _ j S'
      split at hs
      · rename_i fs hfs
        split at hs
        · rename_i k hfk
          split at hs
          · rename_i v hv
            obtain ⟨hkN, hlink⟩ := hfl _ (m_lk_mem hfk)
            exact va_get hx hb hts hin hown hK hP j (m_w_get hfs) hc k hkN hlink (fun _ z => z) (by rw [List.getElem?_map, ← m_at_eq, hv]; rfl) hdg (hk _ _ _ _ hs hL _ _ _ hP hD hS hl)
          · exact hs.elim
        · exact hs.elim
      · exact hs.elim
    · exact hs.elim
  · split at hs
    · rename_i x _ v j S'
      split at hs
      · rename_i fs hfs
        split at hs
        · rename_i k b hfk
          split at hs
          · rename_i v0 hv
            obtain ⟨hkN, hlink, hfin, hpd⟩ := hfp _ (m_lk_mem hfk)
            have hlt : k < (fs.map (m_v ad)).length := by
              rw [m_at_eq] at hv
              rw [List.length_map]
              exact (List.getElem?_eq_some_iff.mp hv).1
            have hset : (m_w ci cA ad h).set j (ad j, .inr (ci, (fs.map (m_v ad)).set k (m_v ad (.inl v)))) = m_w ci cA ad (h.set j (.inl (fs.set k (.inl v)))) := by
              rw [← m_w_set]
              simp [m_e, m_v, List.map_set]
            cases b with
            | true =>
              obtain ⟨hz, hs⟩ := hs
              refine va_put hx hb hts hin ty0 hty hnm hown hK hP hD hS j (m_w_get hfs) hc k hkN hlink (fun _ z => z) hfin hpd (m_fit1 hz).1 (m_fit1 hz).2 hlt hdg (fun H1 locs1 hP1 hD1 hS1 => ?_)
              rw [hset] at hP1 hD1
              exact hk _ _ _ _ hs hL _ _ _ hP1 hD1 hS1 hl
            | false =>
              refine va_put hx hb hts hin ty0 hty hnm hown hK hP hD hS j (m_w_get hfs) hc k hkN hlink (fun _ z => z) hfin hpd (vp_nar_int v) rfl hlt hdg (fun H1 locs1 hP1 hD1 hS1 => ?_)
              rw [hset] at hP1 hD1
              exact hk _ _ _ _ hs hL _ _ _ hP1 hD1 hS1 hl
          · exact hs.elim
        · exact hs.elim
      · exact hs.elim
    · exact hs.elim
  · split at hs
    · rename_i x j S'
      split at hs
      · rename_i n f hfs
        exact va_iald hx hb hK hP j 0 (m_w_get hfs) rfl hs.1 hdg (hk _ _ _ _ (hs.2 _ rfl) hL _ _ _ hP hD hS hl)
      · exact hs.elim
    · exact hs.elim
  · split at hs
    · rename_i x i j S'
      split at hs
      · rename_i n f hfs
        have hset : (m_w ci cA ad h).set j (ad j, .inl (cA, n, .inl (upd f i.toNatClampNeg x))) = m_w ci cA ad (h.set j (.inr (n, upd f i.toNatClampNeg x))) := by
          rw [← m_w_set]
          rfl
        refine va_iast hx hb hK hP hD hS j 0 (m_w_get hfs) rfl hs.1 hdg (fun H1 locs1 hP1 hD1 hS1 => ?_)
        rw [hset] at hP1 hD1
        exact hk _ _ _ _ hs.2 hL _ _ _ hP1 hD1 hS1 hl
      · exact hs.elim
    · exact hs.elim
  · split at hs
    · rename_i x _ na T' hcl
      split at hs
      · rename_i as rest hpop
        cases hlen : Nat.ble rest.length 8 with
        | false => rw [hlen] at hs; exact hs.elim
        | true =>
          rw [hlen] at hs
          obtain ⟨e1, e2⟩ := m_pop_eq hpop
          have e1 : S = as.reverse ++ rest := e1
          subst e1
          exact hcall _ _ _ _ hcl p e s m args below meth c cc nL Q A H0 S0 hK hA pc ls rest as h _ H locs hs e2 hdg hl.1 (Nat.le_of_ble_eq_true hlen) hP hD hS (fun r h' H1 locs1 z hP1 hD1 hS1 => hk _ _ _ _ z hL _ _ _ hP1 hD1 hS1 hl)
      · exact hs.elim
    · exact hs.elim
  · split at hs
    · rename_i x _ na T' hcl
      split at hs
      · rename_i as rest hpop
        cases hlen : Nat.ble rest.length 8 with
        | false => rw [hlen] at hs; exact hs.elim
        | true =>
          rw [hlen] at hs
          obtain ⟨e1, e2⟩ := m_pop_eq hpop
          have e1 : S = as.reverse ++ rest := e1
          subst e1
          exact hcall _ _ _ _ hcl p e s m args below meth c cc nL Q A H0 S0 hK hA pc ls rest as h _ H locs hs e2 hdg hl.1 (Nat.le_of_ble_eq_true hlen) hP hD hS (fun r h' H1 locs1 z hP1 hD1 hS1 => hk _ _ _ _ z hL _ _ _ hP1 hD1 hS1 hl)
      · exact hs.elim
    · exact hs.elim
  · split at hs
    · split at hs
      · exact hR (some _) h pc ls H locs hs (fun v e => ⟨Or.inl rfl, hdg⟩) (fun e => by cases e) hP hD hS
      · exact hR (some _) h pc ls H locs hs.2 (fun v e => ⟨Or.inr ⟨rfl, by cases e; exact hs.1⟩, hdg⟩) (fun e => by cases e) hP hD hS
      · exact hs.elim
    · exact hs.elim
  · split at hs
    · split at hs
      · exact hR none h pc ls H locs hs (fun v e => by cases e) (fun _ => ⟨rfl, hdg⟩) hP hD hS
      · exact hs.elim
    · exact hs.elim
  · exact hs.elim
theorem m_walk {code : List (Nat × mE)} {fld : List (Nat × Nat)} {fpt : List (Nat × Nat × Bool)} {kon : List (Nat × Int32)} {call : List (Nat × Bool × Nat × mT)} {rb : Nat} {Rr : Option Int32 → mH → Prop} {Ts : List Cond} {own C : String} {T : u_T} {N : Nat}
    (S0 : CallFix p m c cc nL s args Ts own) (hK : va_K D cl [(cA, .int)] s) (hA : ∀ q, H0.size ≤ q → A q) (hTb : m_Tb s args cl ci Ts own C T N fld fpt kon)
    (hcall : ∀ (x : Nat) (st : Bool) (na : Nat) (T : mT), m_lk call x = some (st, na, T) → m_OK D cl cA ci ad Ts l own R x st na T)
    (hR : ∀ (r : Option Int32) (h : mH) (pc : Nat) (ls : Array Slot) (H : Heap) (locs : List Loc), Rr r h → (∀ v, r = some v → (rb = 0 ∨ rb = 1 ∧ (v = 0 ∨ v = 1)) ∧ decode cc pc = .ok (.ireturn, 1)) → (r = none → rb = 2 ∧ decode cc pc = .ok (.return_, 1)) → va_P D cl (m_w ci cA ad h) H → va_D A (m_w ci cA ad h) → va_S A H0 H locs → W p l e R s m args below meth c H locs 0 0 Q (F0 m pc ls ((m_ps r []).map (m_v ad))))
    (hcode : code.all (m_ok cc nL) = true) : m_cl code fld fpt kon call rb Rr (m_W p l e R s m args below meth c nL Q D cl cA ci ad A H0) := by
  have key : ∀ (n : Nat) (st : Bool) (pc : Nat) (L : mL) (S : List mV) (h : mH), m_wp code fld fpt kon call rb (m_W p l e R s m args below meth c nL Q D cl cA ci ad A H0) Rr n st pc L S h → m_W p l e R s m args below meth c nL Q D cl cA ci ad A H0 (pc, L, S, h) := by
    intro n
    induction n with
    | zero => intro st pc L S h hs; exact hs
    | succ n ih =>
      intro st pc L S h hs
      unfold m_wp at hs
      split at hs
      · exact hs.elim
      · rename_i i nx tg cv hd hlk
        cases hb : (st && hd) with
        | true => rw [hb] at hs; exact hs
        | false =>
          rw [hb] at hs
          exact m_step S0 hK hA hTb hcall hR (List.all_eq_true.mp hcode _ (m_lk_mem hlk)) hs (fun pc' L' S' h' z => ih true pc' L' S' h' z)
  intro n pc L S h hs
  exact key n false pc L S h hs
end MS
end
section
/-! a method's contract out of the small machine, and a call out of a contract -/
def m_rm (d : Nat) : Room := { frames := d, cells := 0, slots := 0, locals := 32 * d }
def m_B (D : va_G) (cl : List vw_C) (cA : ClassId) (ci : Nat) (ad : Nat → Nat) (A : Nat → Prop) (u : mH) (t : State) : Prop := va_P D cl (m_w ci cA ad u) t.heap ∧ va_K D cl [(cA, .int)] t ∧ va_D A (m_w ci cA ad u)
def m_Q (D : va_G) (cl : List vw_C) (cA : ClassId) (ci : Nat) (ad : Nat → Nat) (rb : Nat) (k : Option Int32 → mH → Prop) (A : Nat → Prop) : Array Value → State → Outcome → State → Prop := match rb with
  | 2 => va_Qv (fun u : mH => k none u) (m_B D cl cA ci ad A) A
  | _ => va_Qi (fun (r : Int32) (u : mH) => k (some r) u) (m_B D cl cA ci ad A) A
def m_Pc (D : va_G) (cl : List vw_C) (cA : ClassId) (ci : Nat) (ad : Nat → Nat) (sz : Nat) (as : List mV) (h : mH) : Array Value → State → Prop :=
  va_Pc (as.map (m_v ad)) (fun U => U.heap.size = sz ∧ va_P D cl (m_w ci cA ad h) U.heap ∧ va_K D cl [(cA, .int)] U ∧ va_D (fun _ => True) (m_w ci cA ad h))
def m_Con (cl : List vw_C) (ci : Nat) (Ts : List Cond) (y : MethodName) (bytes : ByteArray) (maxL : Nat) (ret : Option FieldType) (rb d : Nat) (T : mT) : Prop :=
  ∀ (l : Launch) (D : va_G) (cA : ClassId) (ad : Nat → Nat) (sz : Nat) (as : List mV) (h : mH) (k : Option Int32 → mH → Prop), T as h k → Met l y (Cond.code y bytes maxL ret :: Ts) (m_rm d) (m_Pc D cl cA ci ad sz as h) (m_Q D cl cA ci ad rb k (va_A (m_w ci cA ad h) sz)) 0 0 (va_A (m_w ci cA ad h) sz)
def m_en : Nat → List mV → mL
  | 0, _ => []
  | n + 1, [] => none :: m_en n []
  | n + 1, v :: t => some v :: m_en n t
theorem m_en_len (n : Nat) (as : List mV) : (m_en n as).length = n := by
  induction n generalizing as with
  | zero => rfl
  | succ n ih => cases as with
    | nil => simp [m_en, ih]
    | cons v t => simp [m_en, ih]
theorem m_en_nil (ad : Nat → Nat) (n : Nat) : ∀ i, m_lv ad i (m_en n []) = [] := by
  induction n with
  | zero => intro i; rfl
  | succ n ih => intro i; simp [m_en, m_lv, ih]
theorem m_en_sub (ad : Nat → Nat) (n : Nat) (as : List mV) : ∀ i, ∀ q ∈ m_lv ad i (m_en n as), q ∈ lv_args i (as.map (m_v ad)) := by
  induction n generalizing as with
  | zero => intro i q hq; cases hq
  | succ n ih => cases as with
    | nil => intro i q hq; rw [m_en_nil] at hq; cases hq
    | cons v t =>
      intro i q hq
      simp only [m_en, m_lv, List.mem_cons] at hq
      simp only [List.map_cons, lv_args, m_cat, List.mem_cons]
      rcases hq with rfl | hq
      · exact Or.inl rfl
      · exact Or.inr (ih t (i + 1) q hq)
theorem m_sl_len (ad : Nat → Nat) (as : List mV) : (lg_sl (as.map (m_v ad))).length = as.length := by
  induction as with
  | nil => rfl
  | cons v t ih =>
    have e : lg_sl ((v :: t).map (m_v ad)) = Slot.val (m_v ad v) :: lg_sl (t.map (m_v ad)) := by
      simp [lg_sl, m_cat]
    rw [e, List.length_cons, List.length_cons, ih]
theorem m_blind (D : va_G) (cl : List vw_C) (cA : ClassId) (ci : Nat) (ad : Nat → Nat) (sz : Nat) (as : List mV) (h : mH) : FrameBlind (m_Pc D cl cA ci ad sz as h) := by
  intro a U g mk q
  obtain ⟨q0, q1, qP, qK, qD⟩ := q
  exact ⟨q0, q1, qP, va_K.moved (u := U) (U := U.calling g mk a) (Vm.Alike.refl U.vm) qK, qD⟩
set_option maxHeartbeats 4000000 in
theorem m_con {cl : List vw_C} {ci : Nat} {Ts : List Cond} {y : MethodName} {bytes : ByteArray} {maxL : Nat} {ret : Option FieldType} {rb d : Nat} {Tm : mT} {code : List (Nat × mE)} {fld : List (Nat × Nat)} {fpt : List (Nat × Nat × Bool)} {kon : List (Nat × Int32)} {call : List (Nat × Bool × Nat × mT)} {C : String} {T : u_T} {N : Nat}
    (hpl : plainName y.cls = true) (hret : (rb = 0 ∧ ret = some .int) ∨ (rb = 1 ∧ ret = some .boolean) ∨ (rb = 2 ∧ ret = none)) (hcode : code.all (m_ok bytes maxL) = true)
    (hTb : ∀ (s : State) (args : Array Value), (∀ w ∈ Ts, w.before args s = true) → m_Tb s args cl ci Ts y.cls C T N fld fpt kon)
    (hcall : ∀ (l : Launch) (D : va_G) (cA : ClassId) (ad : Nat → Nat) (x : Nat) (st : Bool) (na : Nat) (T : mT), m_lk call x = some (st, na, T) → m_OK D cl cA ci ad Ts l y.cls (m_rm d) x st na T)
    (hlen : ∀ as h k, Tm as h k → as.length ≤ maxL)
    (body : ∀ as h k, Tm as h k → ∀ V, m_cl code fld fpt kon call rb k V → V (0, m_en maxL as, [], h)) : m_Con cl ci Ts y bytes maxL ret rb d Tm := by
  intro l D cA ad sz as h k hT
  refine Met.ofW (cc := bytes) (maxL := maxL) (ret := ret) hpl rfl ?_
  intro p e s m args below meth c s₁ B hml hv
  obtain ⟨rfl, hsz, hP, hK, hD0⟩ := hv
  have hx := B.exec
  have hb := B.bytes
  have hr := B.returns
  have hts0 := atoms_spec (ws := Cond.code y bytes maxL ret :: Ts) B.pre
  have hts : ∀ w ∈ Ts, w.before (as.map (m_v ad)).toArray s = true := fun w hw => hts0 w (List.mem_cons_of_mem _ hw)
  have hown : s.vm.findClass y.cls = some m.cls := findClass_of_methodNamed B.named
  have hlocks := B.notSynchronized
  subst hsz
  have hD := hD0.self (sz := s.heap.size)
  generalize hAe : va_A (m_w ci cA ad h) s.heap.size = A at hD ⊢
  have hA : ∀ q : Nat, s.heap.size ≤ q → A q := fun q h => by rw [← hAe]; exact Or.inr h
  have hS : va_S A s.heap s.heap [] := va_S.rf
  have hl := lv_entry (as.map (m_v ad)) (n := maxL) (by rw [m_sl_len]; exact hlen as h k hT)
  rw [lg_entry_eq]
  generalize (lg_sl (as.map (m_v ad)) ++ List.replicate (maxL - (lg_sl (as.map (m_v ad))).length) Slot.unset).toArray = ls at hl ⊢
  have hl2 : lv_has ls maxL (m_lv ad 0 (m_en maxL as)) := m_lvsub hl (m_en_sub ad maxL as 0)
  refine body as h k hT _ (m_walk (A := A) (H0 := s.heap) ⟨hx, hb, hml, hown, hts⟩ hK hA (hTb s _ hts) (hcall l D cA ad) ?_ hcode) (m_en_len maxL as) s.heap [] ls hP hD hS hl2
  intro r h' pc ls H locs hk h1 h2 hP1 hD1 hS1
  cases r with
  | some v =>
    obtain ⟨hz, hdg⟩ := h1 v rfl
    rcases hret with ⟨e1, e2⟩ | ⟨e1, e2⟩ | ⟨e1, e2⟩
    · subst e1; subst e2
      exact W.zret hx hb hr (vp_nar_int v) (fun t ht hW => ⟨⟨v, h', rfl, hk, by rw [ht]; exact hP1, va_K.moved hW.alike hK, hD1⟩, hS1.F ht⟩) hS1.2.2 hdg
    · subst e1; subst e2
      have hv : v = 0 ∨ v = 1 := by
        rcases hz with hz | hz
        · cases hz
        · exact hz.2
      exact W.zret hx hb hr (m_fit1 hv).1 (fun t ht hW => ⟨⟨v, h', rfl, hk, by rw [ht]; exact hP1, va_K.moved hW.alike hK, hD1⟩, hS1.F ht⟩) hS1.2.2 hdg
    · subst e1
      rcases hz with hz | hz
      · cases hz
      · cases hz.1
  | none =>
    obtain ⟨e0, hdg⟩ := h2 rfl
    rcases hret with ⟨e1, e2⟩ | ⟨e1, e2⟩ | ⟨e1, e2⟩
    · subst e1; cases e0
    · subst e1; cases e0
    · subst e1; subst e2
      exact W.vret hx hb hr (fun t ht hW => ⟨⟨h', rfl, hk, by rw [ht]; exact hP1, va_K.moved hW.alike hK, hD1⟩, hS1.F ht⟩) hS1.2.2 hdg
section MO
variable {cl : List vw_C} {ci : Nat} {Ts : List Cond} {y : MethodName} {bytes : ByteArray} {maxL : Nat} {ret : Option FieldType} {rb d : Nat} {T : mT} {D : va_G} {cA : ClassId} {ad : Nat → Nat} {l : Launch} {own : String} {R : Room} {idx na : Nat}
/-- behind a call, either way -/
theorem m_back {p : Program} {e : Env} {s : State} {m : MethodId} {args : Array Value} {below : List Frame} {meth : Method} {c : Code} {Q : State → Prop} {A : Nat → Prop} {H0 H : Heap} {locs : List Loc} {pc : Nat} {ls : Array Slot} {rest : List mV} {h : mH} {k : Option Int32 → mH → Prop} {st0 : List Value} {a : Array Value} (hrb : rb = 0 ∨ rb = 1 ∨ rb = 2)
    (hr : va_Run p l e R s m args below meth c H locs 0 0 0 0 (F0 m pc ls st0) (rest.map (m_v ad)) (m_Q D cl cA ci ad rb k (va_A (m_w ci cA ad h) H.size) a) (va_A (m_w ci cA ad h) H.size)) (hA : ∀ q, H0.size ≤ q → A q) (hD : va_D A (m_w ci cA ad h)) (hS : va_S A H0 H locs)
    (kk : ∀ (r : Option Int32) (h' : mH) (H1 : Heap) (locs1 : List Loc), k r h' → va_P D cl (m_w ci cA ad h') H1 → va_D A (m_w ci cA ad h') → va_S A H0 H1 locs1 → W p l e R s m args below meth c H1 locs1 0 0 Q (F0 m (pc + 3) ls ((m_ps r rest).map (m_v ad)))) :
    W p l e R s m args below meth c H locs 0 0 Q (F0 m pc ls st0) := by
  have hF : ∀ q, va_A (m_w ci cA ad h) H.size q → A q := by
    rintro q (⟨k2, e2, h2⟩ | h2)
    · exact hD.2 k2 (q, e2) h2
    · exact hA q (Nat.le_trans hS.1 h2)
  rcases hrb with rfl | rfl | rfl
  · exact va_calli (a := a) (A1 := va_A (m_w ci cA ad h) H.size) (post := fun (r : Int32) (u : mH) => k (some r) u) (B := m_B D cl cA ci ad (va_A (m_w ci cA ad h) H.size)) hr hS (fun q _ h => hF q h) hF (fun r u t H1 locs1 ht hvm hpost hB hsz hk hS1 => kk (some r) u H1 locs1 hpost (by rw [← ht]; exact hB.1) (hB.2.2.weaken (fun _ q _ hq => hF q.1 hq)) hS1)
  · exact va_calli (a := a) (A1 := va_A (m_w ci cA ad h) H.size) (post := fun (r : Int32) (u : mH) => k (some r) u) (B := m_B D cl cA ci ad (va_A (m_w ci cA ad h) H.size)) hr hS (fun q _ h => hF q h) hF (fun r u t H1 locs1 ht hvm hpost hB hsz hk hS1 => kk (some r) u H1 locs1 hpost (by rw [← ht]; exact hB.1) (hB.2.2.weaken (fun _ q _ hq => hF q.1 hq)) hS1)
  · exact va_callv (a := a) (A1 := va_A (m_w ci cA ad h) H.size) (post := fun (u : mH) => k none u) (B := m_B D cl cA ci ad (va_A (m_w ci cA ad h) H.size)) hr hS (fun q _ h => hF q h) hF (fun u t H1 locs1 ht hvm hpost hB hsz hk hS1 => kk none u H1 locs1 hpost (by rw [← ht]; exact hB.1) (hB.2.2.weaken (fun _ q _ hq => hF q.1 hq)) hS1)
theorem m_okV {C : String} {Tu : u_T} {N : Nat} (hcl : cl[ci]? = some (C, Tu, N)) (hC : m_Con cl ci Ts y bytes maxL ret rb d T) (hrb : rb = 0 ∨ rb = 1 ∨ rb = 2) (hgood : ∀ w ∈ Ts, ((w.onTables && w.keeps) = true ∨ ∃ ty, w = .arrayClass ty))
    (hws : ∀ w ∈ ([.methodLink own idx y, .instanceMethod y, .selects C y y, .initialized C, Cond.code y bytes maxL ret] : List Cond), w ∈ Ts) (hyc : y.cls = C ∧ y.cls ≠ "java/lang/invoke/MethodHandle" ∧ y.cls ≠ "java/lang/invoke/VarHandle" ∧ (parseMethodDescriptor y.desc).map (fun d => d.parameters.length) = some na) (hmx : maxL ≤ 13)
    (hR : d + 1 ≤ R.frames ∧ 32 * (d + 1) ≤ R.locals) (hrecv : ∀ as h k, T as h k → ∃ j as' fs, as = .inr j :: as' ∧ m_at h j = some (.inl fs)) : m_OK D cl cA ci ad Ts l own R idx false (na + 1) T := by
  intro p e s m args below meth c cc nL Q A H0 S0 hK hA pc ls rest as h k H locs hT has hdg hsz hrest hP hD hS kk
  obtain ⟨j, as', fs, rfl, hj⟩ := hrecv _ _ _ hT
  obtain ⟨hx, hb, hml, hown, hts⟩ := id S0
  have hG : GoodIn Ts (wsV own idx C y (Cond.code y bytes maxL ret :: Ts)) := by
    intro w hw
    have hin : w ∈ Ts := by
      unfold wsV at hw
      rcases List.mem_append.mp hw with h1 | h1
      · exact hws w (by simp only [List.mem_cons, List.not_mem_nil, or_false] at h1 ⊢; rcases h1 with h1 | h1 | h1 | h1 <;> simp [h1])
      · rcases List.mem_cons.mp h1 with h1 | h1
        · exact hws w (by simp [h1])
        · exact h1
    exact ⟨hin, hgood w hin⟩
  have hr := va_runV (As := as'.map (m_v ad)) (rest := rest.map (m_v ad)) (b := ad j) (C := C) (R := R) (e := e) (below := below) (meth := meth) (H := H) (locs := locs) (cells := 0) (slots := 0) (g := F0 m pc ls (((Sum.inr j :: as').reverse ++ rest).map (m_v ad))) S0 (hC l D cA ad H.size _ h k hT) (cwV na hts hG rfl rfl rfl hyc ⟨hR.1, by show 8 + (maxL + 11) + 32 * d ≤ R.locals; omega⟩)
    ⟨m_blind D cl cA ci ad H.size _ h, va_recv hK hP hcl (m_w_get hj), fun U hU hW => ⟨rfl, by rw [hU], by rw [hU]; exact hP, va_K.moved hW.alike hK, hD.weaken (fun _ _ _ _ => trivial)⟩⟩ rfl (by rw [List.length_map]; simpa using has) hsz (by simp [m_v]) (lv_room (by rw [m_sum]; exact hrest)) hdg ⟨Nat.zero_le _, Nat.zero_le _⟩
  exact m_back hrb hr hA hD hS kk
theorem m_okS (hC : m_Con cl ci Ts y bytes maxL ret rb d T) (hrb : rb = 0 ∨ rb = 1 ∨ rb = 2) (hgood : ∀ w ∈ Ts, ((w.onTables && w.keeps) = true ∨ ∃ ty, w = .arrayClass ty))
    (hws : ∀ w ∈ ([.methodLink own idx y, .static y, .initialized y.cls, Cond.code y bytes maxL ret] : List Cond), w ∈ Ts) (hyc : y.cls ≠ "java/lang/invoke/MethodHandle" ∧ y.cls ≠ "java/lang/invoke/VarHandle" ∧ (parseMethodDescriptor y.desc).map (fun d => d.parameters.length) = some na) (hmx : maxL ≤ 13)
    (hR : d + 1 ≤ R.frames ∧ 32 * (d + 1) ≤ R.locals) : m_OK D cl cA ci ad Ts l own R idx true na T := by
  intro p e s m args below meth c cc nL Q A H0 S0 hK hA pc ls rest as h k H locs hT has hdg hsz hrest hP hD hS kk
  obtain ⟨hx, hb, hml, hown, hts⟩ := id S0
  have hG : GoodIn Ts (va_wsS own idx y (Cond.code y bytes maxL ret :: Ts)) := by
    intro w hw
    have hin : w ∈ Ts := by
      unfold va_wsS at hw
      rcases List.mem_append.mp hw with h1 | h1
      · exact hws w (by simp only [List.mem_cons, List.not_mem_nil, or_false] at h1 ⊢; rcases h1 with h1 | h1 | h1 <;> simp [h1])
      · rcases List.mem_cons.mp h1 with h1 | h1
        · exact hws w (by simp [h1])
        · exact h1
    exact ⟨hin, hgood w hin⟩
  have hr := va_runS (As := as.map (m_v ad)) (rest := rest.map (m_v ad)) (R := R) (e := e) (below := below) (meth := meth) (H := H) (locs := locs) (cells := 0) (slots := 0) (g := F0 m pc ls ((as.reverse ++ rest).map (m_v ad))) S0 (hC l D cA ad H.size _ h k hT) (va_cwS na hts hG rfl rfl rfl hyc ⟨hR.1, by show 8 + (maxL + 11) + 32 * d ≤ R.locals; omega⟩)
    ⟨m_blind D cl cA ci ad H.size _ h, fun U hU hW => ⟨rfl, by rw [hU], by rw [hU]; exact hP, va_K.moved hW.alike hK, hD.weaken (fun _ _ _ _ => trivial)⟩⟩ rfl (by rw [List.length_map]; exact has) hsz (by simp) (lv_room (by rw [m_sum]; exact hrest)) hdg ⟨Nat.zero_le _, Nat.zero_le _⟩
  exact m_back hrb hr hA hD hS kk
end MO
end
section
/-! sums, counts, bits -/
def sm (g : Nat → Nat) : Nat → Nat
  | 0 => 0
  | n + 1 => sm g n + g n
theorem sm_congr {g g' : Nat → Nat} {n : Nat} (h : ∀ i, i < n → g i = g' i) : sm g n = sm g' n := by
  induction n with
  | zero => rfl
  | succ n ih =>
    show sm g n + g n = sm g' n + g' n
    rw [ih (fun i hi => h i (by omega)), h n (by omega)]
theorem sm_le {g g' : Nat → Nat} {n : Nat} (h : ∀ i, i < n → g i ≤ g' i) : sm g n ≤ sm g' n := by
  induction n with
  | zero => exact Nat.le_refl _
  | succ n ih =>
    have h1 := ih (fun i hi => h i (by omega))
    have h2 := h n (by omega)
    show sm g n + g n ≤ sm g' n + g' n
    omega
theorem sm_add (g g' : Nat → Nat) (n : Nat) : sm (fun i => g i + g' i) n = sm g n + sm g' n := by
  induction n with
  | zero => rfl
  | succ n ih =>
    show sm (fun i => g i + g' i) n + (g n + g' n) = sm g n + g n + (sm g' n + g' n)
    rw [ih]; omega
theorem sm_mul (c : Nat) (g : Nat → Nat) (n : Nat) : sm (fun i => c * g i) n = c * sm g n := by
  induction n with
  | zero => rfl
  | succ n ih =>
    show sm (fun i => c * g i) n + c * g n = c * (sm g n + g n)
    rw [ih, Nat.mul_add]
theorem sm_zero (n : Nat) : sm (fun _ => 0) n = 0 := by
  induction n with
  | zero => rfl
  | succ n ih => exact ih
theorem sm_zero' {g : Nat → Nat} {n : Nat} (h : ∀ i, i < n → g i = 0) : sm g n = 0 := (sm_congr h).trans (sm_zero n)
theorem sm_swap (g : Nat → Nat → Nat) (n m : Nat) : sm (fun i => sm (g i) m) n = sm (fun j => sm (fun i => g i j) n) m := by
  induction n with
  | zero => exact (sm_zero m).symm
  | succ n ih =>
    show sm (fun i => sm (g i) m) n + sm (g n) m = sm (fun j => sm (fun i => g i j) n + g n j) m
    rw [ih, ← sm_add]
theorem sm_const (c n : Nat) : sm (fun _ => c) n = n * c := by
  induction n with
  | zero => simp [sm]
  | succ n ih =>
    show sm (fun _ => c) n + c = (n + 1) * c
    rw [ih, Nat.succ_mul]
theorem sm_bound {g : Nat → Nat} {n c : Nat} (h : ∀ i, i < n → g i ≤ c) : sm g n ≤ n * c := by
  rw [← sm_const]; exact sm_le h
/-- one place changed -/
theorem sm_one {g g' : Nat → Nat} {n v : Nat} (hv : v < n) (h : ∀ i, i < n → i ≠ v → g i = g' i) : sm g n + g' v = sm g' n + g v := by
  induction n with
  | zero => omega
  | succ n ih =>
    show sm g n + g n + g' v = sm g' n + g' n + g v
    by_cases hn : v = n
    · subst hn
      rw [sm_congr (g := g) (g' := g') (fun i hi => h i (by omega) (by omega))]
      omega
    · have h1 := ih (by omega) (fun i hi => h i (by omega))
      have h2 := h n (by omega) (fun z => hn z.symm)
      omega
theorem sm_ge {g : Nat → Nat} {n v : Nat} (hv : v < n) : g v ≤ sm g n := by
  induction n with
  | zero => omega
  | succ n ih =>
    show g v ≤ sm g n + g n
    by_cases hn : v = n
    · subst hn; omega
    · have := ih (by omega); omega
theorem sm_ext {g : Nat → Nat} {n m : Nat} (h : n ≤ m) (hz : ∀ i, n ≤ i → i < m → g i = 0) : sm g m = sm g n := by
  induction m with
  | zero => have : n = 0 := by omega
            subst this; rfl
  | succ m ih =>
    by_cases hm : n = m + 1
    · rw [hm]
    · show sm g m + g m = sm g n
      rw [ih (by omega) (fun i h1 h2 => hz i h1 (by omega)), hz m (by omega) (by omega)]
      rfl
def cn (p : Nat → Bool) (n : Nat) : Nat := sm (fun i => (p i).toNat) n
theorem cn_congr {p q : Nat → Bool} {n : Nat} (h : ∀ i, i < n → p i = q i) : cn p n = cn q n := sm_congr (fun i hi => by rw [h i hi])
theorem cn_le {p q : Nat → Bool} {n : Nat} (h : ∀ i, i < n → p i = true → q i = true) : cn p n ≤ cn q n := sm_le (fun i hi => by
  cases hp : p i with
  | false => exact Nat.zero_le _
  | true => rw [h i hi hp]; exact Nat.le_refl _)
theorem cn_n (p : Nat → Bool) (n : Nat) : cn p n ≤ n := by
  have := sm_bound (g := fun i => (p i).toNat) (n := n) (c := 1) (fun i _ => by cases p i <;> decide)
  show sm _ n ≤ n
  omega
theorem cn_lt {p q : Nat → Bool} {n v : Nat} (h : ∀ i, i < n → p i = true → q i = true) (hv : v < n) (h1 : p v = false) (h2 : q v = true) : cn p n < cn q n := by
  have e := sm_one (g := fun i => (p i).toNat) (g' := fun i => if i = v then 1 else (p i).toNat) hv (fun i _ hi => by simp [hi])
  have e2 : sm (fun i => if i = v then 1 else (p i).toNat) n ≤ cn q n := sm_le (fun i hi => by
    by_cases hiv : i = v
    · subst hiv; simp [h2]
    · simp only [hiv, if_false]
      cases hp : p i with
      | false => exact Nat.zero_le _
      | true => rw [h i hi hp]; exact Nat.le_refl _)
  simp only [h1, if_true, Bool.toNat_false] at e
  show sm _ n < cn q n
  omega
theorem cn_eq {p q : Nat → Bool} {n : Nat} (h : ∀ i, i < n → p i = true → q i = true) (he : cn q n ≤ cn p n) : ∀ i, i < n → p i = q i := by
  intro i hi
  cases hp : p i with
  | true => rw [h i hi hp]
  | false =>
    cases hq : q i with
    | false => rfl
    | true => have := cn_lt h hi hp hq; omega
theorem cn_0 {p : Nat → Bool} {n : Nat} (h : cn p n = 0) : ∀ i, i < n → p i = false := by
  intro i hi
  have := sm_ge (g := fun i => (p i).toNat) hi
  cases hp : p i with
  | false => rfl
  | true =>
    simp only [hp, Bool.toNat_true] at this
    have h2 : sm (fun i => (p i).toNat) n = 0 := h
    omega
theorem cn_pos {p : Nat → Bool} {n i : Nat} (hi : i < n) (h : p i = true) : 0 < cn p n := by
  rcases Nat.eq_zero_or_pos (cn p n) with h0 | h0
  · have := cn_0 h0 i hi; rw [h] at this; cases this
  · exact h0
theorem cn_or (p q : Nat → Bool) (n : Nat) : cn (fun i => p i || q i) n + cn (fun i => p i && q i) n = cn p n + cn q n := by
  show sm _ n + sm _ n = sm _ n + sm _ n
  rw [← sm_add, ← sm_add]
  exact sm_congr (fun i _ => by dsimp only; cases p i <;> cases q i <;> rfl)
/-- how many of the twelve bits are set -/
def pop (S : Nat) : Nat := cn S.testBit 12
theorem tb_hi {S n i : Nat} (h : S < 2 ^ n) (hi : n ≤ i) : S.testBit i = false := Nat.testBit_lt_two_pow (Nat.lt_of_lt_of_le h (Nat.pow_le_pow_right (by decide) hi))
theorem tb_ext {S T n : Nat} (h1 : S < 2 ^ n) (h2 : T < 2 ^ n) (h : ∀ i, i < n → S.testBit i = T.testBit i) : S = T := by
  apply Nat.eq_of_testBit_eq
  intro i
  by_cases hi : i < n
  · exact h i hi
  · rw [tb_hi h1 (by omega), tb_hi h2 (by omega)]
theorem pop_n {S n : Nat} (h : S < 2 ^ n) (hn : n ≤ 12) : pop S = cn S.testBit n := sm_ext hn (fun i h1 _ => by rw [tb_hi h h1]; rfl)
theorem pop_and {S T n : Nat} (h : S < 2 ^ n) (hn : n ≤ 12) : pop (S &&& T) = cn (fun i => S.testBit i && T.testBit i) n := by
  rw [pop_n (n := n) (Nat.lt_of_le_of_lt Nat.and_le_left h) hn]
  exact cn_congr (fun i _ => Nat.testBit_and ..)
theorem pop_le {S n : Nat} (h : S < 2 ^ n) (hn : n ≤ 12) : pop S ≤ n := by rw [pop_n h hn]; exact cn_n _ _
theorem p12 {n : Nat} (hn : n ≤ 12) : 2 ^ n ≤ 4096 := Nat.pow_le_pow_right (by decide) hn
/-- a set without some -/
def sd (S T : Nat) : Nat := S ^^^ (S &&& T)
theorem tb_sd (S T i : Nat) : (sd S T).testBit i = (S.testBit i && !T.testBit i) := by
  simp only [sd, Nat.testBit_xor, Nat.testBit_and]
  cases S.testBit i <;> cases T.testBit i <;> rfl
theorem sd_lt {S T n : Nat} (h : S < 2 ^ n) : sd S T < 2 ^ n := Nat.xor_lt_two_pow h (Nat.lt_of_le_of_lt Nat.and_le_left h)
theorem tb_pow (v i : Nat) : (2 ^ v).testBit i = decide (v = i) := Nat.testBit_two_pow
theorem tb_all (n i : Nat) : (2 ^ n - 1).testBit i = decide (i < n) := Nat.testBit_two_pow_sub_one n i
end
section
/-! graphs as rows of bits; cores -/
def mk (p : Nat → Bool) : Nat → Nat
  | 0 => 0
  | n + 1 => mk p n ||| (bif p n then 2 ^ n else 0)
theorem mk_lt (p : Nat → Bool) (n : Nat) : mk p n < 2 ^ n := by
  induction n with
  | zero => exact Nat.one_pos
  | succ n ih =>
    have h1 : 2 ^ n < 2 ^ (n + 1) := Nat.pow_lt_pow_right (by decide) (Nat.lt_succ_self n)
    refine Nat.or_lt_two_pow (Nat.lt_trans ih h1) ?_
    cases p n with
    | true => exact h1
    | false => exact Nat.lt_of_le_of_lt (Nat.zero_le _) h1
theorem tb_mk (p : Nat → Bool) (n i : Nat) : (mk p n).testBit i = (decide (i < n) && p i) := by
  induction n with
  | zero => simp [mk]
  | succ n ih =>
    have e : (bif p n then 2 ^ n else 0).testBit i = (decide (i = n) && p i) := by
      by_cases hi : i = n
      · subst hi
        cases p i with
        | true => simp [tb_pow]
        | false => simp
      · cases p n with
        | true => simp [tb_pow, hi]; exact fun z => hi z.symm
        | false => simp [hi]
    rw [mk, Nat.testBit_or, ih, e]
    by_cases h1 : i < n
    · simp [h1, Nat.lt_succ_of_lt h1, Nat.ne_of_lt h1]
    · by_cases h2 : i = n
      · subst h2; simp
      · have h3 : ¬ i < n + 1 := by omega
        simp [h1, h2, h3]
def sub (S T : Nat) : Prop := ∀ i, S.testBit i = true → T.testBit i = true
/-- twelve nodes at most; of each the bits of those that it is joined with -/
def Gr (n : Nat) (f : Nat → Nat) : Prop := n ≤ 12 ∧ (∀ v, v < n → f v < 2 ^ n) ∧ (∀ v, v < n → (f v).testBit v = false) ∧ ∀ u v, u < n → v < n → (f u).testBit v = (f v).testBit u
def dg (f : Nat → Nat) (S v : Nat) : Nat := pop (f v &&& S)
section GR
variable {n : Nat} {f : Nat → Nat}
theorem dg_n (hG : Gr n f) {S v : Nat} (hv : v < n) : dg f S v = cn (fun i => (f v).testBit i && S.testBit i) n := pop_and (hG.2.1 v hv) hG.1
theorem dg_mono (hG : Gr n f) {S T v : Nat} (hv : v < n) (h : sub S T) : dg f S v ≤ dg f T v := by
  rw [dg_n hG hv, dg_n hG hv]
  refine cn_le (fun i _ hi => ?_)
  simp only [Bool.and_eq_true] at hi ⊢
  exact ⟨hi.1, h i hi.2⟩
theorem dg_le (hG : Gr n f) {S v : Nat} (hv : v < n) : dg f S v ≤ n := by
  rw [dg_n hG hv]; exact cn_n _ _
theorem dg_lt (hG : Gr n f) {S v : Nat} (hv : v < n) : dg f S v < n := by
  rw [dg_n hG hv]
  have h1 := cn_lt (p := fun i => (f v).testBit i && S.testBit i) (q := fun _ => true) (n := n) (v := v) (fun _ _ _ => rfl) hv (by rw [hG.2.2.1 v hv]; rfl) rfl
  have h2 := cn_n (fun _ => true) n
  omega
/-- those of S whose degree within S is of a kind -/
def lo (n : Nat) (f : Nat → Nat) (S : Nat) (c : Nat → Bool) : Nat := mk (fun v => S.testBit v && c (dg f S v)) n
def cld (n : Nat) (f : Nat → Nat) (K X : Nat) : Prop := ∀ v, v < n → X.testBit v = true → K ≤ dg f X v
def isCore (n : Nat) (f : Nat → Nat) (K S : Nat) : Prop := S < 2 ^ n ∧ cld n f K S ∧ ∀ X, X < 2 ^ n → cld n f K X → sub X S
theorem core_one {K S T : Nat} (h1 : isCore n f K S) (h2 : isCore n f K T) : S = T := by
  refine tb_ext h1.1 h2.1 (fun i _ => ?_)
  have a := h2.2.2 S h1.1 h1.2.1 i
  have b := h1.2.2 T h2.1 h2.2.1 i
  cases hs : S.testBit i with
  | true => rw [a hs]
  | false =>
    cases ht : T.testBit i with
    | false => rfl
    | true => rw [b ht] at hs; cases hs
theorem cld_keep (hG : Gr n f) {K X S v : Nat} (hX : cld n f K X) (hs : sub X S) (hv : v < n) (h : X.testBit v = true) : K ≤ dg f S v := Nat.le_trans (hX v hv h) (dg_mono hG hv hs)
def rd (n : Nat) (f : Nat → Nat) (K S : Nat) : Nat := sd S (lo n f S (fun d => decide (d < K)))
def coreC (n : Nat) (f : Nat → Nat) (K : Nat) : Nat → Nat
  | 0 => 2 ^ n - 1
  | r + 1 => rd n f K (coreC n f K r)
theorem pw_pos (n : Nat) : 2 ^ n - 1 < 2 ^ n := by
  have : 0 < 2 ^ n := Nat.pow_pos (by decide)
  omega
theorem coreC_lt (K r : Nat) : coreC n f K r < 2 ^ n := by
  induction r with
  | zero => exact pw_pos n
  | succ r ih => exact sd_lt ih
theorem tb_rd (K S i : Nat) : (rd n f K S).testBit i = (S.testBit i && !(decide (i < n) && decide (dg f S i < K))) := by
  rw [rd, tb_sd, lo, tb_mk]
  cases S.testBit i <;> simp
theorem coreC_top (hG : Gr n f) {K X : Nat} (hX : X < 2 ^ n) (h : cld n f K X) (r : Nat) : sub X (coreC n f K r) := by
  induction r with
  | zero =>
    intro i hi
    show (2 ^ n - 1).testBit i = true
    rw [tb_all, decide_eq_true_eq]
    rcases Nat.lt_or_ge i n with h1 | h1
    · exact h1
    · rw [tb_hi hX h1] at hi; cases hi
  | succ r ih =>
    intro i hi
    show (rd n f K (coreC n f K r)).testBit i = true
    rw [tb_rd, ih i hi]
    by_cases h1 : i < n
    · have := cld_keep hG h ih h1 hi
      simp; exact Or.inr this
    · simp [h1]
theorem coreC_end (hG : Gr n f) (K r : Nat) : cld n f K (coreC n f K r) ∨ pop (coreC n f K r) + r ≤ n := by
  induction r with
  | zero =>
    right
    have := pop_le (pw_pos n) hG.1
    exact this
  | succ r ih =>
    by_cases hc : cld n f K (coreC n f K r)
    · left
      have e : coreC n f K (r + 1) = coreC n f K r := by
        refine tb_ext (coreC_lt K (r + 1)) (coreC_lt K r) (fun i hi => ?_)
        show (rd n f K (coreC n f K r)).testBit i = _
        rw [tb_rd]
        cases hs : (coreC n f K r).testBit i with
        | false => rfl
        | true =>
          have := hc i hi hs
          simp [hi]; exact this
      rw [e]; exact hc
    · rcases ih with h | h
      · exact absurd h hc
      · right
        have hne : ∃ v, v < n ∧ (coreC n f K r).testBit v = true ∧ dg f (coreC n f K r) v < K := by
          apply Classical.byContradiction
          intro hn
          apply hc
          intro v hv hb
          apply Nat.le_of_not_lt
          intro hlt
          exact hn ⟨v, hv, hb, hlt⟩
        obtain ⟨v, hv, hb, hlt⟩ := hne
        have e1 : pop (coreC n f K (r + 1)) < pop (coreC n f K r) := by
          rw [pop_n (coreC_lt K (r + 1)) hG.1, pop_n (coreC_lt K r) hG.1]
          refine cn_lt (v := v) (fun i _ hi => ?_) hv ?_ hb
          · have hi : (rd n f K (coreC n f K r)).testBit i = true := hi
            rw [tb_rd, Bool.and_eq_true] at hi
            exact hi.1
          · show (rd n f K (coreC n f K r)).testBit v = false
            rw [tb_rd, hb]
            simp [hv, hlt]
        omega
theorem coreC_is (hG : Gr n f) (K : Nat) : isCore n f K (coreC n f K n) := by
  refine ⟨coreC_lt K n, ?_, fun X hX h => coreC_top hG hX h n⟩
  rcases coreC_end hG K n with h | h
  · exact h
  · intro v hv hb
    have h0 : pop (coreC n f K n) = 0 := by omega
    rw [pop_n (coreC_lt K n) hG.1] at h0
    rw [cn_0 h0 v hv] at hb
    cases hb
end GR
end
section
/-! edges within a set; the densest -/
theorem sm_sym {a : Nat → Nat → Nat} (h1 : ∀ u v, a u v = a v u) (h2 : ∀ v, a v v = 0) (n : Nat) : sm (fun v => sm (a v) n) n = 2 * sm (fun v => sm (a v) v) n := by
  induction n with
  | zero => rfl
  | succ n ih =>
    show sm (fun v => sm (a v) n + a v n) n + (sm (a n) n + a n n) = 2 * (sm (fun v => sm (a v) v) n + sm (a n) n)
    rw [sm_add, ih, h2, sm_congr (g := fun v => a v n) (g' := a n) (fun i _ => h1 i n)]
    omega
/-- twice the edges within a set, as both programs count them -/
def e2 (n : Nat) (f : Nat → Nat) (S : Nat) : Nat := sm (fun v => bif S.testBit v then dg f S v else 0) n
def ea (f : Nat → Nat) (S v u : Nat) : Nat := (S.testBit v && S.testBit u && (f v).testBit u).toNat
/-- the edges within a set -/
def e1 (n : Nat) (f : Nat → Nat) (S : Nat) : Nat := sm (fun v => sm (ea f S v) v) n
section DN
variable {n : Nat} {f : Nat → Nat}
theorem e2_ea (hG : Gr n f) (S : Nat) : e2 n f S = sm (fun v => sm (ea f S v) n) n := by
  refine sm_congr (fun v hv => ?_)
  cases hs : S.testBit v with
  | false => exact (sm_zero' (fun u _ => by simp [ea, hs])).symm
  | true =>
    show dg f S v = _
    rw [dg_n hG hv]
    refine sm_congr (fun u _ => ?_)
    simp only [ea, hs, Bool.true_and]
    rw [Bool.and_comm]
theorem ea_m (hG : Gr n f) (S : Nat) {u v : Nat} (hu : u < n) (hv : v < n) : ea f S u v = ea f S v u := by
  unfold ea
  rw [hG.2.2.2 u v hu hv, Bool.and_comm (S.testBit u)]
theorem e2_e1 (hG : Gr n f) (S : Nat) : e2 n f S = 2 * e1 n f S := by
  rw [e2_ea hG]
  have h := sm_sym (a := fun v u => bif decide (v < n) && decide (u < n) then ea f S v u else 0) (fun u v => by
    by_cases hu : u < n
    · by_cases hv : v < n
      · simp [hu, hv, ea_m hG S hu hv]
      · simp [hu, hv]
    · by_cases hv : v < n
      · simp [hu, hv]
      · simp [hu, hv]) (fun v => by
    by_cases hv : v < n
    · simp [hv, ea, hG.2.2.1 v hv]
    · simp [hv]) n
  rw [sm_congr (g := fun v => sm (ea f S v) n) (g' := fun v => sm (fun u => bif decide (v < n) && decide (u < n) then ea f S v u else 0) n) (fun v hv => sm_congr (fun u hu => by simp [hv, hu])), h]
  congr 1
  exact sm_congr (fun v hv => sm_congr (fun u hu => by simp [hv, show u < n by omega]))
theorem e1_half (hG : Gr n f) (S : Nat) : e2 n f S / 2 = e1 n f S := by rw [e2_e1 hG]; omega
theorem e1_super (A B : Nat) : e1 n f A + e1 n f B ≤ e1 n f (A ||| B) + e1 n f (A &&& B) := by
  unfold e1
  rw [← sm_add, ← sm_add]
  refine sm_le (fun v _ => ?_)
  rw [← sm_add, ← sm_add]
  refine sm_le (fun u _ => ?_)
  unfold ea
  simp only [Nat.testBit_or, Nat.testBit_and]
  cases A.testBit v <;> cases B.testBit v <;> cases A.testBit u <;> cases B.testBit u <;> cases (f v).testBit u <;> decide
theorem pop_or {A B : Nat} : pop (A ||| B) + pop (A &&& B) = pop A + pop B := by
  have := cn_or A.testBit B.testBit 12
  unfold pop
  rw [← this]
  congr 1
  · exact cn_congr (fun i _ => Nat.testBit_or ..)
  · exact cn_congr (fun i _ => Nat.testBit_and ..)
theorem e1_0 : e1 n f 0 = 0 := sm_zero' (fun v _ => sm_zero' (fun u _ => by simp [ea]))
theorem pop_0 : pop 0 = 0 := sm_zero' (fun i _ => by simp)
theorem pop_pos {S : Nat} (h : S < 2 ^ n) (hn : n ≤ 12) (h0 : S ≠ 0) : 0 < pop S := by
  rcases Nat.eq_zero_or_pos (pop S) with h1 | h1
  · exfalso
    apply h0
    refine tb_ext h (Nat.pow_pos (by decide)) (fun i hi => ?_)
    rw [pop_n h hn] at h1
    rw [cn_0 h1 i hi]; simp
  · exact h1
/-- e1 X / pop X at most e1 S / pop S -/
def le1 (n : Nat) (f : Nat → Nat) (X S : Nat) : Prop := e1 n f X * pop S ≤ e1 n f S * pop X
theorem fr_tr {a p b q c r : Nat} (h1 : a * q ≤ b * p) (h2 : b * r ≤ c * q) (hq : 0 < q) : a * r ≤ c * p := by
  have h3 : a * q * r ≤ b * p * r := Nat.mul_le_mul_right r h1
  have h4 : b * r * p ≤ c * q * p := Nat.mul_le_mul_right p h2
  have h5 : q * (a * r) ≤ q * (c * p) := by
    have e1 : q * (a * r) = a * q * r := by rw [Nat.mul_comm a q, Nat.mul_assoc]
    have e2 : q * (c * p) = c * q * p := by rw [Nat.mul_comm c q, Nat.mul_assoc]
    have e3 : b * p * r = b * r * p := Nat.mul_right_comm b p r
    omega
  exact Nat.le_of_mul_le_mul_left h5 hq
theorem le1_tr {X S T : Nat} (h1 : le1 n f X S) (h2 : le1 n f S T) (hs : 0 < pop S) : le1 n f X T := fr_tr h1 h2 hs
/-- THE DENSEST -/
def isDen (n : Nat) (f : Nat → Nat) (S : Nat) : Prop := S < 2 ^ n ∧ S ≠ 0 ∧ (∀ X, X < 2 ^ n → X ≠ 0 → le1 n f X S) ∧ ∀ X, X < 2 ^ n → X ≠ 0 → le1 n f S X → sub X S
theorem sub_eq {S T : Nat} (h1 : sub S T) (h2 : sub T S) : S = T := by
  apply Nat.eq_of_testBit_eq
  intro i
  cases hs : S.testBit i with
  | true => rw [h1 i hs]
  | false =>
    cases ht : T.testBit i with
    | false => rfl
    | true => rw [h2 i ht] at hs; cases hs
theorem den_one {S T : Nat} (h1 : isDen n f S) (h2 : isDen n f T) : S = T :=
  sub_eq (h2.2.2.2 S h1.1 h1.2.1 (h1.2.2.1 T h2.1 h2.2.1)) (h1.2.2.2 T h2.1 h2.2.1 (h2.2.2.1 S h1.1 h1.2.1))
/-- the union of two that are alike is no thinner, if what they share isn't denser -/
theorem le1_or {A B : Nat} (hA : 0 < pop A) (hB : 0 < pop B) (h1 : le1 n f A B) (h3 : e1 n f (A &&& B) * pop A ≤ e1 n f A * pop (A &&& B)) : le1 n f A (A ||| B) := by
  have hs := e1_super (n := n) (f := f) A B
  have hp := pop_or (A := A) (B := B)
  show e1 n f A * pop (A ||| B) ≤ e1 n f (A ||| B) * pop A
  have h1 : e1 n f A * pop B ≤ e1 n f B * pop A := h1
  generalize e1 n f A = a at *
  generalize e1 n f B = b at *
  generalize e1 n f (A ||| B) = u at *
  generalize e1 n f (A &&& B) = i at *
  generalize pop A = pa at *
  generalize pop B = pb at *
  generalize pop (A ||| B) = pu at *
  generalize pop (A &&& B) = pi at *
  have k1 : (a + b) * pa ≤ (u + i) * pa := Nat.mul_le_mul_right pa hs
  have k2 : a * (pu + pi) = a * (pa + pb) := by rw [hp]
  rw [Nat.add_mul, Nat.add_mul] at k1
  rw [Nat.mul_add, Nat.mul_add] at k2
  omega
end DN
end
section
/-! a node changes its side: edges within, edges out; the walk over all sets -/
theorem sm_pick {g : Nat → Nat} {n v : Nat} (hv : v < n) : sm (fun x => bif decide (x = v) then g x else 0) n = g v := by
  have h := sm_one (g := fun x => bif decide (x = v) then g x else 0) (g' := fun _ => 0) hv (fun i _ hi => by simp [hi])
  rw [sm_zero] at h
  simp at h
  exact h
def tg (S v : Nat) : Nat := S ^^^ 2 ^ v
theorem tb_tg (S v i : Nat) : (tg S v).testBit i = (S.testBit i ^^ decide (v = i)) := by rw [tg, Nat.testBit_xor, tb_pow]
theorem tg_lt {S v n : Nat} (h : S < 2 ^ n) (hv : v < n) : tg S v < 2 ^ n := Nat.xor_lt_two_pow h (Nat.pow_lt_pow_right (by decide) hv)
theorem tg_tg (S v : Nat) : tg (tg S v) v = S := by
  apply Nat.eq_of_testBit_eq
  intro i
  rw [tb_tg, tb_tg]
  cases S.testBit i <;> cases decide (v = i) <;> rfl
def ct (n : Nat) (f : Nat → Nat) (S : Nat) : Nat := sm (fun v => bif S.testBit v then pop (sd (f v) S) else 0) n
def ca (f : Nat → Nat) (S v u : Nat) : Nat := (S.testBit v && !S.testBit u && (f v).testBit u).toNat
section CT
variable {n : Nat} {f : Nat → Nat}
theorem pop_sd {S T : Nat} (h : S < 2 ^ n) (hn : n ≤ 12) : pop (sd S T) = cn (fun i => S.testBit i && !T.testBit i) n := by
  rw [pop_n (sd_lt h) hn]
  exact cn_congr (fun i _ => tb_sd S T i)
theorem ct_ca (hG : Gr n f) (S : Nat) : ct n f S = sm (fun v => sm (ca f S v) n) n := by
  refine sm_congr (fun v hv => ?_)
  cases hs : S.testBit v with
  | false => exact (sm_zero' (fun u _ => by simp [ca, hs])).symm
  | true =>
    show pop (sd (f v) S) = _
    rw [pop_sd (hG.2.1 v hv) hG.1]
    refine sm_congr (fun u _ => ?_)
    simp only [ca, hs, Bool.true_and]
    rw [Bool.and_comm]
theorem ct_not (hG : Gr n f) {S : Nat} (hS : S < 2 ^ n) : ct n f (sd (2 ^ n - 1) S) = ct n f S := by
  rw [ct_ca hG, ct_ca hG, sm_swap]
  refine sm_congr (fun v hv => sm_congr (fun u hu => ?_))
  unfold ca
  rw [tb_sd, tb_sd, tb_all, tb_all, hG.2.2.2 u v hu hv]
  simp [hu, hv]
  cases S.testBit u <;> cases S.testBit v <;> cases (f v).testBit u <;> rfl
theorem dg_tg (hG : Gr n f) {S v : Nat} (hv : v < n) : dg f (tg S v) v = dg f S v := by
  rw [dg_n hG hv, dg_n hG hv]
  refine cn_congr (fun i _ => ?_)
  rw [tb_tg]
  by_cases hi : v = i
  · subst hi; rw [hG.2.2.1 v hv]; rfl
  · simp [hi]
theorem dg_row (hG : Gr n f) {S v : Nat} (hv : v < n) : sm (fun x => (S.testBit x && (f x).testBit v).toNat) n = dg f S v := by
  rw [dg_n hG hv]
  refine sm_congr (fun x hx => ?_)
  rw [hG.2.2.2 x v hx hv, Bool.and_comm]
theorem e2_tg (hG : Gr n f) {S v : Nat} (hv : v < n) (h : S.testBit v = false) : e2 n f (tg S v) = e2 n f S + 2 * dg f S v := by
  rw [e2_ea hG, e2_ea hG]
  have key : ∀ x, x < n → ∀ y, y < n → ea f (tg S v) x y = ea f S x y + (bif decide (x = v) then (S.testBit y && (f y).testBit v).toNat else 0) + (bif decide (y = v) then (S.testBit x && (f x).testBit v).toNat else 0) := by
    intro x hx y hy
    unfold ea
    rw [tb_tg, tb_tg]
    by_cases h1 : x = v
    · subst h1
      by_cases h2 : y = x
      · subst h2; simp [h, hG.2.2.1 y hy]
      · have h3 : ¬ x = y := fun z => h2 z.symm
        rw [hG.2.2.2 x y hx hy]
        simp [h, h2, h3]
    · have h3 : ¬ v = x := fun z => h1 z.symm
      by_cases h2 : y = v
      · subst h2; simp [h, h1, h3]
      · have h4 : ¬ v = y := fun z => h2 z.symm
        simp [h1, h2, h3, h4]
  rw [sm_congr (fun x hx => sm_congr (fun y hy => key x hx y hy))]
  rw [sm_congr (g' := fun x => sm (ea f S x) n + (bif decide (x = v) then dg f S v else 0) + (S.testBit x && (f x).testBit v).toNat) (fun x hx => by
    rw [sm_add, sm_add, sm_pick hv]
    congr 2
    by_cases h1 : x = v
    · simp only [h1, decide_true, cond_true]; exact dg_row hG hv
    · simp only [h1, decide_false, cond_false]; exact sm_zero n)]
  rw [sm_add, sm_add, dg_row hG hv, sm_pick (g := fun _ => dg f S v) hv]
  omega
theorem e1_in (hG : Gr n f) {S v : Nat} (hv : v < n) (h : S.testBit v = false) : e1 n f (tg S v) = e1 n f S + dg f S v := by
  have := e2_tg hG hv h
  rw [e2_e1 hG, e2_e1 hG] at this
  omega
theorem e1_out (hG : Gr n f) {S v : Nat} (hv : v < n) (h : S.testBit v = true) : e1 n f S = e1 n f (tg S v) + dg f S v := by
  have := e1_in hG (S := tg S v) hv (by rw [tb_tg, h]; simp)
  rw [tg_tg, dg_tg hG hv] at this
  exact this
theorem dg_out (hG : Gr n f) {S v : Nat} (hv : v < n) : dg f S v + sm (fun y => (!S.testBit y && (f v).testBit y).toNat) n = pop (f v) := by
  rw [dg_n hG hv, pop_n (hG.2.1 v hv) hG.1]
  show sm _ n + sm _ n = sm _ n
  rw [← sm_add]
  refine sm_congr (fun y _ => ?_)
  dsimp only
  cases S.testBit y <;> cases (f v).testBit y <;> rfl
theorem ct_in (hG : Gr n f) {S v : Nat} (hv : v < n) (h : S.testBit v = false) : ct n f (tg S v) + 2 * dg f S v = ct n f S + pop (f v) := by
  rw [ct_ca hG, ct_ca hG]
  have key : ∀ x, x < n → ∀ y, y < n → ca f (tg S v) x y + (bif decide (y = v) then (S.testBit x && (f x).testBit v).toNat else 0) = ca f S x y + (bif decide (x = v) then (!S.testBit y && (f v).testBit y).toNat else 0) := by
    intro x hx y hy
    unfold ca
    rw [tb_tg, tb_tg]
    by_cases h1 : x = v
    · subst h1
      by_cases h2 : y = x
      · subst h2; simp [h, hG.2.2.1 y hy]
      · have h3 : ¬ x = y := fun z => h2 z.symm
        simp [h, h2, h3]
    · have h3 : ¬ v = x := fun z => h1 z.symm
      by_cases h2 : y = v
      · subst h2; simp [h, h1, h3]
      · have h4 : ¬ v = y := fun z => h2 z.symm
        simp [h1, h2, h3, h4]
  have s1 : sm (fun x => sm (ca f (tg S v) x) n) n + dg f S v = sm (fun x => sm (ca f S x) n) n + sm (fun y => (!S.testBit y && (f v).testBit y).toNat) n := by
    rw [← dg_row hG hv (S := S), ← sm_pick (g := fun _ => sm (fun y => (!S.testBit y && (f v).testBit y).toNat) n) hv, ← sm_add, ← sm_add]
    refine sm_congr (fun x hx => ?_)
    have k := sm_congr (fun y hy => key x hx y hy)
    rw [sm_add, sm_add, sm_pick hv] at k
    rw [k]
    congr 1
    by_cases h1 : x = v
    · simp only [h1, decide_true, cond_true]
    · simp only [h1, decide_false, cond_false]; exact sm_zero n
  have s2 := dg_out hG hv (S := S)
  omega
theorem ct_out (hG : Gr n f) {S v : Nat} (hv : v < n) (h : S.testBit v = true) : ct n f (tg S v) + pop (f v) = ct n f S + 2 * dg f S v := by
  have := ct_in hG (S := tg S v) hv (by rw [tb_tg, h]; simp)
  rw [tg_tg, dg_tg hG hv] at this
  omega
theorem ct_0 : ct n f 0 = 0 := sm_zero' (fun v _ => by simp)
end CT
/-- the least bit of a number below 4096 -/
def lsb (s : Nat) : Nat := bif s.testBit 0 then 0 else bif s.testBit 1 then 1 else bif s.testBit 2 then 2 else bif s.testBit 3 then 3 else bif s.testBit 4 then 4 else bif s.testBit 5 then 5 else bif s.testBit 6 then 6 else bif s.testBit 7 then 7 else bif s.testBit 8 then 8 else bif s.testBit 9 then 9 else bif s.testBit 10 then 10 else 11
def gray (s : Nat) : Nat := s ^^^ (s >>> 1)
def ginv (s : Nat) : Nat := s ^^^ (s >>> 1) ^^^ (s >>> 2) ^^^ (s >>> 3) ^^^ (s >>> 4) ^^^ (s >>> 5) ^^^ (s >>> 6) ^^^ (s >>> 7) ^^^ (s >>> 8) ^^^ (s >>> 9) ^^^ (s >>> 10) ^^^ (s >>> 11)
theorem gray_all : ((List.range 4096).all fun s => (s == 0 || (gray s == gray (s - 1) ^^^ 2 ^ lsb s && decide (2 ^ lsb s ≤ s) && s.testBit (lsb s))) && gray (ginv s) == s && (s == 0 || decide (0 < ginv s)) && (List.range 13).all fun n => decide (s < 2 ^ n → ginv s < 2 ^ n)) = true := by decide +kernel
theorem gray_at {s : Nat} (hs : s < 4096) : (s = 0 ∨ (gray s = tg (gray (s - 1)) (lsb s) ∧ 2 ^ lsb s ≤ s ∧ s.testBit (lsb s) = true)) ∧ gray (ginv s) = s ∧ (s = 0 ∨ 0 < ginv s) ∧ ∀ n, n ≤ 12 → s < 2 ^ n → ginv s < 2 ^ n := by
  have h := List.all_eq_true.mp gray_all s (List.mem_range.mpr hs)
  simp only [Bool.and_eq_true, Bool.or_eq_true, beq_iff_eq, decide_eq_true_eq, List.all_eq_true, List.mem_range] at h
  obtain ⟨⟨⟨h1, h2⟩, h3⟩, h4⟩ := h
  refine ⟨?_, h2, h3, fun n hn => h4 n (by omega)⟩
  rcases h1 with h1 | ⟨⟨h1, h5⟩, h6⟩
  · exact Or.inl h1
  · exact Or.inr ⟨h1, h5, h6⟩
theorem gray_0 : gray 0 = 0 := by decide
theorem gray_lt {s n : Nat} (h : s < 2 ^ n) : gray s < 2 ^ n := Nat.xor_lt_two_pow h (Nat.lt_of_le_of_lt (by rw [Nat.shiftRight_eq_div_pow]; exact Nat.div_le_self _ _) h)
theorem lsb_lt {s n : Nat} (hs : s < 2 ^ n) (h0 : s ≠ 0) (hn : n ≤ 12) : lsb s < n := by
  have h := (gray_at (Nat.lt_of_lt_of_le hs (p12 hn))).1
  rcases h with h | ⟨-, h, -⟩
  · exact absurd h h0
  · exact (Nat.pow_lt_pow_iff_right (by decide)).mp (Nat.lt_of_le_of_lt h hs)
end
section
/-! both ways of finding the densest find it; Euclid's way within fifty divisions -/
section DM
variable {n : Nat} {f : Nat → Nat}
def dmI (n : Nat) (f : Nat → Nat) (m b : Nat) : Prop := b < 2 ^ n ∧ b ≠ 0 ∧ ∀ X, 0 < X → X ≤ m → le1 n f X b ∧ (le1 n f b X → sub X b)
theorem sub_rf (S : Nat) : sub S S := fun _ h => h
theorem sub_or_l (A B : Nat) : sub A (A ||| B) := fun i h => by rw [Nat.testBit_or, h]; rfl
theorem sub_or_r (A B : Nat) : sub B (A ||| B) := fun i h => by rw [Nat.testBit_or, h]; simp
theorem sub_tr {A B C : Nat} (h1 : sub A B) (h2 : sub B C) : sub A C := fun i h => h2 i (h1 i h)
theorem le1_rf (S : Nat) : le1 n f S S := Nat.le_refl _
theorem dm_gt (hn : n ≤ 12) {m b : Nat} (h : dmI n f m b) (hs : m + 1 < 2 ^ n) (hx : e1 n f b * pop (m + 1) < e1 n f (m + 1) * pop b) : dmI n f (m + 1) (m + 1) := by
  obtain ⟨hb, hb0, hI⟩ := h
  have pb := pop_pos hb hn hb0
  refine ⟨hs, by omega, fun X h1 h2 => ?_⟩
  by_cases hX : X = m + 1
  · subst hX; exact ⟨le1_rf _, fun _ => sub_rf _⟩
  · obtain ⟨i1, i2⟩ := hI X h1 (by omega)
    refine ⟨le1_tr i1 (Nat.le_of_lt hx) pb, fun h3 => ?_⟩
    have pX := pop_pos (n := n) (S := X) (by omega) hn (by omega)
    have h4 : le1 n f (m + 1) b := le1_tr h3 i1 pX
    unfold le1 at h4
    omega
theorem dm_lt {m b : Nat} (h : dmI n f m b) (hx : e1 n f (m + 1) * pop b < e1 n f b * pop (m + 1)) : dmI n f (m + 1) b := by
  obtain ⟨hb, hb0, hI⟩ := h
  refine ⟨hb, hb0, fun X h1 h2 => ?_⟩
  by_cases hX : X = m + 1
  · subst hX
    refine ⟨Nat.le_of_lt hx, fun h3 => ?_⟩
    unfold le1 at h3
    omega
  · exact hI X h1 (by omega)
theorem and_sub {A B : Nat} (h : A &&& B = B) : sub B A := fun i hi => by
  rw [← h, Nat.testBit_and, Bool.and_eq_true] at hi
  exact hi.1
theorem dm_eq (hn : n ≤ 12) {m b : Nat} (h : dmI n f m b) (hs : m + 1 < 2 ^ n) (hx : e1 n f (m + 1) * pop b = e1 n f b * pop (m + 1)) : dmI n f (m + 1) (b ||| (m + 1)) := by
  obtain ⟨hb, hb0, hI⟩ := h
  have pb := pop_pos hb hn hb0
  have ps := pop_pos hs hn (by omega)
  have h3 : e1 n f (b &&& (m + 1)) * pop b ≤ e1 n f b * pop (b &&& (m + 1)) := by
    by_cases h0 : b &&& (m + 1) = 0
    · rw [h0, e1_0, pop_0]; omega
    · by_cases h1 : b &&& (m + 1) = m + 1
      · rw [h1]; exact Nat.le_of_eq hx
      · have h2 : b &&& (m + 1) ≤ m + 1 := Nat.and_le_right
        exact (hI _ (by omega) (by omega)).1
  have hu : le1 n f b (b ||| (m + 1)) := le1_or pb ps (Nat.le_of_eq hx.symm) h3
  refine ⟨Nat.or_lt_two_pow hb hs, fun h0 => hb0 (Nat.or_eq_zero_iff.mp h0).1, fun X h1 h2 => ?_⟩
  have pX := pop_pos (n := n) (S := X) (by omega) hn (by omega)
  by_cases hX : X = m + 1
  · subst hX
    exact ⟨le1_tr (Nat.le_of_eq hx) hu pb, fun _ => sub_or_r _ _⟩
  · obtain ⟨i1, i2⟩ := hI X h1 (by omega)
    refine ⟨le1_tr i1 hu pb, fun h4 => sub_tr (i2 ?_) (sub_or_l _ _)⟩
    exact le1_tr hu h4 (pop_pos (Nat.or_lt_two_pow hb hs) hn (fun h0 => hb0 (Nat.or_eq_zero_iff.mp h0).1))
theorem dm_end {b : Nat} (h : dmI n f (2 ^ n - 1) b) : isDen n f b := by
  obtain ⟨hb, hb0, hI⟩ := h
  exact ⟨hb, hb0, fun X h1 h2 => (hI X (by omega) (by omega)).1, fun X h1 h2 => (hI X (by omega) (by omega)).2⟩
/-- the walk of one node at a step: b is the best of those seen -/
def dcI (n : Nat) (f : Nat → Nat) (m b : Nat) : Prop := b < 2 ^ n ∧ b ≠ 0 ∧ ∀ i, 0 < i → i ≤ m → le1 n f (gray i) b ∧ (le1 n f b (gray i) → pop (gray i) ≤ pop b)
theorem gray_ne {s : Nat} (hs : s < 4096) (h : 0 < s) : gray s ≠ 0 := by
  intro h0
  have h1 := (gray_at hs).1
  rcases h1 with h1 | ⟨h1, h2, h3⟩
  · omega
  · have h4 : s ^^^ (s >>> 1) = 0 := h0
    have h5 : s = s >>> 1 := by
      apply Nat.eq_of_testBit_eq
      intro i
      have : (s ^^^ (s >>> 1)).testBit i = false := by rw [h4]; simp
      rw [Nat.testBit_xor] at this
      revert this
      cases s.testBit i <;> cases (s >>> 1).testBit i <;> simp
    rw [Nat.shiftRight_eq_div_pow] at h5
    omega
theorem dc_new (hn : n ≤ 12) {m b : Nat} (h : dcI n f m b) (hs : m + 1 < 2 ^ n) (hx : e1 n f b * pop (gray (m + 1)) < e1 n f (gray (m + 1)) * pop b ∨ (e1 n f (gray (m + 1)) * pop b = e1 n f b * pop (gray (m + 1)) ∧ pop b < pop (gray (m + 1)))) : dcI n f (m + 1) (gray (m + 1)) := by
  obtain ⟨hb, hb0, hI⟩ := h
  have pb := pop_pos hb hn hb0
  have h4 := p12 hn
  refine ⟨gray_lt hs, gray_ne (by omega) (by omega), fun i h1 h2 => ?_⟩
  by_cases hi : i = m + 1
  · subst hi; exact ⟨le1_rf _, fun _ => Nat.le_refl _⟩
  · obtain ⟨i1, i2⟩ := hI i h1 (by omega)
    have hle : le1 n f b (gray (m + 1)) := by
      unfold le1
      rcases hx with hx | ⟨hx, -⟩ <;> omega
    refine ⟨le1_tr i1 hle pb, fun h3 => ?_⟩
    have pX : 0 < pop (gray i) := pop_pos (n := n) (gray_lt (by omega)) hn (gray_ne (by omega) h1)
    have h5 : le1 n f (gray (m + 1)) b := le1_tr h3 i1 pX
    have h6 : le1 n f b (gray i) := le1_tr hle h3 (pop_pos (n := n) (gray_lt hs) hn (gray_ne (by omega) (by omega)))
    have h7 := i2 h6
    unfold le1 at h5
    rcases hx with hx | ⟨hx, h8⟩ <;> omega
theorem dc_old {m b : Nat} (h : dcI n f m b) (hx : ¬ (e1 n f b * pop (gray (m + 1)) < e1 n f (gray (m + 1)) * pop b ∨ (e1 n f (gray (m + 1)) * pop b = e1 n f b * pop (gray (m + 1)) ∧ pop b < pop (gray (m + 1))))) : dcI n f (m + 1) b := by
  obtain ⟨hb, hb0, hI⟩ := h
  refine ⟨hb, hb0, fun i h1 h2 => ?_⟩
  by_cases hi : i = m + 1
  · subst hi
    refine ⟨?_, fun h3 => ?_⟩
    · unfold le1; omega
    · unfold le1 at h3; omega
  · exact hI i h1 (by omega)
theorem dc_first (hn : n ≤ 12) (hs : 1 < 2 ^ n) : dcI n f 1 (gray 1) := by
  refine ⟨gray_lt hs, by decide, fun i h1 h2 => ?_⟩
  have : i = 1 := by omega
  subst this
  exact ⟨le1_rf _, fun _ => Nat.le_refl _⟩
theorem dc_end (hn : n ≤ 12) {b : Nat} (h : dcI n f (2 ^ n - 1) b) : isDen n f b := by
  obtain ⟨hb, hb0, hI⟩ := h
  have h4 := p12 hn
  have all : ∀ X, X < 2 ^ n → X ≠ 0 → le1 n f X b ∧ (le1 n f b X → pop X ≤ pop b) := by
    intro X hX hX0
    obtain ⟨-, g1, g2, g3⟩ := gray_at (s := X) (by omega)
    have g4 := g3 n hn hX
    have := hI (ginv X) (by omega) (by omega)
    rw [g1] at this
    exact this
  have pb := pop_pos hb hn hb0
  refine ⟨hb, hb0, fun X h1 h2 => (all X h1 h2).1, fun X h1 h2 h3 => ?_⟩
  have pX := pop_pos h1 hn h2
  have hU : b ||| X < 2 ^ n := Nat.or_lt_two_pow hb h1
  have hU0 : b ||| X ≠ 0 := fun h0 => hb0 (Nat.or_eq_zero_iff.mp h0).1
  have h5 : e1 n f (b &&& X) * pop b ≤ e1 n f b * pop (b &&& X) := by
    by_cases h0 : b &&& X = 0
    · rw [h0, e1_0, pop_0]; omega
    · exact (all _ (Nat.lt_of_le_of_lt Nat.and_le_left hb) h0).1
  have h6 := (all _ hU hU0).2 (le1_or pb pX h3 h5)
  have h7 : ∀ i, i < n → b.testBit i = (b ||| X).testBit i := by
    refine cn_eq (fun i _ hi => sub_or_l b X i hi) ?_
    rw [← pop_n hU hn, ← pop_n hb hn]
    exact h6
  intro i hi
  rcases Nat.lt_or_ge i n with h8 | h8
  · rw [h7 i h8]; exact sub_or_r b X i hi
  · rw [tb_hi h1 h8] at hi; cases hi
end DM
def eu : Nat → Nat × Nat → Nat × Nat
  | 0, q => q
  | s + 1, (a, b) => if b = 0 then (a, b) else eu s (b, a % b)
theorem eu_end (j : Nat) : ∀ (s a b : Nat), b < 2 ^ j → 2 * j ≤ s → eu s (a, b) = (Nat.gcd a b, 0) := by
  induction j with
  | zero =>
    intro s a b hb hs
    have h0 : b = 0 := by omega
    subst h0
    cases s with
    | zero => simp [eu]
    | succ s => simp [eu]
  | succ j ih =>
    intro s a b hb hs
    obtain ⟨s, rfl⟩ : ∃ t, s = t + 2 := ⟨s - 2, by omega⟩
    by_cases h0 : b = 0
    · subst h0; simp [eu]
    · have hr : a % b < b := Nat.mod_lt _ (by omega)
      by_cases h1 : a % b = 0
      · have e : eu (s + 2) (a, b) = (b, 0) := by
          simp only [eu, if_neg h0, h1]
          simp
        rw [e, Nat.gcd_comm, Nat.gcd_rec, h1, Nat.gcd_zero_left]
      · have hq : b % (a % b) < a % b := Nat.mod_lt _ (by omega)
        have hd : b % (a % b) + a % b ≤ b := by
          have h2 := Nat.div_add_mod b (a % b)
          have h3 : 1 ≤ b / (a % b) := (Nat.one_le_div_iff (by omega)).mpr (by omega)
          have h4 : a % b * 1 ≤ a % b * (b / (a % b)) := Nat.mul_le_mul_left _ h3
          omega
        have hp : 2 ^ (j + 1) = 2 * 2 ^ j := by rw [Nat.pow_succ, Nat.mul_comm]
        have e : eu (s + 2) (a, b) = eu s (a % b, b % (a % b)) := by
          simp only [eu, if_neg h0, if_neg h1]
        rw [e, ih s _ _ (by omega) (by omega)]
        congr 1
        rw [Nat.gcd_comm a b, Nat.gcd_rec b a, Nat.gcd_comm (a % b) b, Nat.gcd_comm (a % b), ← Nat.gcd_rec]
        exact Nat.gcd_comm _ _
end
section
/-! edges by their triangles -/
section TR
variable {n : Nat} {f : Nat → Nat}
def Fam (n : Nat) (f t : Nat → Nat) : Prop := (∀ v, v < n → sub (t v) (f v)) ∧ ∀ u v, u < n → v < n → (t u).testBit v = (t v).testBit u
def clT (n s : Nat) (t : Nat → Nat) : Prop := ∀ a b, a < n → b < n → (t a).testBit b = true → s ≤ pop (t a &&& t b)
def topT (n : Nat) (f : Nat → Nat) (s : Nat) (t : Nat → Nat) : Prop := Fam n f t ∧ ∀ t', Fam n f t' → clT n s t' → ∀ v, v < n → sub (t' v) (t v)
def isTr (n : Nat) (f : Nat → Nat) (s : Nat) (t : Nat → Nat) : Prop := topT n f s t ∧ clT n s t
def mem (n : Nat) (f : Nat → Nat) (s a b : Nat) : Prop := ∃ t', Fam n f t' ∧ clT n s t' ∧ (t' a).testBit b = true
theorem tr_mem {s a b : Nat} {t : Nat → Nat} (h : isTr n f s t) (ha : a < n) : (t a).testBit b = true ↔ mem n f s a b := by
  constructor
  · intro hb; exact ⟨t, h.1.1, h.2, hb⟩
  · rintro ⟨t', h1, h2, h3⟩
    exact h.1.2 t' h1 h2 a ha b h3
theorem fam_lt (hG : Gr n f) {t : Nat → Nat} (h : Fam n f t) {v : Nat} (hv : v < n) : t v < 2 ^ n := by
  have h1 := hG.2.1 v hv
  apply Nat.lt_pow_two_of_testBit
  intro i hi
  cases ht : (t v).testBit i with
  | false => rfl
  | true =>
    have := h.1 v hv i ht
    rw [tb_hi h1 hi] at this
    cases this
theorem pop_sub {A B m : Nat} (hA : A < 2 ^ m) (hB : B < 2 ^ m) (hm : m ≤ 12) (h : sub A B) : pop A ≤ pop B := by
  rw [pop_n hA hm, pop_n hB hm]
  exact cn_le (fun i _ hi => h i hi)
theorem sub_and {A B C D : Nat} (h1 : sub A C) (h2 : sub B D) : sub (A &&& B) (C &&& D) := fun i hi => by
  rw [Nat.testBit_and, Bool.and_eq_true] at hi ⊢
  exact ⟨h1 i hi.1, h2 i hi.2⟩
theorem and_lt {A B m : Nat} (hA : A < 2 ^ m) : A &&& B < 2 ^ m := Nat.lt_of_le_of_lt Nat.and_le_left hA
def rmE (t : Nat → Nat) (a b : Nat) : Nat → Nat := fun v => if v = a then sd (t a) (2 ^ b) else if v = b then sd (t b) (2 ^ a) else t v
theorem tb_rmE {t : Nat → Nat} {a b : Nat} (hab : a ≠ b) (v i : Nat) : (rmE t a b v).testBit i = ((t v).testBit i && !((decide (v = a) && decide (i = b)) || (decide (v = b) && decide (i = a)))) := by
  unfold rmE
  by_cases h1 : v = a
  · subst h1
    rw [if_pos rfl, tb_sd, tb_pow]
    have : ¬ v = b := hab
    simp [this, eq_comm]
  · rw [if_neg h1]
    by_cases h2 : v = b
    · subst h2
      rw [if_pos rfl, tb_sd, tb_pow]
      simp [h1, eq_comm]
    · rw [if_neg h2]; simp [h1, h2]
theorem top_rm (hG : Gr n f) {s a b : Nat} {t : Nat → Nat} (h : topT n f s t) (ha : a < n) (hb : b < n) (hab : a ≠ b) (hlt : pop (t a &&& t b) < s) : topT n f s (rmE t a b) := by
  obtain ⟨⟨h1, h2⟩, h3⟩ := h
  refine ⟨⟨fun v hv i hi => ?_, fun u v hu hv => ?_⟩, fun t' hF hc v hv i hi => ?_⟩
  · rw [tb_rmE hab, Bool.and_eq_true] at hi
    exact h1 v hv i hi.1
  · rw [tb_rmE hab, tb_rmE hab, h2 u v hu hv]
    congr 2
    rw [Bool.or_comm, Bool.and_comm (decide (u = b)), Bool.and_comm (decide (u = a))]
  · rw [tb_rmE hab, h3 t' hF hc v hv i hi]
    have hno : ¬ (t' a).testBit b = true := by
      intro hz
      have k1 := hc a b ha hb hz
      have k2 : pop (t' a &&& t' b) ≤ pop (t a &&& t b) := pop_sub (and_lt (fam_lt hG hF ha)) (and_lt (fam_lt hG ⟨h1, h2⟩ ha)) hG.1 (sub_and (h3 t' hF hc a ha) (h3 t' hF hc b hb))
      omega
    simp only [Bool.true_and, Bool.not_eq_true']
    cases hq : ((decide (v = a) && decide (i = b)) || (decide (v = b) && decide (i = a))) with
    | false => rfl
    | true =>
      exfalso
      simp only [Bool.or_eq_true, Bool.and_eq_true, decide_eq_true_eq] at hq
      rcases hq with ⟨rfl, rfl⟩ | ⟨rfl, rfl⟩
      · exact hno hi
      · exact hno (by rw [hF.2 i v ha hb]; exact hi)
def mt (n : Nat) (t : Nat → Nat) : Nat := sm (fun v => pop (t v)) n
theorem pop_rm {A b m : Nat} (hA : A < 2 ^ m) (hm : m ≤ 12) (hb : A.testBit b = true) : pop (sd A (2 ^ b)) + 1 = pop A := by
  have hbm : b < m := by
    rcases Nat.lt_or_ge b m with h | h
    · exact h
    · rw [tb_hi hA h] at hb; cases hb
  rw [pop_sd hA hm, pop_n hA hm]
  have e := sm_one (g := fun i => (A.testBit i && !(2 ^ b).testBit i).toNat) (g' := fun i => (A.testBit i).toNat) hbm (fun i _ hi => by
    have hz : ¬ b = i := fun z => hi z.symm
    simp [tb_pow, hz])
  simp only [tb_pow, hb, decide_true, Bool.not_true, Bool.and_false, Bool.toNat_false, Bool.toNat_true] at e
  show sm _ m + 1 = sm _ m
  simp only [tb_pow]
  exact e
theorem mt_rm (hG : Gr n f) {a b : Nat} {t : Nat → Nat} (h : Fam n f t) (ha : a < n) (hb : b < n) (hab : a ≠ b) (hz : (t a).testBit b = true) : mt n (rmE t a b) + 2 = mt n t := by
  have e1 := sm_one (g := fun v => pop (rmE t a b v)) (g' := fun v => if v = a then pop (t a) else pop (rmE t a b v)) ha (fun i _ hi => by simp [hi])
  have e2 := sm_one (g := fun v => if v = a then pop (t a) else pop (rmE t a b v)) (g' := fun v => pop (t v)) hb (fun i _ hi => by
    by_cases hia : i = a
    · subst hia; simp
    · simp only [hia, if_false, rmE, hi])
  have k1 := pop_rm (fam_lt hG h ha) hG.1 hz
  have k2 := pop_rm (fam_lt hG h hb) hG.1 (b := a) (by rw [h.2 b a hb ha]; exact hz)
  have hba : ¬ b = a := fun z => hab z.symm
  simp only [if_true, rmE, hba, if_false] at e1 e2
  show sm (fun v => pop (rmE t a b v)) n + 2 = sm (fun v => pop (t v)) n
  simp only [rmE] at *
  omega
theorem mt_le (hG : Gr n f) {t : Nat → Nat} (h : Fam n f t) : mt n t ≤ n * (n - 1) := by
  refine sm_bound (fun v hv => ?_)
  rw [pop_n (fam_lt hG h hv) hG.1]
  have k := cn_lt (p := (t v).testBit) (q := fun _ => true) (n := n) (v := v) (fun _ _ _ => rfl) hv (by
    cases ht : (t v).testBit v with
    | false => rfl
    | true => have := h.1 v hv v ht; rw [hG.2.2.1 v hv] at this; cases this) rfl
  have k2 := cn_n (fun _ => true) n
  omega
theorem mt_0 (hG : Gr n f) {t : Nat → Nat} (h : Fam n f t) (h0 : mt n t = 0) (s : Nat) : clT n s t := by
  intro a b ha hb hz
  have k := sm_ge (g := fun v => pop (t v)) ha
  have k2 : sm (fun v => pop (t v)) n = 0 := h0
  have k3 : pop (t a) = 0 := by omega
  rw [pop_n (fam_lt hG h ha) hG.1] at k3
  rw [cn_0 k3 b hb] at hz
  cases hz
theorem top_f (hG : Gr n f) (s : Nat) : topT n f s f := ⟨⟨fun _ _ _ h => h, hG.2.2.2⟩, fun t' h _ v hv => h.1 v hv⟩
theorem top_s {s : Nat} {t : Nat → Nat} (h : topT n f s t) : topT n f (s + 1) t := ⟨h.1, fun t' h1 h2 => h.2 t' h1 (fun a b ha hb hz => by have := h2 a b ha hb hz; omega)⟩
theorem mem_s {s a b : Nat} (h : mem n f (s + 1) a b) : mem n f s a b := by
  obtain ⟨t', h1, h2, h3⟩ := h
  exact ⟨t', h1, fun x y hx hy hz => by have := h2 x y hx hy hz; omega, h3⟩
theorem mem_n (hG : Gr n f) {s a b : Nat} (ha : a < n) (hb : b < n) (h : mem n f s a b) : s + 2 ≤ n := by
  obtain ⟨t', h1, h2, h3⟩ := h
  have k := h2 a b ha hb h3
  have na : ∀ v, v < n → (t' v).testBit v = false := fun v hv => by
    cases ht : (t' v).testBit v with
    | false => rfl
    | true => have := h1.1 v hv v ht; rw [hG.2.2.1 v hv] at this; cases this
  have hab : a ≠ b := fun z => by subst z; rw [na a ha] at h3; cases h3
  rw [pop_and (fam_lt hG h1 ha) hG.1] at k
  have k1 := cn_lt (p := fun i => (t' a).testBit i && (t' b).testBit i) (q := fun i => !decide (i = a)) (n := n) (v := b) (fun i _ hi => by
    by_cases hia : i = a
    · subst hia; rw [na i ha] at hi; simp at hi
    · simp [hia]) hb (by rw [na b hb]; simp) (by simp; exact fun z => hab z.symm)
  have k2 := cn_lt (p := fun i => !decide (i = a)) (q := fun _ => true) (n := n) (v := a) (fun _ _ _ => rfl) ha (by simp) rfl
  have k3 := cn_n (fun _ => true) n
  omega
/-- THE TRUSS NUMBER -/
def isTN (n : Nat) (f : Nat → Nat) (a b r : Nat) : Prop := 2 ≤ r ∧ (2 < r → mem n f (r - 2) a b) ∧ ¬ mem n f (r - 1) a b
theorem mem_le {s s' a b : Nat} (h : mem n f s a b) (hs : s' ≤ s) : mem n f s' a b := by
  obtain ⟨t', h1, h2, h3⟩ := h
  exact ⟨t', h1, fun x y hx hy hz => Nat.le_trans hs (h2 x y hx hy hz), h3⟩
theorem tn_one {a b r r' : Nat} (h : isTN n f a b r) (h' : isTN n f a b r') : r = r' := by
  obtain ⟨h1, h2, h3⟩ := h
  obtain ⟨g1, g2, g3⟩ := h'
  rcases Nat.lt_trichotomy r r' with h | h | h
  · exact absurd (mem_le (g2 (by omega)) (by omega)) h3
  · exact h
  · exact absurd (mem_le (h2 (by omega)) (by omega)) g3
end TR
end
section
/-! triangles: counted at each corner, and counted once -/
theorem sm_tri {a : Nat → Nat → Nat → Nat} (h1 : ∀ u v w, a u v w = a v u w) (h2 : ∀ u v w, a u v w = a u w v) (h3 : ∀ u w, a u u w = 0) (n : Nat) :
    sm (fun v => sm (fun x => sm (a v x) x) n) n = 3 * sm (fun z => sm (fun y => sm (a z y) y) z) n := by
  induction n with
  | zero => rfl
  | succ n ih =>
    show sm (fun v => sm (fun x => sm (a v x) x) n + sm (a v n) n) n + (sm (fun x => sm (a n x) x) n + sm (a n n) n) = 3 * (sm (fun z => sm (fun y => sm (a z y) y) z) n + sm (fun y => sm (a n y) y) n)
    rw [sm_add, ih]
    have e1 : sm (fun v => sm (a v n) n) n = sm (fun v => sm (a n v) n) n := sm_congr (fun v _ => sm_congr (fun y _ => h1 v n y))
    have e2 : sm (fun v => sm (a n v) n) n = 2 * sm (fun v => sm (a n v) v) n := sm_sym (fun u v => h2 n u v) (fun v => by rw [h1 n v v, h2 v n v, h3 v n]) n
    have e3 : sm (a n n) n = 0 := sm_zero' (fun y _ => h3 n y)
    rw [e1, e2, e3]
    omega
def tri (f : Nat → Nat) (a b c : Nat) : Bool := (f a).testBit b && (f a).testBit c && (f b).testBit c
/-- how many triangles, as the walk over a < b < c finds them -/
def tI (f : Nat → Nat) (a b c : Nat) : Nat := (decide (a < b) && decide (b < c) && tri f a b c).toNat
def tc (n : Nat) (f : Nat → Nat) : Nat := sm (fun a => sm (fun b => sm (tI f a b) n) n) n
section TI
variable {n : Nat} {f : Nat → Nat}
theorem sm_cut {g : Nat → Nat} {m k : Nat} (h : k ≤ m) : sm (fun x => bif decide (x < k) then g x else 0) m = sm g k := by
  rw [sm_ext h (fun i h1 _ => by simp [Nat.not_lt.mpr h1])]
  exact sm_congr (fun i hi => by simp [hi])
theorem tri_3 (hG : Gr n f) : sm (fun v => e1 n f (f v)) n = 3 * tc n f := by
  have key := sm_tri (a := fun v x y => (decide (v < n) && decide (x < n) && decide (y < n) && ((f v).testBit x && (f v).testBit y && (f x).testBit y)).toNat)
    (fun u v w => by
      by_cases h1 : u < n
      · by_cases h2 : v < n
        · by_cases h3 : w < n
          · simp only [h1, h2, h3, decide_true, Bool.true_and]
            rw [hG.2.2.2 u v h1 h2]
            cases (f v).testBit u <;> cases (f u).testBit w <;> cases (f v).testBit w <;> rfl
          · simp [h3]
        · simp [h2]
      · simp [h1])
    (fun u v w => by
      by_cases h1 : u < n
      · by_cases h2 : v < n
        · by_cases h3 : w < n
          · simp only [h1, h2, h3, decide_true, Bool.true_and]
            rw [hG.2.2.2 v w h2 h3]
            cases (f u).testBit v <;> cases (f u).testBit w <;> cases (f w).testBit v <;> rfl
          · simp [h3]
        · simp [h2]
      · simp [h1])
    (fun u w => by
      by_cases h1 : u < n
      · simp [hG.2.2.1 u h1]
      · simp [h1]) n
  have l : sm (fun v => e1 n f (f v)) n = sm (fun v => sm (fun x => sm (fun y => (decide (v < n) && decide (x < n) && decide (y < n) && ((f v).testBit x && (f v).testBit y && (f x).testBit y)).toNat) x) n) n := by
    refine sm_congr (fun v hv => ?_)
    unfold e1
    refine sm_congr (fun x hx => sm_congr (fun y hy => ?_))
    unfold ea
    simp [hv, hx, show y < n by omega]
  rw [l, key]
  congr 1
  -- largest first, to smallest first
  have r1 : sm (fun z => sm (fun y => sm (fun x => (decide (z < n) && decide (y < n) && decide (x < n) && ((f z).testBit y && (f z).testBit x && (f y).testBit x)).toNat) y) z) n = sm (fun z => sm (fun y => sm (fun x => tI f x y z) n) n) n := by
    refine sm_congr (fun z hz => ?_)
    rw [← sm_cut (g := fun y => sm (fun x => (decide (z < n) && decide (y < n) && decide (x < n) && ((f z).testBit y && (f z).testBit x && (f y).testBit x)).toNat) y) (Nat.le_of_lt hz)]
    refine sm_congr (fun y hy => ?_)
    by_cases h1 : y < z
    · simp only [h1, decide_true, cond_true]
      rw [← sm_cut (g := fun x => (decide (z < n) && decide (y < n) && decide (x < n) && ((f z).testBit y && (f z).testBit x && (f y).testBit x)).toNat) (Nat.le_of_lt hy)]
      refine sm_congr (fun x hx => ?_)
      unfold tI tri
      by_cases h2 : x < y
      · simp only [h1, h2, hx, hy, hz, decide_true, cond_true, Bool.true_and]
        rw [hG.2.2.2 z y hz hy, hG.2.2.2 z x hz hx, hG.2.2.2 y x hy hx]
        cases (f y).testBit z <;> cases (f x).testBit z <;> cases (f x).testBit y <;> rfl
      · simp [h2]
    · simp only [h1, decide_false, cond_false]
      exact (sm_zero' (fun x _ => by simp [tI, h1])).symm
  rw [r1]
  unfold tc
  -- z y x to x y z
  rw [sm_swap (fun z y => sm (fun x => tI f x y z) n) n n]
  rw [sm_congr (g' := fun y => sm (fun x => sm (fun z => tI f x y z) n) n) (fun y _ => sm_swap (fun z x => tI f x y z) n n)]
  exact sm_swap (fun y x => sm (fun z => tI f x y z) n) n n
end TI
end
section
/-! rows of degrees made graphs -/
def up {α : Type} (g : Nat → α) (v : Nat) (x : α) : Nat → α := fun i => if i = v then x else g i
theorem up_s {α : Type} (g : Nat → α) (v : Nat) (x : α) : up g v x v = x := if_pos rfl
theorem up_n {α : Type} (g : Nat → α) (v : Nat) (x : α) {i : Nat} (h : i ≠ v) : up g v x i = g i := if_neg h
/-- who wants most of the first k, none of P, the least of several -/
def wm (w : Nat → Nat) (P : Nat) : Nat → Option Nat
  | 0 => none
  | k + 1 => match wm w P k with
    | none => bif !P.testBit k && decide (0 < w k) then some k else none
    | some b => bif !P.testBit k && decide (w b < w k) then some k else some b
theorem wm_in {w : Nat → Nat} {P k u : Nat} (h : wm w P k = some u) : u < k ∧ P.testBit u = false ∧ 0 < w u := by
  induction k generalizing u with
  | zero => cases h
  | succ k ih =>
    rw [wm] at h
    split at h
    · rename_i hk
      cases hc : (!P.testBit k && decide (0 < w k)) with
      | false => rw [hc] at h; cases h
      | true =>
        rw [hc] at h
        cases h
        simp only [Bool.and_eq_true, Bool.not_eq_true', decide_eq_true_eq] at hc
        exact ⟨by omega, hc.1, hc.2⟩
    · rename_i b hk
      obtain ⟨h1, h2, h3⟩ := ih hk
      cases hc : (!P.testBit k && decide (w b < w k)) with
      | false =>
        rw [hc] at h
        cases h
        exact ⟨by omega, h2, h3⟩
      | true =>
        rw [hc] at h
        cases h
        simp only [Bool.and_eq_true, Bool.not_eq_true', decide_eq_true_eq] at hc
        exact ⟨by omega, hc.1, by omega⟩
theorem wm_none {w : Nat → Nat} {P k : Nat} (h : wm w P k = none) : ∀ v, v < k → P.testBit v = false → w v = 0 := by
  induction k with
  | zero => intro v hv; omega
  | succ k ih =>
    rw [wm] at h
    split at h
    · rename_i hk
      cases hc : (!P.testBit k && decide (0 < w k)) with
      | true => rw [hc] at h; cases h
      | false =>
        intro v hv hp
        by_cases hvk : v = k
        · subst hvk
          rw [hp] at hc
          simp at hc
          exact hc
        · exact ih hk v (by omega) hp
    · rename_i b hk
      exfalso
      cases hc : (!P.testBit k && decide (w b < w k)) with
      | true => rw [hc] at h; cases h
      | false => rw [hc] at h; cases h
theorem wm_congr {w w' : Nat → Nat} {P k : Nat} (h : ∀ v, v < k → P.testBit v = false → w v = w' v) : wm w P k = wm w' P k := by
  induction k with
  | zero => rfl
  | succ k ih =>
    have e := ih (fun v hv => h v (by omega))
    rw [wm, wm, ← e]
    cases hp : P.testBit k with
    | true => split <;> simp
    | false =>
      have hk := h k (by omega) hp
      split
      · rw [hk]
      · rename_i b hb
        obtain ⟨b1, b2, -⟩ := wm_in hb
        rw [hk, h b (by omega) b2]
def ju (md : Nat → Nat) (v u : Nat) : Nat → Nat := up (up md v (md v ||| 2 ^ u)) u (up md v (md v ||| 2 ^ u) u ||| 2 ^ v)
/-- a node is joined with l others that want most -/
def sv (q : Nat) : Nat → Nat → (Nat → Nat) → (Nat → Nat) → Nat → Option ((Nat → Nat) × (Nat → Nat))
  | 0, _, w, md, _ => some (w, md)
  | l + 1, v, w, md, P => match wm w P q with
    | none => none
    | some u => sv q l v (up w u (w u - 1)) (ju md v u) (P ||| 2 ^ u)
/-- r rounds of making -/
def mkr (q : Nat) : Nat → (Nat → Nat) → (Nat → Nat) → Option ((Nat → Nat) × (Nat → Nat))
  | 0, w, md => some (w, md)
  | r + 1, w, md => match wm w 0 q with
    | none => some (w, md)
    | some v => match sv q (w v) v (up w v 0) md (2 ^ v) with
      | none => none
      | some s => mkr q r s.1 s.2
end
section

def TB : List Cond := lw_tbl.filter goodWord
theorem tb_in (w : Cond) (h : w ∈ TB) : w ∈ lw_tbl := (List.mem_filter.mp h).1
/-! names: fields, words, code tables (by wip/whole/gen_names.py, out of the Statement) -/
def R_C : String := "DegreeCores"
def T_C : u_T := fun k => match k with
  | 0 => ("DegreeCores", "joins", "[I", true)
  | 1 => ("DegreeCores", "nodes", "I", false)
  | 2 => ("DegreeCores", "row", "[I", true)
  | 3 => ("DegreeCores", "numbers", "I", false)
  | 4 => ("DegreeCores", "trussJoins", "[I", true)
  | 5 => ("DegreeCores", "madeJoins", "[I", true)
  | _ => ("DegreeCores", "wants", "[I", true)
def ty_C : Nat → FieldType := fun k => match k with
  | 0 => .array .int
  | 1 => .int
  | 2 => .array .int
  | 3 => .int
  | 4 => .array .int
  | 5 => .array .int
  | _ => .array .int
theorem nm_C : ∀ a, a < 7 → ∀ b, b < 7 → a ≠ b → (T_C a).2.1 ≠ (T_C b).2.1 := by decide +kernel
theorem ty_C_ok : ∀ k, k < 7 → parseFieldDescriptor (T_C k).2.2.1 = some (ty_C k) := by decide +kernel
theorem in_C : ∀ w ∈ u_ws R_C T_C 7, w ∈ TB := by decide +kernel
def f_C : List (Nat × Nat) := [(9, 0), (25, 1), (19, 2), (29, 3), (13, 4), (16, 5), (22, 6)]
def p_C : List (Nat × Nat × Bool) := [(25, 1, false), (29, 3, false)]
theorem fl_C : ∀ q ∈ f_C, q.2 < 7 ∧ Cond.fieldLink R_C q.1 (T_C q.2).1 (T_C q.2).2.1 (T_C q.2).2.2.1 ∈ TB := by decide +kernel
theorem pl_C : ∀ q ∈ p_C, q.2.1 < 7 ∧ Cond.fieldLink R_C q.1 (T_C q.2.1).1 (T_C q.2.1).2.1 (T_C q.2.1).2.2.1 ∈ TB ∧ (T_C q.2.1).2.2.2 = false ∧ parseFieldDescriptor (T_C q.2.1).2.2.1 = some (bif q.2.2 then .boolean else .int) := by decide +kernel
def R_M : String := "DegreeCoresModel"
def T_M : u_T := fun k => match k with
  | 0 => ("DegreeCoresModel", "nodes", "I", false)
  | 1 => ("DegreeCoresModel", "near", "[I", true)
  | 2 => ("DegreeCoresModel", "cuts", "[I", true)
  | 3 => ("DegreeCoresModel", "isNew", "Z", false)
  | 4 => ("DegreeCoresModel", "wants", "I", false)
  | 5 => ("DegreeCoresModel", "want", "[I", true)
  | 6 => ("DegreeCoresModel", "left", "[I", true)
  | 7 => ("DegreeCoresModel", "found0", "I", false)
  | 8 => ("DegreeCoresModel", "found1", "I", false)
  | 9 => ("DegreeCoresModel", "found2", "I", false)
  | 10 => ("DegreeCoresModel", "kept", "[I", true)
  | 11 => ("DegreeCoresModel", "made", "I", false)
  | _ => ("DegreeCoresModel", "making", "[I", true)
def ty_M : Nat → FieldType := fun k => match k with
  | 0 => .int
  | 1 => .array .int
  | 2 => .array .int
  | 3 => .boolean
  | 4 => .int
  | 5 => .array .int
  | 6 => .array .int
  | 7 => .int
  | 8 => .int
  | 9 => .int
  | 10 => .array .int
  | 11 => .int
  | _ => .array .int
theorem nm_M : ∀ a, a < 13 → ∀ b, b < 13 → a ≠ b → (T_M a).2.1 ≠ (T_M b).2.1 := by decide +kernel
theorem ty_M_ok : ∀ k, k < 13 → parseFieldDescriptor (T_M k).2.2.1 = some (ty_M k) := by decide +kernel
theorem in_M : ∀ w ∈ u_ws R_M T_M 13, w ∈ TB := by decide +kernel
def f_M : List (Nat × Nat) := [(32, 0), (7, 1), (13, 2), (16, 3), (97, 4), (20, 5), (23, 6), (58, 7), (61, 8), (64, 9), (26, 10), (100, 11), (29, 12)]
def p_M : List (Nat × Nat × Bool) := [(32, 0, false), (16, 3, true), (97, 4, false), (58, 7, false), (61, 8, false), (64, 9, false), (100, 11, false)]
theorem fl_M : ∀ q ∈ f_M, q.2 < 13 ∧ Cond.fieldLink R_M q.1 (T_M q.2).1 (T_M q.2).2.1 (T_M q.2).2.2.1 ∈ TB := by decide +kernel
theorem pl_M : ∀ q ∈ p_M, q.2.1 < 13 ∧ Cond.fieldLink R_M q.1 (T_M q.2.1).1 (T_M q.2.1).2.1 (T_M q.2.1).2.2.1 ∈ TB ∧ (T_M q.2.1).2.2.2 = false ∧ parseFieldDescriptor (T_M q.2.1).2.2.1 = some (bif q.2.2 then .boolean else .int) := by decide +kernel
abbrev cls : List vw_C := [(R_C, T_C, 7), (R_M, T_M, 13)]
theorem tb_good : ∀ w ∈ TB, ((w.onTables && w.keeps) = true ∨ ∃ ty, w = .arrayClass ty) := fun w h => good_of_word (List.mem_filter.mp h).2
def kn_J : List (Nat × Int32) := [(265, 1431655765), (266, 858993459), (267, 252645135)]
theorem kn_J_in : ∀ q ∈ kn_J, Cond.constant "java/lang/Integer" q.1 q.2 ∈ TB := by decide +kernel
theorem tb_C (s : State) (args : Array Value) (h : ∀ w ∈ TB, w.before args s = true) : m_Tb s args cls 0 TB "DegreeCores" R_C T_C 7 f_C p_C [] :=
  ⟨rfl, in_C, nm_C, ⟨ty_C, ty_C_ok⟩, fun q hq => ⟨(fl_C q hq).1, h _ (fl_C q hq).2⟩, fun q hq => ⟨(pl_C q hq).1, h _ (pl_C q hq).2.1, (pl_C q hq).2.2⟩, (fun q hq => by cases hq)⟩
theorem tb_M (s : State) (args : Array Value) (h : ∀ w ∈ TB, w.before args s = true) : m_Tb s args cls 1 TB "DegreeCoresModel" R_M T_M 13 f_M p_M [] :=
  ⟨rfl, in_M, nm_M, ⟨ty_M, ty_M_ok⟩, fun q hq => ⟨(fl_M q hq).1, h _ (fl_M q hq).2⟩, fun q hq => ⟨(pl_M q hq).1, h _ (pl_M q hq).2.1, (pl_M q hq).2.2⟩, (fun q hq => by cases hq)⟩
theorem tb_J (own : String) (ho : own = "java/lang/Integer") (s : State) (args : Array Value) (h : ∀ w ∈ TB, w.before args s = true) : m_Tb s args cls 0 TB own R_C T_C 7 [] [] kn_J :=
  ⟨rfl, in_C, nm_C, ⟨ty_C, ty_C_ok⟩, (fun q hq => by cases hq), (fun q hq => by cases hq), fun q hq => by rw [ho]; exact h _ (kn_J_in q hq)⟩
theorem tb_K (own : String) (s : State) (args : Array Value) (h : ∀ w ∈ TB, w.before args s = true) : m_Tb s args cls 0 TB own R_C T_C 7 [] [] [] :=
  ⟨rfl, in_C, nm_C, ⟨ty_C, ty_C_ok⟩, (fun q hq => by cases hq), (fun q hq => by cases hq), (fun q hq => by cases hq)⟩
end
section
/-! code tables (by wip/whole/gen_names.py) -/
def y_C_node : MethodName := ⟨"DegreeCores", "node", "()I"⟩
abbrev b_C_node : ByteArray := prog_1_method_2_code
def k_C_node : List (Nat × mE) := [(0, .aload_n 0, 1, 0, 0, false), (1, .getfield 25, 4, 0, 0, false), (4, .bipush 12, 6, 0, 12, false), (6, .if_icmp .lt 6, 9, 12, 0, false), (9, .bipush (-4), 11, 0, (-4), false), (11, .ireturn, 12, 0, 0, false), (12, .aload_n 0, 13, 0, 0, false), (13, .getfield 9, 16, 0, 0, false), (16, .aload_n 0, 17, 0, 0, false), (17, .getfield 25, 20, 0, 0, false), (20, .iconst 0, 21, 0, 0, false), (21, .iastore, 22, 0, 0, false), (22, .aload_n 0, 23, 0, 0, false), (23, .dup, 24, 0, 0, false), (24, .getfield 25, 27, 0, 0, false), (27, .iconst 1, 28, 0, 1, false), (28, .iadd, 29, 0, 0, false), (29, .putfield 25, 32, 0, 0, false), (32, .aload_n 0, 33, 0, 0, false), (33, .getfield 25, 36, 0, 0, false), (36, .iconst 1, 37, 0, 1, false), (37, .isub, 38, 0, 0, false), (38, .ireturn, 39, 0, 0, false)]
theorem ok_C_node : k_C_node.all (m_ok b_C_node 1) = true := by decide +kernel
def y_C_join : MethodName := ⟨"DegreeCores", "join", "(IIZ)I"⟩
abbrev b_C_join : ByteArray := prog_1_method_3_code
def k_C_join : List (Nat × mE) := [(0, .aload_n 0, 1, 0, 0, false), (1, .iload_n 1, 2, 0, 0, false), (2, .iload_n 2, 3, 0, 0, false), (3, .invokevirtual 32, 6, 0, 0, false), (6, .ifCond .ne 5, 9, 11, 0, false), (9, .iconst (-1), 10, 0, (-1), false), (10, .ireturn, 11, 0, 0, false), (11, .aload_n 0, 12, 0, 0, false), (12, .getfield 9, 15, 0, 0, false), (15, .iload_n 1, 16, 0, 0, false), (16, .iaload, 17, 0, 0, false), (17, .iload_n 2, 18, 0, 0, false), (18, .invokestatic 36, 21, 0, 0, false), (21, .iload_n 3, 22, 0, 0, false), (22, .if_icmp .ne 5, 25, 27, 0, false), (25, .iconst 0, 26, 0, 0, false), (26, .ireturn, 27, 0, 0, false), (27, .aload_n 0, 28, 0, 0, false), (28, .getfield 9, 31, 0, 0, false), (31, .iload_n 1, 32, 0, 0, false), (32, .dup2, 33, 0, 0, false), (33, .iaload, 34, 0, 0, false), (34, .iconst 1, 35, 0, 1, false), (35, .iload_n 2, 36, 0, 0, false), (36, .ishl, 37, 0, 0, false), (37, .ixor, 38, 0, 0, false), (38, .iastore, 39, 0, 0, false), (39, .aload_n 0, 40, 0, 0, false), (40, .getfield 9, 43, 0, 0, false), (43, .iload_n 2, 44, 0, 0, false), (44, .dup2, 45, 0, 0, false), (45, .iaload, 46, 0, 0, false), (46, .iconst 1, 47, 0, 1, false), (47, .iload_n 1, 48, 0, 0, false), (48, .ishl, 49, 0, 0, false), (49, .ixor, 50, 0, 0, false), (50, .iastore, 51, 0, 0, false), (51, .iconst 1, 52, 0, 1, false), (52, .ireturn, 53, 0, 0, false)]
theorem ok_C_join : k_C_join.all (m_ok b_C_join 4) = true := by decide +kernel
def y_C_areTwoNodes : MethodName := ⟨"DegreeCores", "areTwoNodes", "(II)Z"⟩
abbrev b_C_areTwoNodes : ByteArray := prog_1_method_7_code
def k_C_areTwoNodes : List (Nat × mE) := [(0, .aload_n 0, 1, 0, 0, false), (1, .iload_n 1, 2, 0, 0, false), (2, .invokevirtual 39, 5, 0, 0, false), (5, .ifCond .eq 20, 8, 25, 0, false), (8, .aload_n 0, 9, 0, 0, false), (9, .iload_n 2, 10, 0, 0, false), (10, .invokevirtual 39, 13, 0, 0, false), (13, .ifCond .eq 12, 16, 25, 0, false), (16, .iload_n 1, 17, 0, 0, false), (17, .iload_n 2, 18, 0, 0, false), (18, .if_icmp .eq 7, 21, 25, 0, false), (21, .iconst 1, 22, 0, 1, false), (22, .goto 4, 25, 26, 0, false), (25, .iconst 0, 26, 0, 0, false), (26, .ireturn, 27, 0, 0, false)]
theorem ok_C_areTwoNodes : k_C_areTwoNodes.all (m_ok b_C_areTwoNodes 3) = true := by decide +kernel
def y_C_isNode : MethodName := ⟨"DegreeCores", "isNode", "(I)Z"⟩
abbrev b_C_isNode : ByteArray := prog_1_method_6_code
def k_C_isNode : List (Nat × mE) := [(0, .iload_n 1, 1, 0, 0, false), (1, .ifCond .lt 15, 4, 16, 0, false), (4, .iload_n 1, 5, 0, 0, false), (5, .aload_n 0, 6, 0, 0, false), (6, .getfield 25, 9, 0, 0, false), (9, .if_icmp .ge 7, 12, 16, 0, false), (12, .iconst 1, 13, 0, 1, false), (13, .goto 4, 16, 17, 0, false), (16, .iconst 0, 17, 0, 0, false), (17, .ireturn, 18, 0, 0, false)]
theorem ok_C_isNode : k_C_isNode.all (m_ok b_C_isNode 2) = true := by decide +kernel
def y_C_has : MethodName := ⟨"DegreeCores", "has", "(II)Z"⟩
abbrev b_C_has : ByteArray := prog_1_method_12_code
def k_C_has : List (Nat × mE) := [(0, .iload_n 0, 1, 0, 0, false), (1, .iload_n 1, 2, 0, 0, false), (2, .ishr, 3, 0, 0, false), (3, .iconst 1, 4, 0, 1, false), (4, .iand, 5, 0, 0, false), (5, .iconst 1, 6, 0, 1, false), (6, .if_icmp .ne 7, 9, 13, 0, false), (9, .iconst 1, 10, 0, 1, false), (10, .goto 4, 13, 14, 0, false), (13, .iconst 0, 14, 0, 0, false), (14, .ireturn, 15, 0, 0, false)]
theorem ok_C_has : k_C_has.all (m_ok b_C_has 2) = true := by decide +kernel
def y_C_joined : MethodName := ⟨"DegreeCores", "joined", "(II)I"⟩
abbrev b_C_joined : ByteArray := prog_1_method_4_code
def k_C_joined : List (Nat × mE) := [(0, .aload_n 0, 1, 0, 0, false), (1, .iload_n 1, 2, 0, 0, false), (2, .iload_n 2, 3, 0, 0, false), (3, .invokevirtual 32, 6, 0, 0, false), (6, .ifCond .ne 5, 9, 11, 0, false), (9, .iconst (-1), 10, 0, (-1), false), (10, .ireturn, 11, 0, 0, false), (11, .aload_n 0, 12, 0, 0, false), (12, .getfield 9, 15, 0, 0, false), (15, .iload_n 1, 16, 0, 0, false), (16, .iaload, 17, 0, 0, false), (17, .iload_n 2, 18, 0, 0, false), (18, .invokestatic 36, 21, 0, 0, false), (21, .ifCond .eq 7, 24, 28, 0, false), (24, .iconst 1, 25, 0, 1, false), (25, .goto 4, 28, 29, 0, false), (28, .iconst 0, 29, 0, 0, false), (29, .ireturn, 30, 0, 0, false)]
theorem ok_C_joined : k_C_joined.all (m_ok b_C_joined 3) = true := by decide +kernel
def y_C_clear : MethodName := ⟨"DegreeCores", "clear", "()I"⟩
abbrev b_C_clear : ByteArray := prog_1_method_5_code
def k_C_clear : List (Nat × mE) := [(0, .aload_n 0, 1, 0, 0, false), (1, .getfield 25, 4, 0, 0, false), (4, .istore_n 1, 5, 0, 0, false), (5, .aload_n 0, 6, 0, 0, false), (6, .iconst 0, 7, 0, 0, false), (7, .putfield 25, 10, 0, 0, false), (10, .iload_n 1, 11, 0, 0, false), (11, .ireturn, 12, 0, 0, false)]
theorem ok_C_clear : k_C_clear.all (m_ok b_C_clear 2) = true := by decide +kernel
def y_C_degree : MethodName := ⟨"DegreeCores", "degree", "(I)I"⟩
abbrev b_C_degree : ByteArray := prog_1_method_14_code
def k_C_degree : List (Nat × mE) := [(0, .aload_n 0, 1, 0, 0, false), (1, .iload_n 1, 2, 0, 0, false), (2, .invokevirtual 39, 5, 0, 0, false), (5, .ifCond .eq 15, 8, 20, 0, false), (8, .aload_n 0, 9, 0, 0, false), (9, .getfield 9, 12, 0, 0, false), (12, .iload_n 1, 13, 0, 0, false), (13, .iaload, 14, 0, 0, false), (14, .invokestatic 43, 17, 0, 0, false), (17, .goto 4, 20, 21, 0, false), (20, .iconst (-1), 21, 0, (-1), false), (21, .ireturn, 22, 0, 0, false)]
theorem ok_C_degree : k_C_degree.all (m_ok b_C_degree 2) = true := by decide +kernel
def y_J_bitCount : MethodName := ⟨"java/lang/Integer", "bitCount", "(I)I"⟩
abbrev b_J_bitCount : ByteArray := prog_4_method_49_code
def k_J_bitCount : List (Nat × mE) := [(0, .iload_n 0, 1, 0, 0, false), (1, .iload_n 0, 2, 0, 0, false), (2, .iconst 1, 3, 0, 1, false), (3, .iushr, 4, 0, 0, false), (4, .ldc_w 265, 7, 0, 0, false), (7, .iand, 8, 0, 0, false), (8, .isub, 9, 0, 0, false), (9, .istore_n 0, 10, 0, 0, false), (10, .iload_n 0, 11, 0, 0, false), (11, .ldc_w 266, 14, 0, 0, false), (14, .iand, 15, 0, 0, false), (15, .iload_n 0, 16, 0, 0, false), (16, .iconst 2, 17, 0, 2, false), (17, .iushr, 18, 0, 0, false), (18, .ldc_w 266, 21, 0, 0, false), (21, .iand, 22, 0, 0, false), (22, .iadd, 23, 0, 0, false), (23, .istore_n 0, 24, 0, 0, false), (24, .iload_n 0, 25, 0, 0, false), (25, .iload_n 0, 26, 0, 0, false), (26, .iconst 4, 27, 0, 4, false), (27, .iushr, 28, 0, 0, false), (28, .iadd, 29, 0, 0, false), (29, .ldc_w 267, 32, 0, 0, false), (32, .iand, 33, 0, 0, false), (33, .istore_n 0, 34, 0, 0, false), (34, .iload_n 0, 35, 0, 0, false), (35, .iload_n 0, 36, 0, 0, false), (36, .bipush 8, 38, 0, 8, false), (38, .iushr, 39, 0, 0, false), (39, .iadd, 40, 0, 0, false), (40, .istore_n 0, 41, 0, 0, false), (41, .iload_n 0, 42, 0, 0, false), (42, .iload_n 0, 43, 0, 0, false), (43, .bipush 16, 45, 0, 16, false), (45, .iushr, 46, 0, 0, false), (46, .iadd, 47, 0, 0, false), (47, .istore_n 0, 48, 0, 0, false), (48, .iload_n 0, 49, 0, 0, false), (49, .bipush 63, 51, 0, 63, false), (51, .iand, 52, 0, 0, false), (52, .ireturn, 53, 0, 0, false)]
theorem ok_J_bitCount : k_J_bitCount.all (m_ok b_J_bitCount 1) = true := by decide +kernel
def y_C_core : MethodName := ⟨"DegreeCores", "core", "(I)I"⟩
abbrev b_C_core : ByteArray := prog_1_method_15_code
def k_C_core : List (Nat × mE) := [(0, .aload_n 0, 1, 0, 0, false), (1, .iload_n 1, 2, 0, 0, false), (2, .invokevirtual 39, 5, 0, 0, false), (5, .ifCond .ne 5, 8, 10, 0, false), (8, .iconst (-1), 9, 0, (-1), false), (9, .ireturn, 10, 0, 0, false), (10, .iconst 0, 11, 0, 0, false), (11, .istore_n 2, 12, 0, 0, false), (12, .iconst 1, 13, 0, 1, false), (13, .istore_n 3, 14, 0, 0, false), (14, .iload_n 3, 15, 0, 0, true), (15, .aload_n 0, 16, 0, 0, false), (16, .getfield 25, 19, 0, 0, false), (19, .if_icmp .ge 23, 22, 42, 0, false), (22, .aload_n 0, 23, 0, 0, false), (23, .iload_n 3, 24, 0, 0, false), (24, .invokevirtual 53, 27, 0, 0, false), (27, .iload_n 1, 28, 0, 0, false), (28, .invokestatic 36, 31, 0, 0, false), (31, .ifCond .eq 11, 34, 42, 0, false), (34, .iload_n 3, 35, 0, 0, false), (35, .istore_n 2, 36, 0, 0, false), (36, .iinc 3 1, 39, 0, 1, false), (39, .goto (-25), 42, 14, 0, false), (42, .iload_n 2, 43, 0, 0, false), (43, .ireturn, 44, 0, 0, false)]
theorem ok_C_core : k_C_core.all (m_ok b_C_core 4) = true := by decide +kernel
def y_C_coreBits : MethodName := ⟨"DegreeCores", "coreBits", "(I)I"⟩
abbrev b_C_coreBits : ByteArray := prog_1_method_19_code
def k_C_coreBits : List (Nat × mE) := [(0, .aload_n 0, 1, 0, 0, false), (1, .invokevirtual 56, 4, 0, 0, false), (4, .istore_n 2, 5, 0, 0, false), (5, .iconst 0, 6, 0, 0, false), (6, .istore_n 3, 7, 0, 0, false), (7, .iload_n 3, 8, 0, 0, true), (8, .aload_n 0, 9, 0, 0, false), (9, .getfield 25, 12, 0, 0, false), (12, .if_icmp .ge 22, 15, 34, 0, false), (15, .iload_n 2, 16, 0, 0, false), (16, .aload_n 0, 17, 0, 0, false), (17, .iload_n 2, 18, 0, 0, false), (18, .iload_n 1, 19, 0, 0, false), (19, .iconst 1, 20, 0, 1, false), (20, .isub, 21, 0, 0, false), (21, .invokevirtual 63, 24, 0, 0, false), (24, .iconst (-1), 25, 0, (-1), false), (25, .ixor, 26, 0, 0, false), (26, .iand, 27, 0, 0, false), (27, .istore_n 2, 28, 0, 0, false), (28, .iinc 3 1, 31, 0, 1, false), (31, .goto (-24), 34, 7, 0, false), (34, .iload_n 2, 35, 0, 0, false), (35, .ireturn, 36, 0, 0, false)]
theorem ok_C_coreBits : k_C_coreBits.all (m_ok b_C_coreBits 4) = true := by decide +kernel
def y_C_allNodes : MethodName := ⟨"DegreeCores", "allNodes", "()I"⟩
abbrev b_C_allNodes : ByteArray := prog_1_method_9_code
def k_C_allNodes : List (Nat × mE) := [(0, .iconst 1, 1, 0, 1, false), (1, .aload_n 0, 2, 0, 0, false), (2, .getfield 25, 5, 0, 0, false), (5, .ishl, 6, 0, 0, false), (6, .iconst 1, 7, 0, 1, false), (7, .isub, 8, 0, 0, false), (8, .ireturn, 9, 0, 0, false)]
theorem ok_C_allNodes : k_C_allNodes.all (m_ok b_C_allNodes 1) = true := by decide +kernel
def y_C_looseIn : MethodName := ⟨"DegreeCores", "looseIn", "(II)I"⟩
abbrev b_C_looseIn : ByteArray := prog_1_method_20_code
def k_C_looseIn : List (Nat × mE) := [(0, .iconst 0, 1, 0, 0, false), (1, .istore_n 3, 2, 0, 0, false), (2, .iconst 0, 3, 0, 0, false), (3, .istore 4, 5, 0, 0, false), (5, .iload 4, 7, 0, 0, true), (7, .aload_n 0, 8, 0, 0, false), (8, .getfield 25, 11, 0, 0, false), (11, .if_icmp .ge 36, 14, 47, 0, false), (14, .iload_n 1, 15, 0, 0, false), (15, .iload 4, 17, 0, 0, false), (17, .invokestatic 36, 20, 0, 0, false), (20, .ifCond .eq 21, 23, 41, 0, false), (23, .aload_n 0, 24, 0, 0, false), (24, .iload_n 1, 25, 0, 0, false), (25, .iload 4, 27, 0, 0, false), (27, .invokevirtual 49, 30, 0, 0, false), (30, .iload_n 2, 31, 0, 0, false), (31, .if_icmp .gt 10, 34, 41, 0, false), (34, .iload_n 3, 35, 0, 0, false), (35, .iconst 1, 36, 0, 1, false), (36, .iload 4, 38, 0, 0, false), (38, .ishl, 39, 0, 0, false), (39, .ior, 40, 0, 0, false), (40, .istore_n 3, 41, 0, 0, false), (41, .iinc 4 1, 44, 0, 1, false), (44, .goto (-39), 47, 5, 0, false), (47, .iload_n 3, 48, 0, 0, false), (48, .ireturn, 49, 0, 0, false)]
theorem ok_C_looseIn : k_C_looseIn.all (m_ok b_C_looseIn 5) = true := by decide +kernel
def y_C_degreeWithin : MethodName := ⟨"DegreeCores", "degreeWithin", "(II)I"⟩
abbrev b_C_degreeWithin : ByteArray := prog_1_method_10_code
def k_C_degreeWithin : List (Nat × mE) := [(0, .aload_n 0, 1, 0, 0, false), (1, .getfield 9, 4, 0, 0, false), (4, .iload_n 2, 5, 0, 0, false), (5, .iaload, 6, 0, 0, false), (6, .iload_n 1, 7, 0, 0, false), (7, .iand, 8, 0, 0, false), (8, .invokestatic 43, 11, 0, 0, false), (11, .ireturn, 12, 0, 0, false)]
theorem ok_C_degreeWithin : k_C_degreeWithin.all (m_ok b_C_degreeWithin 3) = true := by decide +kernel
def y_C_coreSet : MethodName := ⟨"DegreeCores", "coreSet", "(I)I"⟩
abbrev b_C_coreSet : ByteArray := prog_1_method_16_code
def k_C_coreSet : List (Nat × mE) := [(0, .iload_n 1, 1, 0, 0, false), (1, .ifCond .ge 8, 4, 9, 0, false), (4, .bipush (-2), 6, 0, (-2), false), (6, .goto 8, 9, 14, 0, false), (9, .aload_n 0, 10, 0, 0, false), (10, .iload_n 1, 11, 0, 0, false), (11, .invokevirtual 53, 14, 0, 0, false), (14, .ireturn, 15, 0, 0, false)]
theorem ok_C_coreSet : k_C_coreSet.all (m_ok b_C_coreSet 2) = true := by decide +kernel
def y_C_peeled : MethodName := ⟨"DegreeCores", "peeled", "(I)I"⟩
abbrev b_C_peeled : ByteArray := prog_1_method_17_code
def k_C_peeled : List (Nat × mE) := [(0, .aload_n 0, 1, 0, 0, false), (1, .iload_n 1, 2, 0, 0, false), (2, .invokevirtual 39, 5, 0, 0, false), (5, .ifCond .ne 5, 8, 10, 0, false), (8, .iconst (-1), 9, 0, (-1), false), (9, .ireturn, 10, 0, 0, false), (10, .aload_n 0, 11, 0, 0, false), (11, .invokevirtual 56, 14, 0, 0, false), (14, .istore_n 2, 15, 0, 0, false), (15, .iconst (-1), 16, 0, (-1), false), (16, .istore_n 3, 17, 0, 0, false), (17, .iconst 0, 18, 0, 0, false), (18, .istore 4, 20, 0, 0, false), (20, .iload 4, 22, 0, 0, true), (22, .iload_n 1, 23, 0, 0, false), (23, .if_icmp .gt 31, 26, 54, 0, false), (26, .aload_n 0, 27, 0, 0, false), (27, .iload_n 2, 28, 0, 0, false), (28, .aload_n 0, 29, 0, 0, false), (29, .iload_n 2, 30, 0, 0, false), (30, .invokevirtual 60, 33, 0, 0, false), (33, .invokevirtual 63, 36, 0, 0, false), (36, .invokestatic 66, 39, 0, 0, false), (39, .istore_n 3, 40, 0, 0, false), (40, .iload_n 2, 41, 0, 0, false), (41, .iconst 1, 42, 0, 1, false), (42, .iload_n 3, 43, 0, 0, false), (43, .ishl, 44, 0, 0, false), (44, .iconst (-1), 45, 0, (-1), false), (45, .ixor, 46, 0, 0, false), (46, .iand, 47, 0, 0, false), (47, .istore_n 2, 48, 0, 0, false), (48, .iinc 4 1, 51, 0, 1, false), (51, .goto (-31), 54, 20, 0, false), (54, .iload_n 3, 55, 0, 0, false), (55, .ireturn, 56, 0, 0, false)]
theorem ok_C_peeled : k_C_peeled.all (m_ok b_C_peeled 5) = true := by decide +kernel
def y_C_leastDegreeWithin : MethodName := ⟨"DegreeCores", "leastDegreeWithin", "(I)I"⟩
abbrev b_C_leastDegreeWithin : ByteArray := prog_1_method_21_code
def k_C_leastDegreeWithin : List (Nat × mE) := [(0, .bipush 12, 2, 0, 12, false), (2, .istore_n 2, 3, 0, 0, false), (3, .iconst 0, 4, 0, 0, false), (4, .istore_n 3, 5, 0, 0, false), (5, .iload_n 3, 6, 0, 0, true), (6, .aload_n 0, 7, 0, 0, false), (7, .getfield 25, 10, 0, 0, false), (10, .if_icmp .ge 28, 13, 38, 0, false), (13, .iload_n 1, 14, 0, 0, false), (14, .iload_n 3, 15, 0, 0, false), (15, .invokestatic 36, 18, 0, 0, false), (18, .ifCond .eq 14, 21, 32, 0, false), (21, .iload_n 2, 22, 0, 0, false), (22, .aload_n 0, 23, 0, 0, false), (23, .iload_n 1, 24, 0, 0, false), (24, .iload_n 3, 25, 0, 0, false), (25, .invokevirtual 49, 28, 0, 0, false), (28, .invokestatic 74, 31, 0, 0, false), (31, .istore_n 2, 32, 0, 0, false), (32, .iinc 3 1, 35, 0, 1, false), (35, .goto (-30), 38, 5, 0, false), (38, .iload_n 2, 39, 0, 0, false), (39, .ireturn, 40, 0, 0, false)]
theorem ok_C_leastDegreeWithin : k_C_leastDegreeWithin.all (m_ok b_C_leastDegreeWithin 4) = true := by decide +kernel
def y_J_min : MethodName := ⟨"java/lang/Math", "min", "(II)I"⟩
abbrev b_J_min : ByteArray := prog_5_method_69_code
def k_J_min : List (Nat × mE) := [(0, .iload_n 0, 1, 0, 0, false), (1, .iload_n 1, 2, 0, 0, false), (2, .if_icmp .gt 7, 5, 9, 0, false), (5, .iload_n 0, 6, 0, 0, false), (6, .goto 4, 9, 10, 0, false), (9, .iload_n 1, 10, 0, 0, false), (10, .ireturn, 11, 0, 0, false)]
theorem ok_J_min : k_J_min.all (m_ok b_J_min 2) = true := by decide +kernel
def y_C_leastOf : MethodName := ⟨"DegreeCores", "leastOf", "(I)I"⟩
abbrev b_C_leastOf : ByteArray := prog_1_method_13_code
def k_C_leastOf : List (Nat × mE) := [(0, .iload_n 0, 1, 0, 0, false), (1, .iload_n 0, 2, 0, 0, false), (2, .ineg, 3, 0, 0, false), (3, .iand, 4, 0, 0, false), (4, .iconst 1, 5, 0, 1, false), (5, .isub, 6, 0, 0, false), (6, .invokestatic 43, 9, 0, 0, false), (9, .ireturn, 10, 0, 0, false)]
theorem ok_C_leastOf : k_C_leastOf.all (m_ok b_C_leastOf 1) = true := by decide +kernel
def y_C_layer : MethodName := ⟨"DegreeCores", "layer", "(I)I"⟩
abbrev b_C_layer : ByteArray := prog_1_method_18_code
def k_C_layer : List (Nat × mE) := [(0, .aload_n 0, 1, 0, 0, false), (1, .iload_n 1, 2, 0, 0, false), (2, .invokevirtual 39, 5, 0, 0, false), (5, .ifCond .ne 5, 8, 10, 0, false), (8, .iconst (-1), 9, 0, (-1), false), (9, .ireturn, 10, 0, 0, false), (10, .aload_n 0, 11, 0, 0, false), (11, .invokevirtual 56, 14, 0, 0, false), (14, .istore_n 2, 15, 0, 0, false), (15, .iconst 0, 16, 0, 0, false), (16, .istore_n 3, 17, 0, 0, false), (17, .iconst 0, 18, 0, 0, false), (18, .istore 4, 20, 0, 0, false), (20, .iload 4, 22, 0, 0, true), (22, .aload_n 0, 23, 0, 0, false), (23, .getfield 25, 26, 0, 0, false), (26, .if_icmp .ge 38, 29, 64, 0, false), (29, .iload_n 2, 30, 0, 0, false), (30, .iload_n 1, 31, 0, 0, false), (31, .invokestatic 36, 34, 0, 0, false), (34, .ifCond .eq 30, 37, 64, 0, false), (37, .iload_n 3, 38, 0, 0, false), (38, .aload_n 0, 39, 0, 0, false), (39, .iload_n 2, 40, 0, 0, false), (40, .invokevirtual 60, 43, 0, 0, false), (43, .invokestatic 69, 46, 0, 0, false), (46, .istore_n 3, 47, 0, 0, false), (47, .iload_n 2, 48, 0, 0, false), (48, .aload_n 0, 49, 0, 0, false), (49, .iload_n 2, 50, 0, 0, false), (50, .iload_n 3, 51, 0, 0, false), (51, .invokevirtual 63, 54, 0, 0, false), (54, .iconst (-1), 55, 0, (-1), false), (55, .ixor, 56, 0, 0, false), (56, .iand, 57, 0, 0, false), (57, .istore_n 2, 58, 0, 0, false), (58, .iinc 4 1, 61, 0, 1, false), (61, .goto (-41), 64, 20, 0, false), (64, .iload 4, 66, 0, 0, false), (66, .ireturn, 67, 0, 0, false)]
theorem ok_C_layer : k_C_layer.all (m_ok b_C_layer 5) = true := by decide +kernel
def y_J_max : MethodName := ⟨"java/lang/Math", "max", "(II)I"⟩
abbrev b_J_max : ByteArray := prog_5_method_65_code
def k_J_max : List (Nat × mE) := [(0, .iload_n 0, 1, 0, 0, false), (1, .iload_n 1, 2, 0, 0, false), (2, .if_icmp .lt 7, 5, 9, 0, false), (5, .iload_n 0, 6, 0, 0, false), (6, .goto 4, 9, 10, 0, false), (9, .iload_n 1, 10, 0, 0, false), (10, .ireturn, 11, 0, 0, false)]
theorem ok_J_max : k_J_max.all (m_ok b_J_max 2) = true := by decide +kernel
def y_C_triangles : MethodName := ⟨"DegreeCores", "triangles", "()I"⟩
abbrev b_C_triangles : ByteArray := prog_1_method_22_code
def k_C_triangles : List (Nat × mE) := [(0, .aload_n 0, 1, 0, 0, false), (1, .invokevirtual 77, 4, 0, 0, false), (4, .iconst 3, 5, 0, 3, false), (5, .idiv, 6, 0, 0, false), (6, .ireturn, 7, 0, 0, false)]
theorem ok_C_triangles : k_C_triangles.all (m_ok b_C_triangles 1) = true := by decide +kernel
def y_C_triangleCorners : MethodName := ⟨"DegreeCores", "triangleCorners", "()I"⟩
abbrev b_C_triangleCorners : ByteArray := prog_1_method_32_code
def k_C_triangleCorners : List (Nat × mE) := [(0, .iconst 0, 1, 0, 0, false), (1, .istore_n 1, 2, 0, 0, false), (2, .iconst 0, 3, 0, 0, false), (3, .istore_n 2, 4, 0, 0, false), (4, .iload_n 2, 5, 0, 0, true), (5, .aload_n 0, 6, 0, 0, false), (6, .getfield 25, 9, 0, 0, false), (9, .if_icmp .ge 17, 12, 26, 0, false), (12, .iload_n 1, 13, 0, 0, false), (13, .aload_n 0, 14, 0, 0, false), (14, .iload_n 2, 15, 0, 0, false), (15, .invokevirtual 104, 18, 0, 0, false), (18, .iadd, 19, 0, 0, false), (19, .istore_n 1, 20, 0, 0, false), (20, .iinc 2 1, 23, 0, 1, false), (23, .goto (-19), 26, 4, 0, false), (26, .iload_n 1, 27, 0, 0, false), (27, .ireturn, 28, 0, 0, false)]
theorem ok_C_triangleCorners : k_C_triangleCorners.all (m_ok b_C_triangleCorners 3) = true := by decide +kernel
def y_C_trianglesAt : MethodName := ⟨"DegreeCores", "trianglesAt", "(I)I"⟩
abbrev b_C_trianglesAt : ByteArray := prog_1_method_30_code
def k_C_trianglesAt : List (Nat × mE) := [(0, .aload_n 0, 1, 0, 0, false), (1, .aload_n 0, 2, 0, 0, false), (2, .getfield 9, 5, 0, 0, false), (5, .iload_n 1, 6, 0, 0, false), (6, .iaload, 7, 0, 0, false), (7, .invokevirtual 114, 10, 0, 0, false), (10, .ireturn, 11, 0, 0, false)]
theorem ok_C_trianglesAt : k_C_trianglesAt.all (m_ok b_C_trianglesAt 2) = true := by decide +kernel
def y_C_edgesWithin : MethodName := ⟨"DegreeCores", "edgesWithin", "(I)I"⟩
abbrev b_C_edgesWithin : ByteArray := prog_1_method_11_code
def k_C_edgesWithin : List (Nat × mE) := [(0, .iconst 0, 1, 0, 0, false), (1, .istore_n 2, 2, 0, 0, false), (2, .iconst 0, 3, 0, 0, false), (3, .istore_n 3, 4, 0, 0, false), (4, .iload_n 3, 5, 0, 0, true), (5, .aload_n 0, 6, 0, 0, false), (6, .getfield 25, 9, 0, 0, false), (9, .if_icmp .ge 26, 12, 35, 0, false), (12, .iload_n 1, 13, 0, 0, false), (13, .iload_n 3, 14, 0, 0, false), (14, .invokestatic 36, 17, 0, 0, false), (17, .ifCond .eq 12, 20, 29, 0, false), (20, .iload_n 2, 21, 0, 0, false), (21, .aload_n 0, 22, 0, 0, false), (22, .iload_n 1, 23, 0, 0, false), (23, .iload_n 3, 24, 0, 0, false), (24, .invokevirtual 49, 27, 0, 0, false), (27, .iadd, 28, 0, 0, false), (28, .istore_n 2, 29, 0, 0, false), (29, .iinc 3 1, 32, 0, 1, false), (32, .goto (-28), 35, 4, 0, false), (35, .iload_n 2, 36, 0, 0, false), (36, .iconst 2, 37, 0, 2, false), (37, .idiv, 38, 0, 0, false), (38, .ireturn, 39, 0, 0, false)]
theorem ok_C_edgesWithin : k_C_edgesWithin.all (m_ok b_C_edgesWithin 4) = true := by decide +kernel
def y_C_triangle : MethodName := ⟨"DegreeCores", "triangle", "(II)I"⟩
abbrev b_C_triangle : ByteArray := prog_1_method_23_code
def k_C_triangle : List (Nat × mE) := [(0, .iconst 0, 1, 0, 0, false), (1, .istore_n 3, 2, 0, 0, false), (2, .iconst 0, 3, 0, 0, false), (3, .istore 4, 5, 0, 0, false), (5, .iload 4, 7, 0, 0, true), (7, .aload_n 0, 8, 0, 0, false), (8, .getfield 25, 11, 0, 0, false), (11, .if_icmp .ge 86, 14, 97, 0, false), (14, .iload 4, 16, 0, 0, false), (16, .iconst 1, 17, 0, 1, false), (17, .iadd, 18, 0, 0, false), (18, .istore 5, 20, 0, 0, false), (20, .iload 5, 22, 0, 0, true), (22, .aload_n 0, 23, 0, 0, false), (23, .getfield 25, 26, 0, 0, false), (26, .if_icmp .ge 65, 29, 91, 0, false), (29, .iload 5, 31, 0, 0, false), (31, .iconst 1, 32, 0, 1, false), (32, .iadd, 33, 0, 0, false), (33, .istore 6, 35, 0, 0, false), (35, .iload 6, 37, 0, 0, true), (37, .aload_n 0, 38, 0, 0, false), (38, .getfield 25, 41, 0, 0, false), (41, .if_icmp .ge 44, 44, 85, 0, false), (44, .aload_n 0, 45, 0, 0, false), (45, .iload 4, 47, 0, 0, false), (47, .iload 5, 49, 0, 0, false), (49, .iload 6, 51, 0, 0, false), (51, .invokevirtual 80, 54, 0, 0, false), (54, .ifCond .ne 6, 57, 60, 0, false), (57, .goto 22, 60, 79, 0, false), (60, .iload_n 3, 61, 0, 0, false), (61, .iload_n 1, 62, 0, 0, false), (62, .if_icmp .ne 14, 65, 76, 0, false), (65, .iload 4, 67, 0, 0, false), (67, .iload 5, 69, 0, 0, false), (69, .iload 6, 71, 0, 0, false), (71, .iload_n 2, 72, 0, 0, false), (72, .invokestatic 84, 75, 0, 0, false), (75, .ireturn, 76, 0, 0, false), (76, .iinc 3 1, 79, 0, 1, false), (79, .iinc 6 1, 82, 0, 1, false), (82, .goto (-47), 85, 35, 0, false), (85, .iinc 5 1, 88, 0, 1, false), (88, .goto (-68), 91, 20, 0, false), (91, .iinc 4 1, 94, 0, 1, false), (94, .goto (-89), 97, 5, 0, false), (97, .iconst (-1), 98, 0, (-1), false), (98, .ireturn, 99, 0, 0, false)]
theorem ok_C_triangle : k_C_triangle.all (m_ok b_C_triangle 7) = true := by decide +kernel
def y_C_isTriangle : MethodName := ⟨"DegreeCores", "isTriangle", "(III)Z"⟩
abbrev b_C_isTriangle : ByteArray := prog_1_method_28_code
def k_C_isTriangle : List (Nat × mE) := [(0, .aload_n 0, 1, 0, 0, false), (1, .getfield 9, 4, 0, 0, false), (4, .iload_n 1, 5, 0, 0, false), (5, .iaload, 6, 0, 0, false), (6, .iload_n 2, 7, 0, 0, false), (7, .invokestatic 36, 10, 0, 0, false), (10, .ifCond .eq 33, 13, 43, 0, false), (13, .aload_n 0, 14, 0, 0, false), (14, .getfield 9, 17, 0, 0, false), (17, .iload_n 1, 18, 0, 0, false), (18, .iaload, 19, 0, 0, false), (19, .iload_n 3, 20, 0, 0, false), (20, .invokestatic 36, 23, 0, 0, false), (23, .ifCond .eq 20, 26, 43, 0, false), (26, .aload_n 0, 27, 0, 0, false), (27, .getfield 9, 30, 0, 0, false), (30, .iload_n 2, 31, 0, 0, false), (31, .iaload, 32, 0, 0, false), (32, .iload_n 3, 33, 0, 0, false), (33, .invokestatic 36, 36, 0, 0, false), (36, .ifCond .eq 7, 39, 43, 0, false), (39, .iconst 1, 40, 0, 1, false), (40, .goto 4, 43, 44, 0, false), (43, .iconst 0, 44, 0, 0, false), (44, .ireturn, 45, 0, 0, false)]
theorem ok_C_isTriangle : k_C_isTriangle.all (m_ok b_C_isTriangle 4) = true := by decide +kernel
def y_C_corner : MethodName := ⟨"DegreeCores", "corner", "(IIII)I"⟩
abbrev b_C_corner : ByteArray := prog_1_method_29_code
def y_C_support : MethodName := ⟨"DegreeCores", "support", "(II)I"⟩
abbrev b_C_support : ByteArray := prog_1_method_24_code
def k_C_support : List (Nat × mE) := [(0, .aload_n 0, 1, 0, 0, false), (1, .iload_n 1, 2, 0, 0, false), (2, .iload_n 2, 3, 0, 0, false), (3, .invokevirtual 88, 6, 0, 0, false), (6, .ifCond .eq 22, 9, 28, 0, false), (9, .aload_n 0, 10, 0, 0, false), (10, .getfield 9, 13, 0, 0, false), (13, .iload_n 1, 14, 0, 0, false), (14, .iaload, 15, 0, 0, false), (15, .aload_n 0, 16, 0, 0, false), (16, .getfield 9, 19, 0, 0, false), (19, .iload_n 2, 20, 0, 0, false), (20, .iaload, 21, 0, 0, false), (21, .iand, 22, 0, 0, false), (22, .invokestatic 43, 25, 0, 0, false), (25, .goto 4, 28, 29, 0, false), (28, .iconst (-1), 29, 0, (-1), false), (29, .ireturn, 30, 0, 0, false)]
theorem ok_C_support : k_C_support.all (m_ok b_C_support 3) = true := by decide +kernel
def y_C_isEdge : MethodName := ⟨"DegreeCores", "isEdge", "(II)Z"⟩
abbrev b_C_isEdge : ByteArray := prog_1_method_8_code
def k_C_isEdge : List (Nat × mE) := [(0, .aload_n 0, 1, 0, 0, false), (1, .iload_n 1, 2, 0, 0, false), (2, .iload_n 2, 3, 0, 0, false), (3, .invokevirtual 32, 6, 0, 0, false), (6, .ifCond .eq 20, 9, 26, 0, false), (9, .aload_n 0, 10, 0, 0, false), (10, .getfield 9, 13, 0, 0, false), (13, .iload_n 1, 14, 0, 0, false), (14, .iaload, 15, 0, 0, false), (15, .iload_n 2, 16, 0, 0, false), (16, .invokestatic 36, 19, 0, 0, false), (19, .ifCond .eq 7, 22, 26, 0, false), (22, .iconst 1, 23, 0, 1, false), (23, .goto 4, 26, 27, 0, false), (26, .iconst 0, 27, 0, 0, false), (27, .ireturn, 28, 0, 0, false)]
theorem ok_C_isEdge : k_C_isEdge.all (m_ok b_C_isEdge 3) = true := by decide +kernel
def y_C_truss : MethodName := ⟨"DegreeCores", "truss", "(II)I"⟩
abbrev b_C_truss : ByteArray := prog_1_method_25_code
def k_C_truss : List (Nat × mE) := [(0, .aload_n 0, 1, 0, 0, false), (1, .iload_n 1, 2, 0, 0, false), (2, .iload_n 2, 3, 0, 0, false), (3, .invokevirtual 88, 6, 0, 0, false), (6, .ifCond .ne 5, 9, 11, 0, false), (9, .iconst (-1), 10, 0, (-1), false), (10, .ireturn, 11, 0, 0, false), (11, .aload_n 0, 12, 0, 0, false), (12, .getfield 9, 15, 0, 0, false), (15, .iconst 0, 16, 0, 0, false), (16, .aload_n 0, 17, 0, 0, false), (17, .getfield 13, 20, 0, 0, false), (20, .iconst 0, 21, 0, 0, false), (21, .aload_n 0, 22, 0, 0, false), (22, .getfield 25, 25, 0, 0, false), (25, .invokestatic 91, 28, 0, 0, false), (28, .iconst 2, 29, 0, 2, false), (29, .istore_n 3, 30, 0, 0, false), (30, .iconst 3, 31, 0, 3, false), (31, .istore 4, 33, 0, 0, false), (33, .iload 4, 35, 0, 0, true), (35, .aload_n 0, 36, 0, 0, false), (36, .getfield 25, 39, 0, 0, false), (39, .if_icmp .gt 33, 42, 72, 0, false), (42, .aload_n 0, 43, 0, 0, false), (43, .iload 4, 45, 0, 0, false), (45, .invokevirtual 97, 48, 0, 0, false), (48, .aload_n 0, 49, 0, 0, false), (49, .getfield 13, 52, 0, 0, false), (52, .iload_n 1, 53, 0, 0, false), (53, .iaload, 54, 0, 0, false), (54, .iload_n 2, 55, 0, 0, false), (55, .invokestatic 36, 58, 0, 0, false), (58, .ifCond .ne 5, 61, 63, 0, false), (61, .iload_n 3, 62, 0, 0, false), (62, .ireturn, 63, 0, 0, false), (63, .iload 4, 65, 0, 0, false), (65, .istore_n 3, 66, 0, 0, false), (66, .iinc 4 1, 69, 0, 1, false), (69, .goto (-36), 72, 33, 0, false), (72, .iload_n 3, 73, 0, 0, false), (73, .ireturn, 74, 0, 0, false)]
theorem ok_C_truss : k_C_truss.all (m_ok b_C_truss 5) = true := by decide +kernel
def y_C_shrinkToTruss : MethodName := ⟨"DegreeCores", "shrinkToTruss", "(I)V"⟩
abbrev b_C_shrinkToTruss : ByteArray := prog_1_method_33_code
def k_C_shrinkToTruss : List (Nat × mE) := [(0, .iconst 1, 1, 0, 1, false), (1, .istore_n 2, 2, 0, 0, false), (2, .iconst 0, 3, 0, 0, false), (3, .istore_n 3, 4, 0, 0, false), (4, .iload_n 2, 5, 0, 0, true), (5, .ifCond .eq 23, 8, 28, 0, false), (8, .iload_n 3, 9, 0, 0, false), (9, .bipush 66, 11, 0, 66, false), (11, .if_icmp .ge 17, 14, 28, 0, false), (14, .aload_n 0, 15, 0, 0, false), (15, .iload_n 1, 16, 0, 0, false), (16, .iconst 2, 17, 0, 2, false), (17, .isub, 18, 0, 0, false), (18, .invokevirtual 120, 21, 0, 0, false), (21, .istore_n 2, 22, 0, 0, false), (22, .iinc 3 1, 25, 0, 1, false), (25, .goto (-21), 28, 4, 0, false), (28, .return_, 29, 0, 0, false)]
theorem ok_C_shrinkToTruss : k_C_shrinkToTruss.all (m_ok b_C_shrinkToTruss 4) = true := by decide +kernel
def y_C_dropEdgesBelow : MethodName := ⟨"DegreeCores", "dropEdgesBelow", "(I)Z"⟩
abbrev b_C_dropEdgesBelow : ByteArray := prog_1_method_34_code
def k_C_dropEdgesBelow : List (Nat × mE) := [(0, .iconst 0, 1, 0, 0, false), (1, .istore_n 2, 2, 0, 0, false), (2, .iconst 0, 3, 0, 0, false), (3, .istore_n 3, 4, 0, 0, false), (4, .iload_n 3, 5, 0, 0, true), (5, .aload_n 0, 6, 0, 0, false), (6, .getfield 25, 9, 0, 0, false), (9, .if_icmp .ge 96, 12, 105, 0, false), (12, .iload_n 3, 13, 0, 0, false), (13, .iconst 1, 14, 0, 1, false), (14, .iadd, 15, 0, 0, false), (15, .istore 4, 17, 0, 0, false), (17, .iload 4, 19, 0, 0, true), (19, .aload_n 0, 20, 0, 0, false), (20, .getfield 25, 23, 0, 0, false), (23, .if_icmp .ge 76, 26, 99, 0, false), (26, .aload_n 0, 27, 0, 0, false), (27, .getfield 13, 30, 0, 0, false), (30, .iload_n 3, 31, 0, 0, false), (31, .iaload, 32, 0, 0, false), (32, .iload 4, 34, 0, 0, false), (34, .invokestatic 36, 37, 0, 0, false), (37, .ifCond .eq 56, 40, 93, 0, false), (40, .aload_n 0, 41, 0, 0, false), (41, .getfield 13, 44, 0, 0, false), (44, .iload_n 3, 45, 0, 0, false), (45, .iaload, 46, 0, 0, false), (46, .aload_n 0, 47, 0, 0, false), (47, .getfield 13, 50, 0, 0, false), (50, .iload 4, 52, 0, 0, false), (52, .iaload, 53, 0, 0, false), (53, .iand, 54, 0, 0, false), (54, .invokestatic 43, 57, 0, 0, false), (57, .iload_n 1, 58, 0, 0, false), (58, .if_icmp .ge 35, 61, 93, 0, false), (61, .aload_n 0, 62, 0, 0, false), (62, .getfield 13, 65, 0, 0, false), (65, .iload_n 3, 66, 0, 0, false), (66, .dup2, 67, 0, 0, false), (67, .iaload, 68, 0, 0, false), (68, .iconst 1, 69, 0, 1, false), (69, .iload 4, 71, 0, 0, false), (71, .ishl, 72, 0, 0, false), (72, .iconst (-1), 73, 0, (-1), false), (73, .ixor, 74, 0, 0, false), (74, .iand, 75, 0, 0, false), (75, .iastore, 76, 0, 0, false), (76, .aload_n 0, 77, 0, 0, false), (77, .getfield 13, 80, 0, 0, false), (80, .iload 4, 82, 0, 0, false), (82, .dup2, 83, 0, 0, false), (83, .iaload, 84, 0, 0, false), (84, .iconst 1, 85, 0, 1, false), (85, .iload_n 3, 86, 0, 0, false), (86, .ishl, 87, 0, 0, false), (87, .iconst (-1), 88, 0, (-1), false), (88, .ixor, 89, 0, 0, false), (89, .iand, 90, 0, 0, false), (90, .iastore, 91, 0, 0, false), (91, .iconst 1, 92, 0, 1, false), (92, .istore_n 2, 93, 0, 0, false), (93, .iinc 4 1, 96, 0, 1, false), (96, .goto (-79), 99, 17, 0, false), (99, .iinc 3 1, 102, 0, 1, false), (102, .goto (-98), 105, 4, 0, false), (105, .iload_n 2, 106, 0, 0, false), (106, .ireturn, 107, 0, 0, false)]
theorem ok_C_dropEdgesBelow : k_C_dropEdgesBelow.all (m_ok b_C_dropEdgesBelow 5) = true := by decide +kernel
def y_C_cluster : MethodName := ⟨"DegreeCores", "cluster", "(II)I"⟩
abbrev b_C_cluster : ByteArray := prog_1_method_26_code
def k_C_cluster : List (Nat × mE) := [(0, .aload_n 0, 1, 0, 0, false), (1, .iload_n 1, 2, 0, 0, false), (2, .invokevirtual 39, 5, 0, 0, false), (5, .ifCond .ne 5, 8, 10, 0, false), (8, .iconst (-1), 9, 0, (-1), false), (9, .ireturn, 10, 0, 0, false), (10, .iload_n 2, 11, 0, 0, false), (11, .invokestatic 101, 14, 0, 0, false), (14, .ifCond .ne 6, 17, 20, 0, false), (17, .bipush (-2), 19, 0, (-2), false), (19, .ireturn, 20, 0, 0, false), (20, .aload_n 0, 21, 0, 0, false), (21, .iload_n 1, 22, 0, 0, false), (22, .invokevirtual 104, 25, 0, 0, false), (25, .aload_n 0, 26, 0, 0, false), (26, .iload_n 1, 27, 0, 0, false), (27, .invokevirtual 107, 30, 0, 0, false), (30, .iload_n 2, 31, 0, 0, false), (31, .invokestatic 110, 34, 0, 0, false), (34, .ireturn, 35, 0, 0, false)]
theorem ok_C_cluster : k_C_cluster.all (m_ok b_C_cluster 3) = true := by decide +kernel
def y_C_isPart : MethodName := ⟨"DegreeCores", "isPart", "(I)Z"⟩
abbrev b_C_isPart : ByteArray := prog_1_method_53_code
def k_C_isPart : List (Nat × mE) := [(0, .iload_n 0, 1, 0, 0, false), (1, .ifCond .eq 8, 4, 9, 0, false), (4, .iload_n 0, 5, 0, 0, false), (5, .iconst 1, 6, 0, 1, false), (6, .if_icmp .ne 7, 9, 13, 0, false), (9, .iconst 1, 10, 0, 1, false), (10, .goto 4, 13, 14, 0, false), (13, .iconst 0, 14, 0, 0, false), (14, .ireturn, 15, 0, 0, false)]
theorem ok_C_isPart : k_C_isPart.all (m_ok b_C_isPart 1) = true := by decide +kernel
def y_C_pairsAt : MethodName := ⟨"DegreeCores", "pairsAt", "(I)I"⟩
abbrev b_C_pairsAt : ByteArray := prog_1_method_31_code
def k_C_pairsAt : List (Nat × mE) := [(0, .aload_n 0, 1, 0, 0, false), (1, .getfield 9, 4, 0, 0, false), (4, .iload_n 1, 5, 0, 0, false), (5, .iaload, 6, 0, 0, false), (6, .invokestatic 43, 9, 0, 0, false), (9, .invokestatic 117, 12, 0, 0, false), (12, .ireturn, 13, 0, 0, false)]
theorem ok_C_pairsAt : k_C_pairsAt.all (m_ok b_C_pairsAt 2) = true := by decide +kernel
def y_C_pairsOf : MethodName := ⟨"DegreeCores", "pairsOf", "(I)I"⟩
abbrev b_C_pairsOf : ByteArray := prog_1_method_54_code
def k_C_pairsOf : List (Nat × mE) := [(0, .iload_n 0, 1, 0, 0, false), (1, .iload_n 0, 2, 0, 0, false), (2, .iconst 1, 3, 0, 1, false), (3, .isub, 4, 0, 0, false), (4, .imul, 5, 0, 0, false), (5, .iconst 2, 6, 0, 2, false), (6, .idiv, 7, 0, 0, false), (7, .ireturn, 8, 0, 0, false)]
theorem ok_C_pairsOf : k_C_pairsOf.all (m_ok b_C_pairsOf 1) = true := by decide +kernel
def y_C_share : MethodName := ⟨"DegreeCores", "share", "(III)I"⟩
abbrev b_C_share : ByteArray := prog_1_method_55_code
def k_C_share : List (Nat × mE) := [(0, .iload_n 0, 1, 0, 0, false), (1, .invokestatic 149, 4, 0, 0, false), (4, .iload_n 1, 5, 0, 0, false), (5, .invokestatic 152, 8, 0, 0, false), (8, .istore_n 3, 9, 0, 0, false), (9, .iload_n 1, 10, 0, 0, false), (10, .ifCond .eq 7, 13, 17, 0, false), (13, .iload_n 3, 14, 0, 0, false), (14, .ifCond .ne 6, 17, 20, 0, false), (17, .bipush (-3), 19, 0, (-3), false), (19, .ireturn, 20, 0, 0, false), (20, .iload_n 2, 21, 0, 0, false), (21, .ifCond .ne 7, 24, 28, 0, false), (24, .iload_n 0, 25, 0, 0, false), (25, .goto 4, 28, 29, 0, false), (28, .iload_n 1, 29, 0, 0, false), (29, .iload_n 3, 30, 0, 0, false), (30, .idiv, 31, 0, 0, false), (31, .ireturn, 32, 0, 0, false)]
theorem ok_C_share : k_C_share.all (m_ok b_C_share 4) = true := by decide +kernel
def y_J_abs : MethodName := ⟨"java/lang/Math", "abs", "(I)I"⟩
abbrev b_J_abs : ByteArray := prog_5_method_59_code
def k_J_abs : List (Nat × mE) := [(0, .iload_n 0, 1, 0, 0, false), (1, .ifCond .ge 8, 4, 9, 0, false), (4, .iload_n 0, 5, 0, 0, false), (5, .ineg, 6, 0, 0, false), (6, .goto 4, 9, 10, 0, false), (9, .iload_n 0, 10, 0, 0, false), (10, .ireturn, 11, 0, 0, false)]
theorem ok_J_abs : k_J_abs.all (m_ok b_J_abs 1) = true := by decide +kernel
def y_C_greatestDivisor : MethodName := ⟨"DegreeCores", "greatestDivisor", "(II)I"⟩
abbrev b_C_greatestDivisor : ByteArray := prog_1_method_56_code
def k_C_greatestDivisor : List (Nat × mE) := [(0, .iload_n 0, 1, 0, 0, false), (1, .istore_n 2, 2, 0, 0, false), (2, .iload_n 1, 3, 0, 0, false), (3, .istore_n 3, 4, 0, 0, false), (4, .iconst 0, 5, 0, 0, false), (5, .istore 4, 7, 0, 0, false), (7, .iload 4, 9, 0, 0, true), (9, .bipush 50, 11, 0, 50, false), (11, .if_icmp .ge 23, 14, 34, 0, false), (14, .iload_n 3, 15, 0, 0, false), (15, .ifCond .eq 19, 18, 34, 0, false), (18, .iload_n 2, 19, 0, 0, false), (19, .iload_n 3, 20, 0, 0, false), (20, .irem, 21, 0, 0, false), (21, .istore 5, 23, 0, 0, false), (23, .iload_n 3, 24, 0, 0, false), (24, .istore_n 2, 25, 0, 0, false), (25, .iload 5, 27, 0, 0, false), (27, .istore_n 3, 28, 0, 0, false), (28, .iinc 4 1, 31, 0, 1, false), (31, .goto (-24), 34, 7, 0, false), (34, .iload_n 2, 35, 0, 0, false), (35, .ireturn, 36, 0, 0, false)]
theorem ok_C_greatestDivisor : k_C_greatestDivisor.all (m_ok b_C_greatestDivisor 6) = true := by decide +kernel
def y_C_closed : MethodName := ⟨"DegreeCores", "closed", "(I)I"⟩
abbrev b_C_closed : ByteArray := prog_1_method_27_code
def k_C_closed : List (Nat × mE) := [(0, .iload_n 1, 1, 0, 0, false), (1, .invokestatic 101, 4, 0, 0, false), (4, .ifCond .ne 6, 7, 10, 0, false), (7, .bipush (-2), 9, 0, (-2), false), (9, .ireturn, 10, 0, 0, false), (10, .iconst 0, 11, 0, 0, false), (11, .istore_n 2, 12, 0, 0, false), (12, .iconst 0, 13, 0, 0, false), (13, .istore_n 3, 14, 0, 0, false), (14, .iload_n 3, 15, 0, 0, true), (15, .aload_n 0, 16, 0, 0, false), (16, .getfield 25, 19, 0, 0, false), (19, .if_icmp .ge 17, 22, 36, 0, false), (22, .iload_n 2, 23, 0, 0, false), (23, .aload_n 0, 24, 0, 0, false), (24, .iload_n 3, 25, 0, 0, false), (25, .invokevirtual 107, 28, 0, 0, false), (28, .iadd, 29, 0, 0, false), (29, .istore_n 2, 30, 0, 0, false), (30, .iinc 3 1, 33, 0, 1, false), (33, .goto (-19), 36, 14, 0, false), (36, .aload_n 0, 37, 0, 0, false), (37, .invokevirtual 77, 40, 0, 0, false), (40, .iload_n 2, 41, 0, 0, false), (41, .iload_n 1, 42, 0, 0, false), (42, .invokestatic 110, 45, 0, 0, false), (45, .ireturn, 46, 0, 0, false)]
theorem ok_C_closed : k_C_closed.all (m_ok b_C_closed 4) = true := by decide +kernel
def y_C_densest : MethodName := ⟨"DegreeCores", "densest", "()I"⟩
abbrev b_C_densest : ByteArray := prog_1_method_35_code
def k_C_densest : List (Nat × mE) := [(0, .aload_n 0, 1, 0, 0, false), (1, .getfield 25, 4, 0, 0, false), (4, .ifCond .ne 8, 7, 12, 0, false), (7, .bipush (-3), 9, 0, (-3), false), (9, .goto 7, 12, 16, 0, false), (12, .aload_n 0, 13, 0, 0, false), (13, .invokevirtual 123, 16, 0, 0, false), (16, .ireturn, 17, 0, 0, false)]
theorem ok_C_densest : k_C_densest.all (m_ok b_C_densest 1) = true := by decide +kernel
def y_C_densestBits : MethodName := ⟨"DegreeCores", "densestBits", "()I"⟩
abbrev b_C_densestBits : ByteArray := prog_1_method_39_code
def k_C_densestBits : List (Nat × mE) := [(0, .iconst 0, 1, 0, 0, false), (1, .istore_n 1, 2, 0, 0, false), (2, .iconst 0, 3, 0, 0, false), (3, .istore_n 2, 4, 0, 0, false), (4, .iconst 0, 5, 0, 0, false), (5, .istore_n 3, 6, 0, 0, false), (6, .iconst 0, 7, 0, 0, false), (7, .istore 4, 9, 0, 0, false), (9, .iconst 1, 10, 0, 1, false), (10, .aload_n 0, 11, 0, 0, false), (11, .getfield 25, 14, 0, 0, false), (14, .ishl, 15, 0, 0, false), (15, .istore 5, 17, 0, 0, false), (17, .iconst 1, 18, 0, 1, false), (18, .istore 6, 20, 0, 0, false), (20, .iload 6, 22, 0, 0, true), (22, .iload 5, 24, 0, 0, false), (24, .if_icmp .ge 77, 27, 101, 0, false), (27, .iload 6, 29, 0, 0, false), (29, .invokestatic 66, 32, 0, 0, false), (32, .istore 7, 34, 0, 0, false), (34, .iload 4, 36, 0, 0, false), (36, .iload_n 3, 37, 0, 0, false), (37, .iload 7, 39, 0, 0, false), (39, .invokestatic 36, 42, 0, 0, false), (42, .ifCond .eq 14, 45, 56, 0, false), (45, .aload_n 0, 46, 0, 0, false), (46, .iload_n 3, 47, 0, 0, false), (47, .iload 7, 49, 0, 0, false), (49, .invokevirtual 49, 52, 0, 0, false), (52, .ineg, 53, 0, 0, false), (53, .goto 10, 56, 63, 0, false), (56, .aload_n 0, 57, 0, 0, false), (57, .iload_n 3, 58, 0, 0, false), (58, .iload 7, 60, 0, 0, false), (60, .invokevirtual 49, 63, 0, 0, false), (63, .iadd, 64, 0, 0, false), (64, .istore 4, 66, 0, 0, false), (66, .iload_n 3, 67, 0, 0, false), (67, .iconst 1, 68, 0, 1, false), (68, .iload 7, 70, 0, 0, false), (70, .ishl, 71, 0, 0, false), (71, .ixor, 72, 0, 0, false), (72, .istore_n 3, 73, 0, 0, false), (73, .iload 4, 75, 0, 0, false), (75, .iload_n 3, 76, 0, 0, false), (76, .invokestatic 43, 79, 0, 0, false), (79, .iload_n 2, 80, 0, 0, false), (80, .iload_n 1, 81, 0, 0, false), (81, .invokestatic 43, 84, 0, 0, false), (84, .invokestatic 135, 87, 0, 0, false), (87, .ifCond .eq 8, 90, 95, 0, false), (90, .iload_n 3, 91, 0, 0, false), (91, .istore_n 1, 92, 0, 0, false), (92, .iload 4, 94, 0, 0, false), (94, .istore_n 2, 95, 0, 0, false), (95, .iinc 6 1, 98, 0, 1, false), (98, .goto (-78), 101, 20, 0, false), (101, .iload_n 1, 102, 0, 0, false), (102, .ireturn, 103, 0, 0, false)]
theorem ok_C_densestBits : k_C_densestBits.all (m_ok b_C_densestBits 8) = true := by decide +kernel
def y_C_isDenser : MethodName := ⟨"DegreeCores", "isDenser", "(IIII)Z"⟩
abbrev b_C_isDenser : ByteArray := prog_1_method_40_code
def k_C_isDenser : List (Nat × mE) := [(0, .iload_n 0, 1, 0, 0, false), (1, .iload_n 3, 2, 0, 0, false), (2, .imul, 3, 0, 0, false), (3, .istore 4, 5, 0, 0, false), (5, .iload_n 2, 6, 0, 0, false), (6, .iload_n 1, 7, 0, 0, false), (7, .imul, 8, 0, 0, false), (8, .istore 5, 10, 0, 0, false), (10, .iload 4, 12, 0, 0, false), (12, .iload 5, 14, 0, 0, false), (14, .if_icmp .gt 15, 17, 29, 0, false), (17, .iload 4, 19, 0, 0, false), (19, .iload 5, 21, 0, 0, false), (21, .if_icmp .ne 12, 24, 33, 0, false), (24, .iload_n 1, 25, 0, 0, false), (25, .iload_n 3, 26, 0, 0, false), (26, .if_icmp .le 7, 29, 33, 0, false), (29, .iconst 1, 30, 0, 1, false), (30, .goto 4, 33, 34, 0, false), (33, .iconst 0, 34, 0, 0, false), (34, .ireturn, 35, 0, 0, false)]
theorem ok_C_isDenser : k_C_isDenser.all (m_ok b_C_isDenser 6) = true := by decide +kernel
def y_C_density : MethodName := ⟨"DegreeCores", "density", "(I)I"⟩
abbrev b_C_density : ByteArray := prog_1_method_36_code
def k_C_density : List (Nat × mE) := [(0, .iload_n 1, 1, 0, 0, false), (1, .invokestatic 101, 4, 0, 0, false), (4, .ifCond .ne 6, 7, 10, 0, false), (7, .bipush (-2), 9, 0, (-2), false), (9, .ireturn, 10, 0, 0, false), (10, .aload_n 0, 11, 0, 0, false), (11, .invokevirtual 123, 14, 0, 0, false), (14, .istore_n 2, 15, 0, 0, false), (15, .aload_n 0, 16, 0, 0, false), (16, .iload_n 2, 17, 0, 0, false), (17, .invokevirtual 114, 20, 0, 0, false), (20, .iload_n 2, 21, 0, 0, false), (21, .invokestatic 43, 24, 0, 0, false), (24, .iload_n 1, 25, 0, 0, false), (25, .invokestatic 110, 28, 0, 0, false), (28, .ireturn, 29, 0, 0, false)]
theorem ok_C_density : k_C_density.all (m_ok b_C_density 3) = true := by decide +kernel
def y_C_firm : MethodName := ⟨"DegreeCores", "firm", "(II)I"⟩
abbrev b_C_firm : ByteArray := prog_1_method_37_code
def k_C_firm : List (Nat × mE) := [(0, .aload_n 0, 1, 0, 0, false), (1, .iload_n 1, 2, 0, 0, false), (2, .iload_n 2, 3, 0, 0, false), (3, .invokevirtual 32, 6, 0, 0, false), (6, .ifCond .ne 5, 9, 11, 0, false), (9, .iconst (-1), 10, 0, (-1), false), (10, .ireturn, 11, 0, 0, false), (11, .aload_n 0, 12, 0, 0, false), (12, .getfield 9, 15, 0, 0, false), (15, .iload_n 1, 16, 0, 0, false), (16, .iaload, 17, 0, 0, false), (17, .invokestatic 43, 20, 0, 0, false), (20, .istore_n 3, 21, 0, 0, false), (21, .iconst 0, 22, 0, 0, false), (22, .istore 4, 24, 0, 0, false), (24, .iconst 0, 25, 0, 0, false), (25, .istore 5, 27, 0, 0, false), (27, .aload_n 0, 28, 0, 0, false), (28, .invokevirtual 126, 31, 0, 0, false), (31, .istore 6, 33, 0, 0, false), (33, .iconst 1, 34, 0, 1, false), (34, .istore 7, 36, 0, 0, false), (36, .iload 7, 38, 0, 0, true), (38, .iload 6, 40, 0, 0, false), (40, .if_icmp .ge 60, 43, 100, 0, false), (43, .iload 7, 45, 0, 0, false), (45, .invokestatic 66, 48, 0, 0, false), (48, .istore 8, 50, 0, 0, false), (50, .iload 5, 52, 0, 0, false), (52, .aload_n 0, 53, 0, 0, false), (53, .iload 4, 55, 0, 0, false), (55, .iload 8, 57, 0, 0, false), (57, .invokevirtual 129, 60, 0, 0, false), (60, .iadd, 61, 0, 0, false), (61, .istore 5, 63, 0, 0, false), (63, .iload 4, 65, 0, 0, false), (65, .iconst 1, 66, 0, 1, false), (66, .iload 8, 68, 0, 0, false), (68, .ishl, 69, 0, 0, false), (69, .ixor, 70, 0, 0, false), (70, .istore 4, 72, 0, 0, false), (72, .iload 4, 74, 0, 0, false), (74, .iload_n 1, 75, 0, 0, false), (75, .invokestatic 36, 78, 0, 0, false), (78, .iload 4, 80, 0, 0, false), (80, .iload_n 2, 81, 0, 0, false), (81, .invokestatic 36, 84, 0, 0, false), (84, .if_icmp .eq 10, 87, 94, 0, false), (87, .iload_n 3, 88, 0, 0, false), (88, .iload 5, 90, 0, 0, false), (90, .invokestatic 74, 93, 0, 0, false), (93, .istore_n 3, 94, 0, 0, false), (94, .iinc 7 1, 97, 0, 1, false), (97, .goto (-61), 100, 36, 0, false), (100, .iload_n 3, 101, 0, 0, false), (101, .ireturn, 102, 0, 0, false)]
theorem ok_C_firm : k_C_firm.all (m_ok b_C_firm 9) = true := by decide +kernel
def y_C_cutSteps : MethodName := ⟨"DegreeCores", "cutSteps", "()I"⟩
abbrev b_C_cutSteps : ByteArray := prog_1_method_42_code
def k_C_cutSteps : List (Nat × mE) := [(0, .aload_n 0, 1, 0, 0, false), (1, .getfield 25, 4, 0, 0, false), (4, .ifCond .ne 7, 7, 11, 0, false), (7, .iconst 0, 8, 0, 0, false), (8, .goto 11, 11, 19, 0, false), (11, .iconst 1, 12, 0, 1, false), (12, .aload_n 0, 13, 0, 0, false), (13, .getfield 25, 16, 0, 0, false), (16, .iconst 1, 17, 0, 1, false), (17, .isub, 18, 0, 0, false), (18, .ishl, 19, 0, 0, false), (19, .ireturn, 20, 0, 0, false)]
theorem ok_C_cutSteps : k_C_cutSteps.all (m_ok b_C_cutSteps 1) = true := by decide +kernel
def y_C_cutChange : MethodName := ⟨"DegreeCores", "cutChange", "(II)I"⟩
abbrev b_C_cutChange : ByteArray := prog_1_method_43_code
def k_C_cutChange : List (Nat × mE) := [(0, .aload_n 0, 1, 0, 0, false), (1, .iload_n 1, 2, 0, 0, false), (2, .iload_n 2, 3, 0, 0, false), (3, .invokevirtual 49, 6, 0, 0, false), (6, .istore_n 3, 7, 0, 0, false), (7, .aload_n 0, 8, 0, 0, false), (8, .getfield 9, 11, 0, 0, false), (11, .iload_n 2, 12, 0, 0, false), (12, .iaload, 13, 0, 0, false), (13, .invokestatic 43, 16, 0, 0, false), (16, .iload_n 3, 17, 0, 0, false), (17, .isub, 18, 0, 0, false), (18, .istore 4, 20, 0, 0, false), (20, .iload_n 1, 21, 0, 0, false), (21, .iload_n 2, 22, 0, 0, false), (22, .invokestatic 36, 25, 0, 0, false), (25, .ifCond .eq 10, 28, 35, 0, false), (28, .iload_n 3, 29, 0, 0, false), (29, .iload 4, 31, 0, 0, false), (31, .isub, 32, 0, 0, false), (32, .goto 7, 35, 39, 0, false), (35, .iload 4, 37, 0, 0, false), (37, .iload_n 3, 38, 0, 0, false), (38, .isub, 39, 0, 0, false), (39, .ireturn, 40, 0, 0, false)]
theorem ok_C_cutChange : k_C_cutChange.all (m_ok b_C_cutChange 5) = true := by decide +kernel
def y_C_classOf : MethodName := ⟨"DegreeCores", "classOf", "(II)I"⟩
abbrev b_C_classOf : ByteArray := prog_1_method_38_code
def k_C_classOf : List (Nat × mE) := [(0, .aload_n 0, 1, 0, 0, false), (1, .iload_n 1, 2, 0, 0, false), (2, .invokevirtual 39, 5, 0, 0, false), (5, .ifCond .ne 5, 8, 10, 0, false), (8, .iconst (-1), 9, 0, (-1), false), (9, .ireturn, 10, 0, 0, false), (10, .iload_n 2, 11, 0, 0, false), (11, .ifCond .ge 6, 14, 17, 0, false), (14, .bipush (-2), 16, 0, (-2), false), (16, .ireturn, 17, 0, 0, false), (17, .aload_n 0, 18, 0, 0, false), (18, .iload_n 1, 19, 0, 0, false), (19, .iload_n 2, 20, 0, 0, false), (20, .invokevirtual 132, 23, 0, 0, false), (23, .invokestatic 66, 26, 0, 0, false), (26, .ireturn, 27, 0, 0, false)]
theorem ok_C_classOf : k_C_classOf.all (m_ok b_C_classOf 3) = true := by decide +kernel
def y_C_classBits : MethodName := ⟨"DegreeCores", "classBits", "(II)I"⟩
abbrev b_C_classBits : ByteArray := prog_1_method_41_code
def k_C_classBits : List (Nat × mE) := [(0, .aload_n 0, 1, 0, 0, false), (1, .invokevirtual 56, 4, 0, 0, false), (4, .istore_n 3, 5, 0, 0, false), (5, .iconst 0, 6, 0, 0, false), (6, .istore 4, 8, 0, 0, false), (8, .iconst 0, 9, 0, 0, false), (9, .istore 5, 11, 0, 0, false), (11, .aload_n 0, 12, 0, 0, false), (12, .invokevirtual 126, 15, 0, 0, false), (15, .istore 6, 17, 0, 0, false), (17, .iconst 1, 18, 0, 1, false), (18, .istore 7, 20, 0, 0, false), (20, .iload 7, 22, 0, 0, true), (22, .iload 6, 24, 0, 0, false), (24, .if_icmp .ge 65, 27, 89, 0, false), (27, .iload 7, 29, 0, 0, false), (29, .invokestatic 66, 32, 0, 0, false), (32, .istore 8, 34, 0, 0, false), (34, .iload 5, 36, 0, 0, false), (36, .aload_n 0, 37, 0, 0, false), (37, .iload 4, 39, 0, 0, false), (39, .iload 8, 41, 0, 0, false), (41, .invokevirtual 129, 44, 0, 0, false), (44, .iadd, 45, 0, 0, false), (45, .istore 5, 47, 0, 0, false), (47, .iload 4, 49, 0, 0, false), (49, .iconst 1, 50, 0, 1, false), (50, .iload 8, 52, 0, 0, false), (52, .ishl, 53, 0, 0, false), (53, .ixor, 54, 0, 0, false), (54, .istore 4, 56, 0, 0, false), (56, .iload 5, 58, 0, 0, false), (58, .iload_n 2, 59, 0, 0, false), (59, .if_icmp .ge 24, 62, 83, 0, false), (62, .iload_n 3, 63, 0, 0, false), (63, .iload 4, 65, 0, 0, false), (65, .iload_n 1, 66, 0, 0, false), (66, .invokestatic 36, 69, 0, 0, false), (69, .ifCond .eq 8, 72, 77, 0, false), (72, .iload 4, 74, 0, 0, false), (74, .goto 7, 77, 81, 0, false), (77, .iload 4, 79, 0, 0, false), (79, .iconst (-1), 80, 0, (-1), false), (80, .ixor, 81, 0, 0, false), (81, .iand, 82, 0, 0, false), (82, .istore_n 3, 83, 0, 0, false), (83, .iinc 7 1, 86, 0, 1, false), (86, .goto (-66), 89, 20, 0, false), (89, .iload_n 3, 90, 0, 0, false), (90, .ireturn, 91, 0, 0, false)]
theorem ok_C_classBits : k_C_classBits.all (m_ok b_C_classBits 9) = true := by decide +kernel
def y_C_likeness : MethodName := ⟨"DegreeCores", "likeness", "(I)I"⟩
abbrev b_C_likeness : ByteArray := prog_1_method_44_code
def k_C_likeness : List (Nat × mE) := [(0, .iload_n 1, 1, 0, 0, false), (1, .invokestatic 101, 4, 0, 0, false), (4, .ifCond .ne 6, 7, 10, 0, false), (7, .bipush (-2), 9, 0, (-2), false), (9, .ireturn, 10, 0, 0, false), (10, .iconst 0, 11, 0, 0, false), (11, .istore_n 2, 12, 0, 0, false), (12, .iconst 0, 13, 0, 0, false), (13, .istore_n 3, 14, 0, 0, false), (14, .iconst 0, 15, 0, 0, false), (15, .istore 4, 17, 0, 0, false), (17, .iconst 0, 18, 0, 0, false), (18, .istore 5, 20, 0, 0, false), (20, .iconst 0, 21, 0, 0, false), (21, .istore 6, 23, 0, 0, false), (23, .iload 6, 25, 0, 0, true), (25, .aload_n 0, 26, 0, 0, false), (26, .getfield 25, 29, 0, 0, false), (29, .if_icmp .ge 106, 32, 135, 0, false), (32, .iload 6, 34, 0, 0, false), (34, .iconst 1, 35, 0, 1, false), (35, .iadd, 36, 0, 0, false), (36, .istore 7, 38, 0, 0, false), (38, .iload 7, 40, 0, 0, true), (40, .aload_n 0, 41, 0, 0, false), (41, .getfield 25, 44, 0, 0, false), (44, .if_icmp .ge 85, 47, 129, 0, false), (47, .aload_n 0, 48, 0, 0, false), (48, .getfield 9, 51, 0, 0, false), (51, .iload 6, 53, 0, 0, false), (53, .iaload, 54, 0, 0, false), (54, .iload 7, 56, 0, 0, false), (56, .invokestatic 36, 59, 0, 0, false), (59, .ifCond .eq 64, 62, 123, 0, false), (62, .aload_n 0, 63, 0, 0, false), (63, .getfield 9, 66, 0, 0, false), (66, .iload 6, 68, 0, 0, false), (68, .iaload, 69, 0, 0, false), (69, .invokestatic 43, 72, 0, 0, false), (72, .istore 8, 74, 0, 0, false), (74, .aload_n 0, 75, 0, 0, false), (75, .getfield 9, 78, 0, 0, false), (78, .iload 7, 80, 0, 0, false), (80, .iaload, 81, 0, 0, false), (81, .invokestatic 43, 84, 0, 0, false), (84, .istore 9, 86, 0, 0, false), (86, .iinc 2 1, 89, 0, 1, false), (89, .iload_n 3, 90, 0, 0, false), (90, .iload 8, 92, 0, 0, false), (92, .iload 9, 94, 0, 0, false), (94, .imul, 95, 0, 0, false), (95, .iadd, 96, 0, 0, false), (96, .istore_n 3, 97, 0, 0, false), (97, .iload 4, 99, 0, 0, false), (99, .iload 8, 101, 0, 0, false), (101, .iload 9, 103, 0, 0, false), (103, .iadd, 104, 0, 0, false), (104, .iadd, 105, 0, 0, false), (105, .istore 4, 107, 0, 0, false), (107, .iload 5, 109, 0, 0, false), (109, .iload 8, 111, 0, 0, false), (111, .iload 8, 113, 0, 0, false), (113, .imul, 114, 0, 0, false), (114, .iload 9, 116, 0, 0, false), (116, .iload 9, 118, 0, 0, false), (118, .imul, 119, 0, 0, false), (119, .iadd, 120, 0, 0, false), (120, .iadd, 121, 0, 0, false), (121, .istore 5, 123, 0, 0, false), (123, .iinc 7 1, 126, 0, 1, false), (126, .goto (-88), 129, 38, 0, false), (129, .iinc 6 1, 132, 0, 1, false), (132, .goto (-109), 135, 23, 0, false), (135, .iconst 4, 136, 0, 4, false), (136, .iload_n 2, 137, 0, 0, false), (137, .imul, 138, 0, 0, false), (138, .iload_n 3, 139, 0, 0, false), (139, .imul, 140, 0, 0, false), (140, .iload 4, 142, 0, 0, false), (142, .iload 4, 144, 0, 0, false), (144, .imul, 145, 0, 0, false), (145, .isub, 146, 0, 0, false), (146, .iconst 2, 147, 0, 2, false), (147, .iload_n 2, 148, 0, 0, false), (148, .imul, 149, 0, 0, false), (149, .iload 5, 151, 0, 0, false), (151, .imul, 152, 0, 0, false), (152, .iload 4, 154, 0, 0, false), (154, .iload 4, 156, 0, 0, false), (156, .imul, 157, 0, 0, false), (157, .isub, 158, 0, 0, false), (158, .iload_n 1, 159, 0, 0, false), (159, .invokestatic 110, 162, 0, 0, false), (162, .ireturn, 163, 0, 0, false)]
theorem ok_C_likeness : k_C_likeness.all (m_ok b_C_likeness 10) = true := by decide +kernel
def y_C_rich : MethodName := ⟨"DegreeCores", "rich", "(II)I"⟩
abbrev b_C_rich : ByteArray := prog_1_method_45_code
def k_C_rich : List (Nat × mE) := [(0, .iload_n 2, 1, 0, 0, false), (1, .invokestatic 101, 4, 0, 0, false), (4, .ifCond .eq 7, 7, 11, 0, false), (7, .iload_n 1, 8, 0, 0, false), (8, .ifCond .ge 6, 11, 14, 0, false), (11, .bipush (-2), 13, 0, (-2), false), (13, .ireturn, 14, 0, 0, false), (14, .aload_n 0, 15, 0, 0, false), (15, .invokevirtual 56, 18, 0, 0, false), (18, .aload_n 0, 19, 0, 0, false), (19, .aload_n 0, 20, 0, 0, false), (20, .invokevirtual 56, 23, 0, 0, false), (23, .iload_n 1, 24, 0, 0, false), (24, .invokevirtual 63, 27, 0, 0, false), (27, .iconst (-1), 28, 0, (-1), false), (28, .ixor, 29, 0, 0, false), (29, .iand, 30, 0, 0, false), (30, .istore_n 3, 31, 0, 0, false), (31, .aload_n 0, 32, 0, 0, false), (32, .iload_n 3, 33, 0, 0, false), (33, .invokevirtual 114, 36, 0, 0, false), (36, .iload_n 3, 37, 0, 0, false), (37, .invokestatic 43, 40, 0, 0, false), (40, .invokestatic 117, 43, 0, 0, false), (43, .iload_n 2, 44, 0, 0, false), (44, .invokestatic 110, 47, 0, 0, false), (47, .ireturn, 48, 0, 0, false)]
theorem ok_C_rich : k_C_rich.all (m_ok b_C_rich 4) = true := by decide +kernel
def y_C_want : MethodName := ⟨"DegreeCores", "want", "(I)I"⟩
abbrev b_C_want : ByteArray := prog_1_method_46_code
def k_C_want : List (Nat × mE) := [(0, .iload_n 1, 1, 0, 0, false), (1, .ifCond .lt 9, 4, 10, 0, false), (4, .iload_n 1, 5, 0, 0, false), (5, .bipush 20, 7, 0, 20, false), (7, .if_icmp .le 6, 10, 13, 0, false), (10, .bipush (-2), 12, 0, (-2), false), (12, .ireturn, 13, 0, 0, false), (13, .aload_n 0, 14, 0, 0, false), (14, .getfield 29, 17, 0, 0, false), (17, .bipush 12, 19, 0, 12, false), (19, .if_icmp .lt 6, 22, 25, 0, false), (22, .bipush (-4), 24, 0, (-4), false), (24, .ireturn, 25, 0, 0, false), (25, .aload_n 0, 26, 0, 0, false), (26, .getfield 19, 29, 0, 0, false), (29, .aload_n 0, 30, 0, 0, false), (30, .getfield 29, 33, 0, 0, false), (33, .iload_n 1, 34, 0, 0, false), (34, .iastore, 35, 0, 0, false), (35, .aload_n 0, 36, 0, 0, false), (36, .dup, 37, 0, 0, false), (37, .getfield 29, 40, 0, 0, false), (40, .iconst 1, 41, 0, 1, false), (41, .iadd, 42, 0, 0, false), (42, .putfield 29, 45, 0, 0, false), (45, .aload_n 0, 46, 0, 0, false), (46, .getfield 29, 49, 0, 0, false), (49, .ireturn, 50, 0, 0, false)]
theorem ok_C_want : k_C_want.all (m_ok b_C_want 2) = true := by decide +kernel
def y_C_unwant : MethodName := ⟨"DegreeCores", "unwant", "()I"⟩
abbrev b_C_unwant : ByteArray := prog_1_method_47_code
def k_C_unwant : List (Nat × mE) := [(0, .aload_n 0, 1, 0, 0, false), (1, .getfield 29, 4, 0, 0, false), (4, .istore_n 1, 5, 0, 0, false), (5, .aload_n 0, 6, 0, 0, false), (6, .iconst 0, 7, 0, 0, false), (7, .putfield 29, 10, 0, 0, false), (10, .iload_n 1, 11, 0, 0, false), (11, .ireturn, 12, 0, 0, false)]
theorem ok_C_unwant : k_C_unwant.all (m_ok b_C_unwant 2) = true := by decide +kernel
def y_C_graphic : MethodName := ⟨"DegreeCores", "graphic", "()I"⟩
abbrev b_C_graphic : ByteArray := prog_1_method_48_code
def k_C_graphic : List (Nat × mE) := [(0, .aload_n 0, 1, 0, 0, false), (1, .invokevirtual 139, 4, 0, 0, false), (4, .ifCond .eq 7, 7, 11, 0, false), (7, .iconst 1, 8, 0, 1, false), (8, .goto 4, 11, 12, 0, false), (11, .iconst 0, 12, 0, 0, false), (12, .ireturn, 13, 0, 0, false)]
theorem ok_C_graphic : k_C_graphic.all (m_ok b_C_graphic 1) = true := by decide +kernel
def y_C_tryMaking : MethodName := ⟨"DegreeCores", "tryMaking", "()Z"⟩
abbrev b_C_tryMaking : ByteArray := prog_1_method_50_code
def k_C_tryMaking : List (Nat × mE) := [(0, .aload_n 0, 1, 0, 0, false), (1, .getfield 19, 4, 0, 0, false), (4, .iconst 0, 5, 0, 0, false), (5, .aload_n 0, 6, 0, 0, false), (6, .getfield 22, 9, 0, 0, false), (9, .iconst 0, 10, 0, 0, false), (10, .aload_n 0, 11, 0, 0, false), (11, .getfield 29, 14, 0, 0, false), (14, .invokestatic 91, 17, 0, 0, false), (17, .iconst 0, 18, 0, 0, false), (18, .istore_n 1, 19, 0, 0, false), (19, .iload_n 1, 20, 0, 0, true), (20, .aload_n 0, 21, 0, 0, false), (21, .getfield 29, 24, 0, 0, false), (24, .if_icmp .ge 16, 27, 40, 0, false), (27, .aload_n 0, 28, 0, 0, false), (28, .getfield 16, 31, 0, 0, false), (31, .iload_n 1, 32, 0, 0, false), (32, .iconst 0, 33, 0, 0, false), (33, .iastore, 34, 0, 0, false), (34, .iinc 1 1, 37, 0, 1, false), (37, .goto (-18), 40, 19, 0, false), (40, .iconst 0, 41, 0, 0, false), (41, .istore_n 1, 42, 0, 0, false), (42, .iload_n 1, 43, 0, 0, true), (43, .aload_n 0, 44, 0, 0, false), (44, .getfield 29, 47, 0, 0, false), (47, .if_icmp .ge 29, 50, 76, 0, false), (50, .aload_n 0, 51, 0, 0, false), (51, .iconst 0, 52, 0, 0, false), (52, .invokevirtual 143, 55, 0, 0, false), (55, .istore_n 2, 56, 0, 0, false), (56, .iload_n 2, 57, 0, 0, false), (57, .ifCond .lt 13, 60, 70, 0, false), (60, .aload_n 0, 61, 0, 0, false), (61, .iload_n 2, 62, 0, 0, false), (62, .invokevirtual 146, 65, 0, 0, false), (65, .ifCond .ne 5, 68, 70, 0, false), (68, .iconst 0, 69, 0, 0, false), (69, .ireturn, 70, 0, 0, false), (70, .iinc 1 1, 73, 0, 1, false), (73, .goto (-31), 76, 42, 0, false), (76, .iconst 1, 77, 0, 1, false), (77, .ireturn, 78, 0, 0, false)]
theorem ok_C_tryMaking : k_C_tryMaking.all (m_ok b_C_tryMaking 3) = true := by decide +kernel
def y_C_wantsMost : MethodName := ⟨"DegreeCores", "wantsMost", "(I)I"⟩
abbrev b_C_wantsMost : ByteArray := prog_1_method_52_code
def k_C_wantsMost : List (Nat × mE) := [(0, .iconst (-1), 1, 0, (-1), false), (1, .istore_n 2, 2, 0, 0, false), (2, .iconst 0, 3, 0, 0, false), (3, .istore_n 3, 4, 0, 0, false), (4, .iconst 0, 5, 0, 0, false), (5, .istore 4, 7, 0, 0, false), (7, .iload 4, 9, 0, 0, true), (9, .aload_n 0, 10, 0, 0, false), (10, .getfield 29, 13, 0, 0, false), (13, .if_icmp .ge 40, 16, 53, 0, false), (16, .iload_n 1, 17, 0, 0, false), (17, .iload 4, 19, 0, 0, false), (19, .invokestatic 36, 22, 0, 0, false), (22, .ifCond .ne 25, 25, 47, 0, false), (25, .aload_n 0, 26, 0, 0, false), (26, .getfield 22, 29, 0, 0, false), (29, .iload 4, 31, 0, 0, false), (31, .iaload, 32, 0, 0, false), (32, .iload_n 3, 33, 0, 0, false), (33, .if_icmp .le 14, 36, 47, 0, false), (36, .iload 4, 38, 0, 0, false), (38, .istore_n 2, 39, 0, 0, false), (39, .aload_n 0, 40, 0, 0, false), (40, .getfield 22, 43, 0, 0, false), (43, .iload 4, 45, 0, 0, false), (45, .iaload, 46, 0, 0, false), (46, .istore_n 3, 47, 0, 0, false), (47, .iinc 4 1, 50, 0, 1, false), (50, .goto (-43), 53, 7, 0, false), (53, .iload_n 2, 54, 0, 0, false), (54, .ireturn, 55, 0, 0, false)]
theorem ok_C_wantsMost : k_C_wantsMost.all (m_ok b_C_wantsMost 5) = true := by decide +kernel
def y_C_serve : MethodName := ⟨"DegreeCores", "serve", "(I)Z"⟩
abbrev b_C_serve : ByteArray := prog_1_method_51_code
def k_C_serve : List (Nat × mE) := [(0, .iconst 1, 1, 0, 1, false), (1, .iload_n 1, 2, 0, 0, false), (2, .ishl, 3, 0, 0, false), (3, .istore_n 2, 4, 0, 0, false), (4, .aload_n 0, 5, 0, 0, false), (5, .getfield 22, 8, 0, 0, false), (8, .iload_n 1, 9, 0, 0, false), (9, .iaload, 10, 0, 0, false), (10, .istore_n 3, 11, 0, 0, false), (11, .iload_n 3, 12, 0, 0, true), (12, .ifCond .le 67, 15, 79, 0, false), (15, .aload_n 0, 16, 0, 0, false), (16, .iload_n 2, 17, 0, 0, false), (17, .invokevirtual 143, 20, 0, 0, false), (20, .istore 4, 22, 0, 0, false), (22, .iload 4, 24, 0, 0, false), (24, .ifCond .ge 5, 27, 29, 0, false), (27, .iconst 0, 28, 0, 0, false), (28, .ireturn, 29, 0, 0, false), (29, .aload_n 0, 30, 0, 0, false), (30, .getfield 16, 33, 0, 0, false), (33, .iload_n 1, 34, 0, 0, false), (34, .dup2, 35, 0, 0, false), (35, .iaload, 36, 0, 0, false), (36, .iconst 1, 37, 0, 1, false), (37, .iload 4, 39, 0, 0, false), (39, .ishl, 40, 0, 0, false), (40, .ior, 41, 0, 0, false), (41, .iastore, 42, 0, 0, false), (42, .aload_n 0, 43, 0, 0, false), (43, .getfield 16, 46, 0, 0, false), (46, .iload 4, 48, 0, 0, false), (48, .dup2, 49, 0, 0, false), (49, .iaload, 50, 0, 0, false), (50, .iconst 1, 51, 0, 1, false), (51, .iload_n 1, 52, 0, 0, false), (52, .ishl, 53, 0, 0, false), (53, .ior, 54, 0, 0, false), (54, .iastore, 55, 0, 0, false), (55, .aload_n 0, 56, 0, 0, false), (56, .getfield 22, 59, 0, 0, false), (59, .iload 4, 61, 0, 0, false), (61, .dup2, 62, 0, 0, false), (62, .iaload, 63, 0, 0, false), (63, .iconst 1, 64, 0, 1, false), (64, .isub, 65, 0, 0, false), (65, .iastore, 66, 0, 0, false), (66, .iload_n 2, 67, 0, 0, false), (67, .iconst 1, 68, 0, 1, false), (68, .iload 4, 70, 0, 0, false), (70, .ishl, 71, 0, 0, false), (71, .ior, 72, 0, 0, false), (72, .istore_n 2, 73, 0, 0, false), (73, .iinc 3 (-1), 76, 0, (-1), false), (76, .goto (-65), 79, 11, 0, false), (79, .aload_n 0, 80, 0, 0, false), (80, .getfield 22, 83, 0, 0, false), (83, .iload_n 1, 84, 0, 0, false), (84, .iconst 0, 85, 0, 0, false), (85, .iastore, 86, 0, 0, false), (86, .iconst 1, 87, 0, 1, false), (87, .ireturn, 88, 0, 0, false)]
theorem ok_C_serve : k_C_serve.all (m_ok b_C_serve 5) = true := by decide +kernel
def y_C_make : MethodName := ⟨"DegreeCores", "make", "()I"⟩
abbrev b_C_make : ByteArray := prog_1_method_49_code
def k_C_make : List (Nat × mE) := [(0, .aload_n 0, 1, 0, 0, false), (1, .invokevirtual 139, 4, 0, 0, false), (4, .ifCond .ne 6, 7, 10, 0, false), (7, .bipush (-3), 9, 0, (-3), false), (9, .ireturn, 10, 0, 0, false), (10, .aload_n 0, 11, 0, 0, false), (11, .aload_n 0, 12, 0, 0, false), (12, .getfield 29, 15, 0, 0, false), (15, .putfield 25, 18, 0, 0, false), (18, .aload_n 0, 19, 0, 0, false), (19, .getfield 16, 22, 0, 0, false), (22, .iconst 0, 23, 0, 0, false), (23, .aload_n 0, 24, 0, 0, false), (24, .getfield 9, 27, 0, 0, false), (27, .iconst 0, 28, 0, 0, false), (28, .aload_n 0, 29, 0, 0, false), (29, .getfield 25, 32, 0, 0, false), (32, .invokestatic 91, 35, 0, 0, false), (35, .aload_n 0, 36, 0, 0, false), (36, .aload_n 0, 37, 0, 0, false), (37, .invokevirtual 56, 40, 0, 0, false), (40, .invokevirtual 114, 43, 0, 0, false), (43, .ireturn, 44, 0, 0, false)]
theorem ok_C_make : k_C_make.all (m_ok b_C_make 1) = true := by decide +kernel
end
section
/-! code tables (by wip/whole/gen_names.py) -/
def y_M_node : MethodName := ⟨"DegreeCoresModel", "node", "()I"⟩
abbrev b_M_node : ByteArray := prog_3_method_6_code
def k_M_node : List (Nat × mE) := [(0, .aload_n 0, 1, 0, 0, false), (1, .getfield 32, 4, 0, 0, false), (4, .bipush 12, 6, 0, 12, false), (6, .if_icmp .ne 6, 9, 12, 0, false), (9, .bipush (-4), 11, 0, (-4), false), (11, .ireturn, 12, 0, 0, false), (12, .aload_n 0, 13, 0, 0, false), (13, .getfield 7, 16, 0, 0, false), (16, .aload_n 0, 17, 0, 0, false), (17, .getfield 32, 20, 0, 0, false), (20, .iconst 0, 21, 0, 0, false), (21, .iastore, 22, 0, 0, false), (22, .aload_n 0, 23, 0, 0, false), (23, .dup, 24, 0, 0, false), (24, .getfield 32, 27, 0, 0, false), (27, .iconst 1, 28, 0, 1, false), (28, .iadd, 29, 0, 0, false), (29, .putfield 32, 32, 0, 0, false), (32, .aload_n 0, 33, 0, 0, false), (33, .iconst 1, 34, 0, 1, false), (34, .putfield 16, 37, 0, 0, false), (37, .aload_n 0, 38, 0, 0, false), (38, .getfield 32, 41, 0, 0, false), (41, .iconst 1, 42, 0, 1, false), (42, .isub, 43, 0, 0, false), (43, .ireturn, 44, 0, 0, false)]
theorem ok_M_node : k_M_node.all (m_ok b_M_node 1) = true := by decide +kernel
def y_M_join : MethodName := ⟨"DegreeCoresModel", "join", "(IIZ)I"⟩
abbrev b_M_join : ByteArray := prog_3_method_7_code
def k_M_join : List (Nat × mE) := [(0, .aload_n 0, 1, 0, 0, false), (1, .iload_n 1, 2, 0, 0, false), (2, .iload_n 2, 3, 0, 0, false), (3, .invokevirtual 40, 6, 0, 0, false), (6, .ifCond .ne 5, 9, 11, 0, false), (9, .iconst (-1), 10, 0, (-1), false), (10, .ireturn, 11, 0, 0, false), (11, .aload_n 0, 12, 0, 0, false), (12, .getfield 7, 15, 0, 0, false), (15, .iload_n 1, 16, 0, 0, false), (16, .iaload, 17, 0, 0, false), (17, .iload_n 2, 18, 0, 0, false), (18, .ishr, 19, 0, 0, false), (19, .iconst 1, 20, 0, 1, false), (20, .iand, 21, 0, 0, false), (21, .iconst 1, 22, 0, 1, false), (22, .if_icmp .ne 7, 25, 29, 0, false), (25, .iconst 1, 26, 0, 1, false), (26, .goto 4, 29, 30, 0, false), (29, .iconst 0, 30, 0, 0, false), (30, .istore 4, 32, 0, 0, false), (32, .iload 4, 34, 0, 0, false), (34, .iload_n 3, 35, 0, 0, false), (35, .if_icmp .ne 5, 38, 40, 0, false), (38, .iconst 0, 39, 0, 0, false), (39, .ireturn, 40, 0, 0, false), (40, .aload_n 0, 41, 0, 0, false), (41, .getfield 7, 44, 0, 0, false), (44, .iload_n 1, 45, 0, 0, false), (45, .dup2, 46, 0, 0, false), (46, .iaload, 47, 0, 0, false), (47, .iconst 1, 48, 0, 1, false), (48, .iload_n 2, 49, 0, 0, false), (49, .ishl, 50, 0, 0, false), (50, .ixor, 51, 0, 0, false), (51, .iastore, 52, 0, 0, false), (52, .aload_n 0, 53, 0, 0, false), (53, .getfield 7, 56, 0, 0, false), (56, .iload_n 2, 57, 0, 0, false), (57, .dup2, 58, 0, 0, false), (58, .iaload, 59, 0, 0, false), (59, .iconst 1, 60, 0, 1, false), (60, .iload_n 1, 61, 0, 0, false), (61, .ishl, 62, 0, 0, false), (62, .ixor, 63, 0, 0, false), (63, .iastore, 64, 0, 0, false), (64, .aload_n 0, 65, 0, 0, false), (65, .iconst 1, 66, 0, 1, false), (66, .putfield 16, 69, 0, 0, false), (69, .iconst 1, 70, 0, 1, false), (70, .ireturn, 71, 0, 0, false)]
theorem ok_M_join : k_M_join.all (m_ok b_M_join 5) = true := by decide +kernel
def y_M_areTwo : MethodName := ⟨"DegreeCoresModel", "areTwo", "(II)Z"⟩
abbrev b_M_areTwo : ByteArray := prog_3_method_3_code
def k_M_areTwo : List (Nat × mE) := [(0, .aload_n 0, 1, 0, 0, false), (1, .iload_n 1, 2, 0, 0, false), (2, .invokevirtual 36, 5, 0, 0, false), (5, .ifCond .eq 20, 8, 25, 0, false), (8, .aload_n 0, 9, 0, 0, false), (9, .iload_n 2, 10, 0, 0, false), (10, .invokevirtual 36, 13, 0, 0, false), (13, .ifCond .eq 12, 16, 25, 0, false), (16, .iload_n 1, 17, 0, 0, false), (17, .iload_n 2, 18, 0, 0, false), (18, .if_icmp .eq 7, 21, 25, 0, false), (21, .iconst 1, 22, 0, 1, false), (22, .goto 4, 25, 26, 0, false), (25, .iconst 0, 26, 0, 0, false), (26, .ireturn, 27, 0, 0, false)]
theorem ok_M_areTwo : k_M_areTwo.all (m_ok b_M_areTwo 3) = true := by decide +kernel
def y_M_isNode : MethodName := ⟨"DegreeCoresModel", "isNode", "(I)Z"⟩
abbrev b_M_isNode : ByteArray := prog_3_method_2_code
def k_M_isNode : List (Nat × mE) := [(0, .iload_n 1, 1, 0, 0, false), (1, .ifCond .lt 15, 4, 16, 0, false), (4, .iload_n 1, 5, 0, 0, false), (5, .aload_n 0, 6, 0, 0, false), (6, .getfield 32, 9, 0, 0, false), (9, .if_icmp .ge 7, 12, 16, 0, false), (12, .iconst 1, 13, 0, 1, false), (13, .goto 4, 16, 17, 0, false), (16, .iconst 0, 17, 0, 0, false), (17, .ireturn, 18, 0, 0, false)]
theorem ok_M_isNode : k_M_isNode.all (m_ok b_M_isNode 2) = true := by decide +kernel
def y_M_joined : MethodName := ⟨"DegreeCoresModel", "joined", "(II)I"⟩
abbrev b_M_joined : ByteArray := prog_3_method_8_code
def k_M_joined : List (Nat × mE) := [(0, .aload_n 0, 1, 0, 0, false), (1, .iload_n 1, 2, 0, 0, false), (2, .iload_n 2, 3, 0, 0, false), (3, .invokevirtual 40, 6, 0, 0, false), (6, .ifCond .ne 7, 9, 13, 0, false), (9, .iconst (-1), 10, 0, (-1), false), (10, .goto 13, 13, 23, 0, false), (13, .aload_n 0, 14, 0, 0, false), (14, .getfield 7, 17, 0, 0, false), (17, .iload_n 1, 18, 0, 0, false), (18, .iaload, 19, 0, 0, false), (19, .iload_n 2, 20, 0, 0, false), (20, .ishr, 21, 0, 0, false), (21, .iconst 1, 22, 0, 1, false), (22, .iand, 23, 0, 0, false), (23, .ireturn, 24, 0, 0, false)]
theorem ok_M_joined : k_M_joined.all (m_ok b_M_joined 3) = true := by decide +kernel
def y_M_clear : MethodName := ⟨"DegreeCoresModel", "clear", "()I"⟩
abbrev b_M_clear : ByteArray := prog_3_method_9_code
def k_M_clear : List (Nat × mE) := [(0, .aload_n 0, 1, 0, 0, false), (1, .getfield 32, 4, 0, 0, false), (4, .istore_n 1, 5, 0, 0, false), (5, .aload_n 0, 6, 0, 0, false), (6, .iconst 0, 7, 0, 0, false), (7, .putfield 32, 10, 0, 0, false), (10, .aload_n 0, 11, 0, 0, false), (11, .iconst 1, 12, 0, 1, false), (12, .putfield 16, 15, 0, 0, false), (15, .iload_n 1, 16, 0, 0, false), (16, .ireturn, 17, 0, 0, false)]
theorem ok_M_clear : k_M_clear.all (m_ok b_M_clear 2) = true := by decide +kernel
def y_M_degree : MethodName := ⟨"DegreeCoresModel", "degree", "(I)I"⟩
abbrev b_M_degree : ByteArray := prog_3_method_10_code
def k_M_degree : List (Nat × mE) := [(0, .aload_n 0, 1, 0, 0, false), (1, .iload_n 1, 2, 0, 0, false), (2, .invokevirtual 36, 5, 0, 0, false), (5, .ifCond .eq 15, 8, 20, 0, false), (8, .aload_n 0, 9, 0, 0, false), (9, .getfield 7, 12, 0, 0, false), (12, .iload_n 1, 13, 0, 0, false), (13, .iaload, 14, 0, 0, false), (14, .invokestatic 44, 17, 0, 0, false), (17, .goto 4, 20, 21, 0, false), (20, .iconst (-1), 21, 0, (-1), false), (21, .ireturn, 22, 0, 0, false)]
theorem ok_M_degree : k_M_degree.all (m_ok b_M_degree 2) = true := by decide +kernel
def y_M_count : MethodName := ⟨"DegreeCoresModel", "count", "(I)I"⟩
abbrev b_M_count : ByteArray := prog_3_method_4_code
def k_M_count : List (Nat × mE) := [(0, .iconst 0, 1, 0, 0, false), (1, .istore_n 1, 2, 0, 0, false), (2, .iconst 0, 3, 0, 0, false), (3, .istore_n 2, 4, 0, 0, false), (4, .iload_n 2, 5, 0, 0, true), (5, .bipush 12, 7, 0, 12, false), (7, .if_icmp .ge 17, 10, 24, 0, false), (10, .iload_n 1, 11, 0, 0, false), (11, .iload_n 0, 12, 0, 0, false), (12, .iload_n 2, 13, 0, 0, false), (13, .ishr, 14, 0, 0, false), (14, .iconst 1, 15, 0, 1, false), (15, .iand, 16, 0, 0, false), (16, .iadd, 17, 0, 0, false), (17, .istore_n 1, 18, 0, 0, false), (18, .iinc 2 1, 21, 0, 1, false), (21, .goto (-17), 24, 4, 0, false), (24, .iload_n 1, 25, 0, 0, false), (25, .ireturn, 26, 0, 0, false)]
theorem ok_M_count : k_M_count.all (m_ok b_M_count 3) = true := by decide +kernel
def y_M_core : MethodName := ⟨"DegreeCoresModel", "core", "(I)I"⟩
abbrev b_M_core : ByteArray := prog_3_method_12_code
def k_M_core : List (Nat × mE) := [(0, .aload_n 0, 1, 0, 0, false), (1, .iload_n 1, 2, 0, 0, false), (2, .invokevirtual 36, 5, 0, 0, false), (5, .ifCond .ne 5, 8, 10, 0, false), (8, .iconst (-1), 9, 0, (-1), false), (9, .ireturn, 10, 0, 0, false), (10, .iconst 0, 11, 0, 0, false), (11, .istore_n 2, 12, 0, 0, false), (12, .aload_n 0, 13, 0, 0, true), (13, .iload_n 2, 14, 0, 0, false), (14, .iconst 1, 15, 0, 1, false), (15, .iadd, 16, 0, 0, false), (16, .invokevirtual 52, 19, 0, 0, false), (19, .iload_n 1, 20, 0, 0, false), (20, .ishr, 21, 0, 0, false), (21, .iconst 1, 22, 0, 1, false), (22, .iand, 23, 0, 0, false), (23, .iconst 1, 24, 0, 1, false), (24, .if_icmp .ne 9, 27, 33, 0, false), (27, .iinc 2 1, 30, 0, 1, false), (30, .goto (-18), 33, 12, 0, false), (33, .iload_n 2, 34, 0, 0, false), (34, .ireturn, 35, 0, 0, false)]
theorem ok_M_core : k_M_core.all (m_ok b_M_core 3) = true := by decide +kernel
def y_M_coreOf : MethodName := ⟨"DegreeCoresModel", "coreOf", "(I)I"⟩
abbrev b_M_coreOf : ByteArray := prog_3_method_11_code
def k_M_coreOf : List (Nat × mE) := [(0, .aload_n 0, 1, 0, 0, false), (1, .invokevirtual 48, 4, 0, 0, false), (4, .istore_n 2, 5, 0, 0, false), (5, .iconst 1, 6, 0, 1, false), (6, .istore_n 3, 7, 0, 0, false), (7, .iload_n 3, 8, 0, 0, true), (8, .ifCond .eq 63, 11, 71, 0, false), (11, .iconst 0, 12, 0, 0, false), (12, .istore_n 3, 13, 0, 0, false), (13, .iconst 0, 14, 0, 0, false), (14, .istore 4, 16, 0, 0, false), (16, .iload 4, 18, 0, 0, true), (18, .aload_n 0, 19, 0, 0, false), (19, .getfield 32, 22, 0, 0, false), (22, .if_icmp .ge 46, 25, 68, 0, false), (25, .iload_n 2, 26, 0, 0, false), (26, .iload 4, 28, 0, 0, false), (28, .ishr, 29, 0, 0, false), (29, .iconst 1, 30, 0, 1, false), (30, .iand, 31, 0, 0, false), (31, .iconst 1, 32, 0, 1, false), (32, .if_icmp .ne 30, 35, 62, 0, false), (35, .aload_n 0, 36, 0, 0, false), (36, .getfield 7, 39, 0, 0, false), (39, .iload 4, 41, 0, 0, false), (41, .iaload, 42, 0, 0, false), (42, .iload_n 2, 43, 0, 0, false), (43, .iand, 44, 0, 0, false), (44, .invokestatic 44, 47, 0, 0, false), (47, .iload_n 1, 48, 0, 0, false), (48, .if_icmp .ge 14, 51, 62, 0, false), (51, .iload_n 2, 52, 0, 0, false), (52, .iconst 1, 53, 0, 1, false), (53, .iload 4, 55, 0, 0, false), (55, .ishl, 56, 0, 0, false), (56, .iconst (-1), 57, 0, (-1), false), (57, .ixor, 58, 0, 0, false), (58, .iand, 59, 0, 0, false), (59, .istore_n 2, 60, 0, 0, false), (60, .iconst 1, 61, 0, 1, false), (61, .istore_n 3, 62, 0, 0, false), (62, .iinc 4 1, 65, 0, 1, false), (65, .goto (-49), 68, 16, 0, false), (68, .goto (-61), 71, 7, 0, false), (71, .iload_n 2, 72, 0, 0, false), (72, .ireturn, 73, 0, 0, false)]
theorem ok_M_coreOf : k_M_coreOf.all (m_ok b_M_coreOf 5) = true := by decide +kernel
def y_M_all : MethodName := ⟨"DegreeCoresModel", "all", "()I"⟩
abbrev b_M_all : ByteArray := prog_3_method_5_code
def k_M_all : List (Nat × mE) := [(0, .iconst 1, 1, 0, 1, false), (1, .aload_n 0, 2, 0, 0, false), (2, .getfield 32, 5, 0, 0, false), (5, .ishl, 6, 0, 0, false), (6, .iconst 1, 7, 0, 1, false), (7, .isub, 8, 0, 0, false), (8, .ireturn, 9, 0, 0, false)]
theorem ok_M_all : k_M_all.all (m_ok b_M_all 1) = true := by decide +kernel
def y_M_coreSet : MethodName := ⟨"DegreeCoresModel", "coreSet", "(I)I"⟩
abbrev b_M_coreSet : ByteArray := prog_3_method_13_code
def k_M_coreSet : List (Nat × mE) := [(0, .iload_n 1, 1, 0, 0, false), (1, .ifCond .ge 8, 4, 9, 0, false), (4, .bipush (-2), 6, 0, (-2), false), (6, .goto 8, 9, 14, 0, false), (9, .aload_n 0, 10, 0, 0, false), (10, .iload_n 1, 11, 0, 0, false), (11, .invokevirtual 52, 14, 0, 0, false), (14, .ireturn, 15, 0, 0, false)]
theorem ok_M_coreSet : k_M_coreSet.all (m_ok b_M_coreSet 2) = true := by decide +kernel
def y_M_peeled : MethodName := ⟨"DegreeCoresModel", "peeled", "(I)I"⟩
abbrev b_M_peeled : ByteArray := prog_3_method_14_code
def k_M_peeled : List (Nat × mE) := [(0, .aload_n 0, 1, 0, 0, false), (1, .iload_n 1, 2, 0, 0, false), (2, .invokevirtual 36, 5, 0, 0, false), (5, .ifCond .ne 5, 8, 10, 0, false), (8, .iconst (-1), 9, 0, (-1), false), (9, .ireturn, 10, 0, 0, false), (10, .aload_n 0, 11, 0, 0, false), (11, .invokevirtual 48, 14, 0, 0, false), (14, .istore_n 2, 15, 0, 0, false), (15, .iconst (-1), 16, 0, (-1), false), (16, .istore_n 3, 17, 0, 0, false), (17, .iconst 0, 18, 0, 0, false), (18, .istore 4, 20, 0, 0, false), (20, .iload 4, 22, 0, 0, true), (22, .iload_n 1, 23, 0, 0, false), (23, .if_icmp .gt 80, 26, 103, 0, false), (26, .iconst (-1), 27, 0, (-1), false), (27, .istore_n 3, 28, 0, 0, false), (28, .iconst 0, 29, 0, 0, false), (29, .istore 5, 31, 0, 0, false), (31, .iload 5, 33, 0, 0, true), (33, .aload_n 0, 34, 0, 0, false), (34, .getfield 32, 37, 0, 0, false), (37, .if_icmp .ge 52, 40, 89, 0, false), (40, .iload_n 2, 41, 0, 0, false), (41, .iload 5, 43, 0, 0, false), (43, .ishr, 44, 0, 0, false), (44, .iconst 1, 45, 0, 1, false), (45, .iand, 46, 0, 0, false), (46, .iconst 1, 47, 0, 1, false), (47, .if_icmp .ne 36, 50, 83, 0, false), (50, .iload_n 3, 51, 0, 0, false), (51, .ifCond .lt 29, 54, 80, 0, false), (54, .aload_n 0, 55, 0, 0, false), (55, .getfield 7, 58, 0, 0, false), (58, .iload 5, 60, 0, 0, false), (60, .iaload, 61, 0, 0, false), (61, .iload_n 2, 62, 0, 0, false), (62, .iand, 63, 0, 0, false), (63, .invokestatic 44, 66, 0, 0, false), (66, .aload_n 0, 67, 0, 0, false), (67, .getfield 7, 70, 0, 0, false), (70, .iload_n 3, 71, 0, 0, false), (71, .iaload, 72, 0, 0, false), (72, .iload_n 2, 73, 0, 0, false), (73, .iand, 74, 0, 0, false), (74, .invokestatic 44, 77, 0, 0, false), (77, .if_icmp .ge 6, 80, 83, 0, false), (80, .iload 5, 82, 0, 0, false), (82, .istore_n 3, 83, 0, 0, false), (83, .iinc 5 1, 86, 0, 1, false), (86, .goto (-55), 89, 31, 0, false), (89, .iload_n 2, 90, 0, 0, false), (90, .iconst 1, 91, 0, 1, false), (91, .iload_n 3, 92, 0, 0, false), (92, .ishl, 93, 0, 0, false), (93, .iconst (-1), 94, 0, (-1), false), (94, .ixor, 95, 0, 0, false), (95, .iand, 96, 0, 0, false), (96, .istore_n 2, 97, 0, 0, false), (97, .iinc 4 1, 100, 0, 1, false), (100, .goto (-80), 103, 20, 0, false), (103, .iload_n 3, 104, 0, 0, false), (104, .ireturn, 105, 0, 0, false)]
theorem ok_M_peeled : k_M_peeled.all (m_ok b_M_peeled 6) = true := by decide +kernel
def y_M_layer : MethodName := ⟨"DegreeCoresModel", "layer", "(I)I"⟩
abbrev b_M_layer : ByteArray := prog_3_method_15_code
def k_M_layer : List (Nat × mE) := [(0, .aload_n 0, 1, 0, 0, false), (1, .iload_n 1, 2, 0, 0, false), (2, .invokevirtual 36, 5, 0, 0, false), (5, .ifCond .ne 5, 8, 10, 0, false), (8, .iconst (-1), 9, 0, (-1), false), (9, .ireturn, 10, 0, 0, false), (10, .aload_n 0, 11, 0, 0, false), (11, .invokevirtual 48, 14, 0, 0, false), (14, .istore_n 2, 15, 0, 0, false), (15, .iconst 0, 16, 0, 0, false), (16, .istore_n 3, 17, 0, 0, false), (17, .iconst 0, 18, 0, 0, false), (18, .istore 4, 20, 0, 0, false), (20, .iload_n 2, 21, 0, 0, true), (21, .iload_n 1, 22, 0, 0, false), (22, .ishr, 23, 0, 0, false), (23, .iconst 1, 24, 0, 1, false), (24, .iand, 25, 0, 0, false), (25, .iconst 1, 26, 0, 1, false), (26, .if_icmp .ne 151, 29, 177, 0, false), (29, .bipush 12, 31, 0, 12, false), (31, .istore 5, 33, 0, 0, false), (33, .iconst 0, 34, 0, 0, false), (34, .istore 6, 36, 0, 0, false), (36, .iload 6, 38, 0, 0, true), (38, .aload_n 0, 39, 0, 0, false), (39, .getfield 32, 42, 0, 0, false), (42, .if_icmp .ge 49, 45, 91, 0, false), (45, .aload_n 0, 46, 0, 0, false), (46, .getfield 7, 49, 0, 0, false), (49, .iload 6, 51, 0, 0, false), (51, .iaload, 52, 0, 0, false), (52, .iload_n 2, 53, 0, 0, false), (53, .iand, 54, 0, 0, false), (54, .invokestatic 44, 57, 0, 0, false), (57, .istore 7, 59, 0, 0, false), (59, .iload_n 2, 60, 0, 0, false), (60, .iload 6, 62, 0, 0, false), (62, .ishr, 63, 0, 0, false), (63, .iconst 1, 64, 0, 1, false), (64, .iand, 65, 0, 0, false), (65, .iconst 1, 66, 0, 1, false), (66, .if_icmp .ne 15, 69, 81, 0, false), (69, .iload 7, 71, 0, 0, false), (71, .iload 5, 73, 0, 0, false), (73, .if_icmp .ge 8, 76, 81, 0, false), (76, .iload 7, 78, 0, 0, false), (78, .goto 5, 81, 83, 0, false), (81, .iload 5, 83, 0, 0, false), (83, .istore 5, 85, 0, 0, false), (85, .iinc 6 1, 88, 0, 1, false), (88, .goto (-52), 91, 36, 0, false), (91, .iload 5, 93, 0, 0, false), (93, .iload_n 3, 94, 0, 0, false), (94, .if_icmp .le 8, 97, 102, 0, false), (97, .iload 5, 99, 0, 0, false), (99, .goto 4, 102, 103, 0, false), (102, .iload_n 3, 103, 0, 0, false), (103, .istore_n 3, 104, 0, 0, false), (104, .iconst 0, 105, 0, 0, false), (105, .istore 6, 107, 0, 0, false), (107, .iconst 0, 108, 0, 0, false), (108, .istore 7, 110, 0, 0, false), (110, .iload 7, 112, 0, 0, true), (112, .aload_n 0, 113, 0, 0, false), (113, .getfield 32, 116, 0, 0, false), (116, .if_icmp .ge 48, 119, 164, 0, false), (119, .iload 6, 121, 0, 0, false), (121, .iload_n 2, 122, 0, 0, false), (122, .iload 7, 124, 0, 0, false), (124, .ishr, 125, 0, 0, false), (125, .iconst 1, 126, 0, 1, false), (126, .iand, 127, 0, 0, false), (127, .iconst 1, 128, 0, 1, false), (128, .if_icmp .ne 26, 131, 154, 0, false), (131, .aload_n 0, 132, 0, 0, false), (132, .getfield 7, 135, 0, 0, false), (135, .iload 7, 137, 0, 0, false), (137, .iaload, 138, 0, 0, false), (138, .iload_n 2, 139, 0, 0, false), (139, .iand, 140, 0, 0, false), (140, .invokestatic 44, 143, 0, 0, false), (143, .iload_n 3, 144, 0, 0, false), (144, .if_icmp .gt 10, 147, 154, 0, false), (147, .iconst 1, 148, 0, 1, false), (148, .iload 7, 150, 0, 0, false), (150, .ishl, 151, 0, 0, false), (151, .goto 4, 154, 155, 0, false), (154, .iconst 0, 155, 0, 0, false), (155, .ior, 156, 0, 0, false), (156, .istore 6, 158, 0, 0, false), (158, .iinc 7 1, 161, 0, 1, false), (161, .goto (-51), 164, 110, 0, false), (164, .iload_n 2, 165, 0, 0, false), (165, .iload 6, 167, 0, 0, false), (167, .iconst (-1), 168, 0, (-1), false), (168, .ixor, 169, 0, 0, false), (169, .iand, 170, 0, 0, false), (170, .istore_n 2, 171, 0, 0, false), (171, .iinc 4 1, 174, 0, 1, false), (174, .goto (-154), 177, 20, 0, false), (177, .iload 4, 179, 0, 0, false), (179, .ireturn, 180, 0, 0, false)]
theorem ok_M_layer : k_M_layer.all (m_ok b_M_layer 8) = true := by decide +kernel
def y_M_triangles : MethodName := ⟨"DegreeCoresModel", "triangles", "()I"⟩
abbrev b_M_triangles : ByteArray := prog_3_method_18_code
def k_M_triangles : List (Nat × mE) := [(0, .aload_n 0, 1, 0, 0, false), (1, .iconst (-1), 2, 0, (-1), false), (2, .invokevirtual 67, 5, 0, 0, false), (5, .ireturn, 6, 0, 0, false)]
theorem ok_M_triangles : k_M_triangles.all (m_ok b_M_triangles 1) = true := by decide +kernel
def y_M_walk : MethodName := ⟨"DegreeCoresModel", "walk", "(I)I"⟩
abbrev b_M_walk : ByteArray := prog_3_method_17_code
def k_M_walk : List (Nat × mE) := [(0, .iconst 0, 1, 0, 0, false), (1, .istore_n 2, 2, 0, 0, false), (2, .iconst 0, 3, 0, 0, false), (3, .istore_n 3, 4, 0, 0, false), (4, .iload_n 3, 5, 0, 0, true), (5, .aload_n 0, 6, 0, 0, false), (6, .getfield 32, 9, 0, 0, false), (9, .if_icmp .ge 108, 12, 117, 0, false), (12, .iload_n 3, 13, 0, 0, false), (13, .iconst 1, 14, 0, 1, false), (14, .iadd, 15, 0, 0, false), (15, .istore 4, 17, 0, 0, false), (17, .iload 4, 19, 0, 0, true), (19, .aload_n 0, 20, 0, 0, false), (20, .getfield 32, 23, 0, 0, false), (23, .if_icmp .ge 88, 26, 111, 0, false), (26, .iload 4, 28, 0, 0, false), (28, .iconst 1, 29, 0, 1, false), (29, .iadd, 30, 0, 0, false), (30, .istore 5, 32, 0, 0, false), (32, .iload 5, 34, 0, 0, true), (34, .aload_n 0, 35, 0, 0, false), (35, .getfield 32, 38, 0, 0, false), (38, .if_icmp .ge 67, 41, 105, 0, false), (41, .aload_n 0, 42, 0, 0, false), (42, .iload_n 3, 43, 0, 0, false), (43, .iload 4, 45, 0, 0, false), (45, .invokevirtual 55, 48, 0, 0, false), (48, .ifCond .eq 51, 51, 99, 0, false), (51, .aload_n 0, 52, 0, 0, false), (52, .iload_n 3, 53, 0, 0, false), (53, .iload 5, 55, 0, 0, false), (55, .invokevirtual 55, 58, 0, 0, false), (58, .ifCond .eq 41, 61, 99, 0, false), (61, .aload_n 0, 62, 0, 0, false), (62, .iload 4, 64, 0, 0, false), (64, .iload 5, 66, 0, 0, false), (66, .invokevirtual 55, 69, 0, 0, false), (69, .ifCond .eq 30, 72, 99, 0, false), (72, .iinc 2 1, 75, 0, 1, false), (75, .aload_n 0, 76, 0, 0, false), (76, .iload_n 3, 77, 0, 0, false), (77, .putfield 58, 80, 0, 0, false), (80, .aload_n 0, 81, 0, 0, false), (81, .iload 4, 83, 0, 0, false), (83, .putfield 61, 86, 0, 0, false), (86, .aload_n 0, 87, 0, 0, false), (87, .iload 5, 89, 0, 0, false), (89, .putfield 64, 92, 0, 0, false), (92, .iload_n 2, 93, 0, 0, false), (93, .iload_n 1, 94, 0, 0, false), (94, .if_icmp .ne 5, 97, 99, 0, false), (97, .iload_n 2, 98, 0, 0, false), (98, .ireturn, 99, 0, 0, false), (99, .iinc 5 1, 102, 0, 1, false), (102, .goto (-70), 105, 32, 0, false), (105, .iinc 4 1, 108, 0, 1, false), (108, .goto (-91), 111, 17, 0, false), (111, .iinc 3 1, 114, 0, 1, false), (114, .goto (-110), 117, 4, 0, false), (117, .iload_n 2, 118, 0, 0, false), (118, .ireturn, 119, 0, 0, false)]
theorem ok_M_walk : k_M_walk.all (m_ok b_M_walk 6) = true := by decide +kernel
def y_M_areJoined : MethodName := ⟨"DegreeCoresModel", "areJoined", "(II)Z"⟩
abbrev b_M_areJoined : ByteArray := prog_3_method_16_code
def k_M_areJoined : List (Nat × mE) := [(0, .aload_n 0, 1, 0, 0, false), (1, .getfield 7, 4, 0, 0, false), (4, .iload_n 1, 5, 0, 0, false), (5, .iaload, 6, 0, 0, false), (6, .iload_n 2, 7, 0, 0, false), (7, .ishr, 8, 0, 0, false), (8, .iconst 1, 9, 0, 1, false), (9, .iand, 10, 0, 0, false), (10, .iconst 1, 11, 0, 1, false), (11, .if_icmp .ne 7, 14, 18, 0, false), (14, .iconst 1, 15, 0, 1, false), (15, .goto 4, 18, 19, 0, false), (18, .iconst 0, 19, 0, 0, false), (19, .ireturn, 20, 0, 0, false)]
theorem ok_M_areJoined : k_M_areJoined.all (m_ok b_M_areJoined 3) = true := by decide +kernel
def y_M_triangle : MethodName := ⟨"DegreeCoresModel", "triangle", "(II)I"⟩
abbrev b_M_triangle : ByteArray := prog_3_method_19_code
def k_M_triangle : List (Nat × mE) := [(0, .iload_n 1, 1, 0, 0, false), (1, .ifCond .lt 21, 4, 22, 0, false), (4, .iload_n 1, 5, 0, 0, false), (5, .sipush 1000, 8, 0, 1000, false), (8, .if_icmp .gt 14, 11, 22, 0, false), (11, .aload_n 0, 12, 0, 0, false), (12, .iload_n 1, 13, 0, 0, false), (13, .iconst 1, 14, 0, 1, false), (14, .iadd, 15, 0, 0, false), (15, .invokevirtual 67, 18, 0, 0, false), (18, .iload_n 1, 19, 0, 0, false), (19, .if_icmp .gt 5, 22, 24, 0, false), (22, .iconst (-1), 23, 0, (-1), false), (23, .ireturn, 24, 0, 0, false), (24, .iload_n 2, 25, 0, 0, false), (25, .ifCond .ne 10, 28, 35, 0, false), (28, .aload_n 0, 29, 0, 0, false), (29, .getfield 58, 32, 0, 0, false), (32, .goto 29, 35, 61, 0, false), (35, .iload_n 2, 36, 0, 0, false), (36, .iconst 1, 37, 0, 1, false), (37, .if_icmp .ne 10, 40, 47, 0, false), (40, .aload_n 0, 41, 0, 0, false), (41, .getfield 61, 44, 0, 0, false), (44, .goto 17, 47, 61, 0, false), (47, .iload_n 2, 48, 0, 0, false), (48, .iconst 2, 49, 0, 2, false), (49, .if_icmp .ne 10, 52, 59, 0, false), (52, .aload_n 0, 53, 0, 0, false), (53, .getfield 64, 56, 0, 0, false), (56, .goto 5, 59, 61, 0, false), (59, .bipush (-2), 61, 0, (-2), false), (61, .ireturn, 62, 0, 0, false)]
theorem ok_M_triangle : k_M_triangle.all (m_ok b_M_triangle 3) = true := by decide +kernel
def y_M_support : MethodName := ⟨"DegreeCoresModel", "support", "(II)I"⟩
abbrev b_M_support : ByteArray := prog_3_method_21_code
def k_M_support : List (Nat × mE) := [(0, .aload_n 0, 1, 0, 0, false), (1, .iload_n 1, 2, 0, 0, false), (2, .iload_n 2, 3, 0, 0, false), (3, .invokevirtual 70, 6, 0, 0, false), (6, .ifCond .eq 22, 9, 28, 0, false), (9, .aload_n 0, 10, 0, 0, false), (10, .getfield 7, 13, 0, 0, false), (13, .iload_n 1, 14, 0, 0, false), (14, .iaload, 15, 0, 0, false), (15, .aload_n 0, 16, 0, 0, false), (16, .getfield 7, 19, 0, 0, false), (19, .iload_n 2, 20, 0, 0, false), (20, .iaload, 21, 0, 0, false), (21, .iand, 22, 0, 0, false), (22, .invokestatic 44, 25, 0, 0, false), (25, .goto 4, 28, 29, 0, false), (28, .iconst (-1), 29, 0, (-1), false), (29, .ireturn, 30, 0, 0, false)]
theorem ok_M_support : k_M_support.all (m_ok b_M_support 3) = true := by decide +kernel
def y_M_isEdge : MethodName := ⟨"DegreeCoresModel", "isEdge", "(II)Z"⟩
abbrev b_M_isEdge : ByteArray := prog_3_method_20_code
def k_M_isEdge : List (Nat × mE) := [(0, .aload_n 0, 1, 0, 0, false), (1, .iload_n 1, 2, 0, 0, false), (2, .iload_n 2, 3, 0, 0, false), (3, .invokevirtual 40, 6, 0, 0, false), (6, .ifCond .eq 16, 9, 22, 0, false), (9, .aload_n 0, 10, 0, 0, false), (10, .iload_n 1, 11, 0, 0, false), (11, .iload_n 2, 12, 0, 0, false), (12, .invokevirtual 55, 15, 0, 0, false), (15, .ifCond .eq 7, 18, 22, 0, false), (18, .iconst 1, 19, 0, 1, false), (19, .goto 4, 22, 23, 0, false), (22, .iconst 0, 23, 0, 0, false), (23, .ireturn, 24, 0, 0, false)]
theorem ok_M_isEdge : k_M_isEdge.all (m_ok b_M_isEdge 3) = true := by decide +kernel
def y_M_truss : MethodName := ⟨"DegreeCoresModel", "truss", "(II)I"⟩
abbrev b_M_truss : ByteArray := prog_3_method_23_code
def k_M_truss : List (Nat × mE) := [(0, .aload_n 0, 1, 0, 0, false), (1, .iload_n 1, 2, 0, 0, false), (2, .iload_n 2, 3, 0, 0, false), (3, .invokevirtual 70, 6, 0, 0, false), (6, .ifCond .ne 5, 9, 11, 0, false), (9, .iconst (-1), 10, 0, (-1), false), (10, .ireturn, 11, 0, 0, false), (11, .iconst 2, 12, 0, 2, false), (12, .istore_n 3, 13, 0, 0, false), (13, .iconst 1, 14, 0, 1, false), (14, .istore 4, 16, 0, 0, false), (16, .iload 4, 18, 0, 0, true), (18, .ifCond .eq 47, 21, 65, 0, false), (21, .aload_n 0, 22, 0, 0, false), (22, .iload_n 3, 23, 0, 0, false), (23, .iconst 1, 24, 0, 1, false), (24, .iadd, 25, 0, 0, false), (25, .invokevirtual 73, 28, 0, 0, false), (28, .aload_n 0, 29, 0, 0, false), (29, .getfield 26, 32, 0, 0, false), (32, .iload_n 1, 33, 0, 0, false), (33, .iaload, 34, 0, 0, false), (34, .iload_n 2, 35, 0, 0, false), (35, .ishr, 36, 0, 0, false), (36, .iconst 1, 37, 0, 1, false), (37, .iand, 38, 0, 0, false), (38, .iconst 1, 39, 0, 1, false), (39, .if_icmp .ne 7, 42, 46, 0, false), (42, .iconst 1, 43, 0, 1, false), (43, .goto 4, 46, 47, 0, false), (46, .iconst 0, 47, 0, 0, false), (47, .istore 4, 49, 0, 0, false), (49, .iload_n 3, 50, 0, 0, false), (50, .iload 4, 52, 0, 0, false), (52, .ifCond .eq 7, 55, 59, 0, false), (55, .iconst 1, 56, 0, 1, false), (56, .goto 4, 59, 60, 0, false), (59, .iconst 0, 60, 0, 0, false), (60, .iadd, 61, 0, 0, false), (61, .istore_n 3, 62, 0, 0, false), (62, .goto (-46), 65, 16, 0, false), (65, .iload_n 3, 66, 0, 0, false), (66, .ireturn, 67, 0, 0, false)]
theorem ok_M_truss : k_M_truss.all (m_ok b_M_truss 5) = true := by decide +kernel
def y_M_trussOf : MethodName := ⟨"DegreeCoresModel", "trussOf", "(I)V"⟩
abbrev b_M_trussOf : ByteArray := prog_3_method_22_code
def k_M_trussOf : List (Nat × mE) := [(0, .iconst 0, 1, 0, 0, false), (1, .istore_n 2, 2, 0, 0, false), (2, .iload_n 2, 3, 0, 0, true), (3, .aload_n 0, 4, 0, 0, false), (4, .getfield 32, 7, 0, 0, false), (7, .if_icmp .ge 21, 10, 28, 0, false), (10, .aload_n 0, 11, 0, 0, false), (11, .getfield 26, 14, 0, 0, false), (14, .iload_n 2, 15, 0, 0, false), (15, .aload_n 0, 16, 0, 0, false), (16, .getfield 7, 19, 0, 0, false), (19, .iload_n 2, 20, 0, 0, false), (20, .iaload, 21, 0, 0, false), (21, .iastore, 22, 0, 0, false), (22, .iinc 2 1, 25, 0, 1, false), (25, .goto (-23), 28, 2, 0, false), (28, .iconst 1, 29, 0, 1, false), (29, .istore_n 2, 30, 0, 0, false), (30, .iload_n 2, 31, 0, 0, true), (31, .ifCond .eq 112, 34, 143, 0, false), (34, .iconst 0, 35, 0, 0, false), (35, .istore_n 2, 36, 0, 0, false), (36, .iconst 0, 37, 0, 0, false), (37, .istore_n 3, 38, 0, 0, false), (38, .iload_n 3, 39, 0, 0, true), (39, .aload_n 0, 40, 0, 0, false), (40, .getfield 32, 43, 0, 0, false), (43, .if_icmp .ge 97, 46, 140, 0, false), (46, .iconst 0, 47, 0, 0, false), (47, .istore 4, 49, 0, 0, false), (49, .iload 4, 51, 0, 0, true), (51, .aload_n 0, 52, 0, 0, false), (52, .getfield 32, 55, 0, 0, false), (55, .if_icmp .ge 79, 58, 134, 0, false), (58, .aload_n 0, 59, 0, 0, false), (59, .getfield 26, 62, 0, 0, false), (62, .iload_n 3, 63, 0, 0, false), (63, .iaload, 64, 0, 0, false), (64, .iload 4, 66, 0, 0, false), (66, .ishr, 67, 0, 0, false), (67, .iconst 1, 68, 0, 1, false), (68, .iand, 69, 0, 0, false), (69, .iconst 1, 70, 0, 1, false), (70, .if_icmp .ne 58, 73, 128, 0, false), (73, .aload_n 0, 74, 0, 0, false), (74, .getfield 26, 77, 0, 0, false), (77, .iload_n 3, 78, 0, 0, false), (78, .iaload, 79, 0, 0, false), (79, .aload_n 0, 80, 0, 0, false), (80, .getfield 26, 83, 0, 0, false), (83, .iload 4, 85, 0, 0, false), (85, .iaload, 86, 0, 0, false), (86, .iand, 87, 0, 0, false), (87, .invokestatic 44, 90, 0, 0, false), (90, .iload_n 1, 91, 0, 0, false), (91, .iconst 2, 92, 0, 2, false), (92, .isub, 93, 0, 0, false), (93, .if_icmp .ge 35, 96, 128, 0, false), (96, .aload_n 0, 97, 0, 0, false), (97, .getfield 26, 100, 0, 0, false), (100, .iload_n 3, 101, 0, 0, false), (101, .dup2, 102, 0, 0, false), (102, .iaload, 103, 0, 0, false), (103, .iconst 1, 104, 0, 1, false), (104, .iload 4, 106, 0, 0, false), (106, .ishl, 107, 0, 0, false), (107, .iconst (-1), 108, 0, (-1), false), (108, .ixor, 109, 0, 0, false), (109, .iand, 110, 0, 0, false), (110, .iastore, 111, 0, 0, false), (111, .aload_n 0, 112, 0, 0, false), (112, .getfield 26, 115, 0, 0, false), (115, .iload 4, 117, 0, 0, false), (117, .dup2, 118, 0, 0, false), (118, .iaload, 119, 0, 0, false), (119, .iconst 1, 120, 0, 1, false), (120, .iload_n 3, 121, 0, 0, false), (121, .ishl, 122, 0, 0, false), (122, .iconst (-1), 123, 0, (-1), false), (123, .ixor, 124, 0, 0, false), (124, .iand, 125, 0, 0, false), (125, .iastore, 126, 0, 0, false), (126, .iconst 1, 127, 0, 1, false), (127, .istore_n 2, 128, 0, 0, false), (128, .iinc 4 1, 131, 0, 1, false), (131, .goto (-82), 134, 49, 0, false), (134, .iinc 3 1, 137, 0, 1, false), (137, .goto (-99), 140, 38, 0, false), (140, .goto (-110), 143, 30, 0, false), (143, .return_, 144, 0, 0, false)]
theorem ok_M_trussOf : k_M_trussOf.all (m_ok b_M_trussOf 5) = true := by decide +kernel
def y_M_cluster : MethodName := ⟨"DegreeCoresModel", "cluster", "(II)I"⟩
abbrev b_M_cluster : ByteArray := prog_3_method_26_code
def k_M_cluster : List (Nat × mE) := [(0, .aload_n 0, 1, 0, 0, false), (1, .iload_n 1, 2, 0, 0, false), (2, .invokevirtual 36, 5, 0, 0, false), (5, .ifCond .ne 5, 8, 10, 0, false), (8, .iconst (-1), 9, 0, (-1), false), (9, .ireturn, 10, 0, 0, false), (10, .iload_n 2, 11, 0, 0, false), (11, .invokestatic 77, 14, 0, 0, false), (14, .ifCond .ne 6, 17, 20, 0, false), (17, .bipush (-2), 19, 0, (-2), false), (19, .ireturn, 20, 0, 0, false), (20, .aload_n 0, 21, 0, 0, false), (21, .getfield 7, 24, 0, 0, false), (24, .iload_n 1, 25, 0, 0, false), (25, .iaload, 26, 0, 0, false), (26, .invokestatic 44, 29, 0, 0, false), (29, .istore_n 3, 30, 0, 0, false), (30, .iconst 0, 31, 0, 0, false), (31, .istore 4, 33, 0, 0, false), (33, .iconst 0, 34, 0, 0, false), (34, .istore 5, 36, 0, 0, false), (36, .iload 5, 38, 0, 0, true), (38, .aload_n 0, 39, 0, 0, false), (39, .getfield 32, 42, 0, 0, false), (42, .if_icmp .ge 45, 45, 87, 0, false), (45, .iload 4, 47, 0, 0, false), (47, .aload_n 0, 48, 0, 0, false), (48, .iload_n 1, 49, 0, 0, false), (49, .iload 5, 51, 0, 0, false), (51, .invokevirtual 55, 54, 0, 0, false), (54, .ifCond .eq 23, 57, 77, 0, false), (57, .aload_n 0, 58, 0, 0, false), (58, .getfield 7, 61, 0, 0, false), (61, .iload 5, 63, 0, 0, false), (63, .iaload, 64, 0, 0, false), (64, .aload_n 0, 65, 0, 0, false), (65, .getfield 7, 68, 0, 0, false), (68, .iload_n 1, 69, 0, 0, false), (69, .iaload, 70, 0, 0, false), (70, .iand, 71, 0, 0, false), (71, .invokestatic 44, 74, 0, 0, false), (74, .goto 4, 77, 78, 0, false), (77, .iconst 0, 78, 0, 0, false), (78, .iadd, 79, 0, 0, false), (79, .istore 4, 81, 0, 0, false), (81, .iinc 5 1, 84, 0, 1, false), (84, .goto (-48), 87, 36, 0, false), (87, .iload_n 3, 88, 0, 0, false), (88, .iconst 2, 89, 0, 2, false), (89, .if_icmp .ge 8, 92, 97, 0, false), (92, .bipush (-3), 94, 0, (-3), false), (94, .goto 18, 97, 112, 0, false), (97, .iload 4, 99, 0, 0, false), (99, .iconst 2, 100, 0, 2, false), (100, .idiv, 101, 0, 0, false), (101, .iload_n 3, 102, 0, 0, false), (102, .iload_n 3, 103, 0, 0, false), (103, .iconst 1, 104, 0, 1, false), (104, .isub, 105, 0, 0, false), (105, .imul, 106, 0, 0, false), (106, .iconst 2, 107, 0, 2, false), (107, .idiv, 108, 0, 0, false), (108, .iload_n 2, 109, 0, 0, false), (109, .invokestatic 80, 112, 0, 0, false), (112, .ireturn, 113, 0, 0, false)]
theorem ok_M_cluster : k_M_cluster.all (m_ok b_M_cluster 6) = true := by decide +kernel
def y_M_isPart : MethodName := ⟨"DegreeCoresModel", "isPart", "(I)Z"⟩
abbrev b_M_isPart : ByteArray := prog_3_method_25_code
def k_M_isPart : List (Nat × mE) := [(0, .iload_n 0, 1, 0, 0, false), (1, .ifCond .eq 8, 4, 9, 0, false), (4, .iload_n 0, 5, 0, 0, false), (5, .iconst 1, 6, 0, 1, false), (6, .if_icmp .ne 7, 9, 13, 0, false), (9, .iconst 1, 10, 0, 1, false), (10, .goto 4, 13, 14, 0, false), (13, .iconst 0, 14, 0, 0, false), (14, .ireturn, 15, 0, 0, false)]
theorem ok_M_isPart : k_M_isPart.all (m_ok b_M_isPart 1) = true := by decide +kernel
def y_M_part : MethodName := ⟨"DegreeCoresModel", "part", "(III)I"⟩
abbrev b_M_part : ByteArray := prog_3_method_24_code
def k_M_part : List (Nat × mE) := [(0, .iload_n 0, 1, 0, 0, false), (1, .ifCond .ge 8, 4, 9, 0, false), (4, .iload_n 0, 5, 0, 0, false), (5, .ineg, 6, 0, 0, false), (6, .goto 4, 9, 10, 0, false), (9, .iload_n 0, 10, 0, 0, false), (10, .istore_n 3, 11, 0, 0, false), (11, .iload_n 1, 12, 0, 0, false), (12, .ifCond .ge 8, 15, 20, 0, false), (15, .iload_n 1, 16, 0, 0, false), (16, .ineg, 17, 0, 0, false), (17, .goto 4, 20, 21, 0, false), (20, .iload_n 1, 21, 0, 0, false), (21, .istore 4, 23, 0, 0, false), (23, .iload 4, 25, 0, 0, true), (25, .ifCond .eq 19, 28, 44, 0, false), (28, .iload_n 3, 29, 0, 0, false), (29, .iload 4, 31, 0, 0, false), (31, .irem, 32, 0, 0, false), (32, .istore 5, 34, 0, 0, false), (34, .iload 4, 36, 0, 0, false), (36, .istore_n 3, 37, 0, 0, false), (37, .iload 5, 39, 0, 0, false), (39, .istore 4, 41, 0, 0, false), (41, .goto (-18), 44, 23, 0, false), (44, .iload_n 1, 45, 0, 0, false), (45, .ifCond .ge 7, 48, 52, 0, false), (48, .iconst (-1), 49, 0, (-1), false), (49, .goto 4, 52, 53, 0, false), (52, .iconst 1, 53, 0, 1, false), (53, .istore 5, 55, 0, 0, false), (55, .iload 5, 57, 0, 0, false), (57, .iload_n 2, 58, 0, 0, false), (58, .ifCond .ne 7, 61, 65, 0, false), (61, .iload_n 0, 62, 0, 0, false), (62, .goto 4, 65, 66, 0, false), (65, .iload_n 1, 66, 0, 0, false), (66, .imul, 67, 0, 0, false), (67, .iload_n 3, 68, 0, 0, false), (68, .idiv, 69, 0, 0, false), (69, .ireturn, 70, 0, 0, false)]
theorem ok_M_part : k_M_part.all (m_ok b_M_part 6) = true := by decide +kernel
def y_M_closed : MethodName := ⟨"DegreeCoresModel", "closed", "(I)I"⟩
abbrev b_M_closed : ByteArray := prog_3_method_27_code
def k_M_closed : List (Nat × mE) := [(0, .iload_n 1, 1, 0, 0, false), (1, .invokestatic 77, 4, 0, 0, false), (4, .ifCond .ne 6, 7, 10, 0, false), (7, .bipush (-2), 9, 0, (-2), false), (9, .ireturn, 10, 0, 0, false), (10, .iconst 0, 11, 0, 0, false), (11, .istore_n 2, 12, 0, 0, false), (12, .iconst 0, 13, 0, 0, false), (13, .istore_n 3, 14, 0, 0, false), (14, .iload_n 3, 15, 0, 0, true), (15, .aload_n 0, 16, 0, 0, false), (16, .getfield 32, 19, 0, 0, false), (19, .if_icmp .ge 32, 22, 51, 0, false), (22, .aload_n 0, 23, 0, 0, false), (23, .getfield 7, 26, 0, 0, false), (26, .iload_n 3, 27, 0, 0, false), (27, .iaload, 28, 0, 0, false), (28, .invokestatic 44, 31, 0, 0, false), (31, .istore 4, 33, 0, 0, false), (33, .iload_n 2, 34, 0, 0, false), (34, .iload 4, 36, 0, 0, false), (36, .iload 4, 38, 0, 0, false), (38, .iconst 1, 39, 0, 1, false), (39, .isub, 40, 0, 0, false), (40, .imul, 41, 0, 0, false), (41, .iconst 2, 42, 0, 2, false), (42, .idiv, 43, 0, 0, false), (43, .iadd, 44, 0, 0, false), (44, .istore_n 2, 45, 0, 0, false), (45, .iinc 3 1, 48, 0, 1, false), (48, .goto (-34), 51, 14, 0, false), (51, .iload_n 2, 52, 0, 0, false), (52, .ifCond .ne 8, 55, 60, 0, false), (55, .bipush (-3), 57, 0, (-3), false), (57, .goto 15, 60, 72, 0, false), (60, .iconst 3, 61, 0, 3, false), (61, .aload_n 0, 62, 0, 0, false), (62, .iconst (-1), 63, 0, (-1), false), (63, .invokevirtual 67, 66, 0, 0, false), (66, .imul, 67, 0, 0, false), (67, .iload_n 2, 68, 0, 0, false), (68, .iload_n 1, 69, 0, 0, false), (69, .invokestatic 80, 72, 0, 0, false), (72, .ireturn, 73, 0, 0, false)]
theorem ok_M_closed : k_M_closed.all (m_ok b_M_closed 5) = true := by decide +kernel
def y_M_densest : MethodName := ⟨"DegreeCoresModel", "densest", "()I"⟩
abbrev b_M_densest : ByteArray := prog_3_method_30_code
def k_M_densest : List (Nat × mE) := [(0, .aload_n 0, 1, 0, 0, false), (1, .getfield 32, 4, 0, 0, false), (4, .ifCond .ne 8, 7, 12, 0, false), (7, .bipush (-3), 9, 0, (-3), false), (9, .goto 7, 12, 16, 0, false), (12, .aload_n 0, 13, 0, 0, false), (13, .invokevirtual 87, 16, 0, 0, false), (16, .ireturn, 17, 0, 0, false)]
theorem ok_M_densest : k_M_densest.all (m_ok b_M_densest 1) = true := by decide +kernel
def y_M_densestOf : MethodName := ⟨"DegreeCoresModel", "densestOf", "()I"⟩
abbrev b_M_densestOf : ByteArray := prog_3_method_29_code
def k_M_densestOf : List (Nat × mE) := [(0, .iconst 1, 1, 0, 1, false), (1, .istore_n 1, 2, 0, 0, false), (2, .iconst 1, 3, 0, 1, false), (3, .istore_n 2, 4, 0, 0, false), (4, .iload_n 2, 5, 0, 0, true), (5, .aload_n 0, 6, 0, 0, false), (6, .invokevirtual 48, 9, 0, 0, false), (9, .if_icmp .gt 56, 12, 65, 0, false), (12, .aload_n 0, 13, 0, 0, false), (13, .iload_n 2, 14, 0, 0, false), (14, .invokevirtual 84, 17, 0, 0, false), (17, .iload_n 1, 18, 0, 0, false), (18, .invokestatic 44, 21, 0, 0, false), (21, .imul, 22, 0, 0, false), (22, .istore_n 3, 23, 0, 0, false), (23, .aload_n 0, 24, 0, 0, false), (24, .iload_n 1, 25, 0, 0, false), (25, .invokevirtual 84, 28, 0, 0, false), (28, .iload_n 2, 29, 0, 0, false), (29, .invokestatic 44, 32, 0, 0, false), (32, .imul, 33, 0, 0, false), (33, .istore 4, 35, 0, 0, false), (35, .iload_n 3, 36, 0, 0, false), (36, .iload 4, 38, 0, 0, false), (38, .if_icmp .le 7, 41, 45, 0, false), (41, .iload_n 2, 42, 0, 0, false), (42, .goto 16, 45, 58, 0, false), (45, .iload_n 3, 46, 0, 0, false), (46, .iload 4, 48, 0, 0, false), (48, .if_icmp .ne 9, 51, 57, 0, false), (51, .iload_n 1, 52, 0, 0, false), (52, .iload_n 2, 53, 0, 0, false), (53, .ior, 54, 0, 0, false), (54, .goto 4, 57, 58, 0, false), (57, .iload_n 1, 58, 0, 0, false), (58, .istore_n 1, 59, 0, 0, false), (59, .iinc 2 1, 62, 0, 1, false), (62, .goto (-58), 65, 4, 0, false), (65, .iload_n 1, 66, 0, 0, false), (66, .ireturn, 67, 0, 0, false)]
theorem ok_M_densestOf : k_M_densestOf.all (m_ok b_M_densestOf 5) = true := by decide +kernel
def y_M_edgesIn : MethodName := ⟨"DegreeCoresModel", "edgesIn", "(I)I"⟩
abbrev b_M_edgesIn : ByteArray := prog_3_method_28_code
def k_M_edgesIn : List (Nat × mE) := [(0, .iconst 0, 1, 0, 0, false), (1, .istore_n 2, 2, 0, 0, false), (2, .iconst 0, 3, 0, 0, false), (3, .istore_n 3, 4, 0, 0, false), (4, .iload_n 3, 5, 0, 0, true), (5, .aload_n 0, 6, 0, 0, false), (6, .getfield 32, 9, 0, 0, false), (9, .if_icmp .ge 36, 12, 45, 0, false), (12, .iload_n 2, 13, 0, 0, false), (13, .iload_n 1, 14, 0, 0, false), (14, .iload_n 3, 15, 0, 0, false), (15, .ishr, 16, 0, 0, false), (16, .iconst 1, 17, 0, 1, false), (17, .iand, 18, 0, 0, false), (18, .iconst 1, 19, 0, 1, false), (19, .if_icmp .ne 17, 22, 36, 0, false), (22, .aload_n 0, 23, 0, 0, false), (23, .getfield 7, 26, 0, 0, false), (26, .iload_n 3, 27, 0, 0, false), (27, .iaload, 28, 0, 0, false), (28, .iload_n 1, 29, 0, 0, false), (29, .iand, 30, 0, 0, false), (30, .invokestatic 44, 33, 0, 0, false), (33, .goto 4, 36, 37, 0, false), (36, .iconst 0, 37, 0, 0, false), (37, .iadd, 38, 0, 0, false), (38, .istore_n 2, 39, 0, 0, false), (39, .iinc 3 1, 42, 0, 1, false), (42, .goto (-38), 45, 4, 0, false), (45, .iload_n 2, 46, 0, 0, false), (46, .iconst 2, 47, 0, 2, false), (47, .idiv, 48, 0, 0, false), (48, .ireturn, 49, 0, 0, false)]
theorem ok_M_edgesIn : k_M_edgesIn.all (m_ok b_M_edgesIn 4) = true := by decide +kernel
def y_M_density : MethodName := ⟨"DegreeCoresModel", "density", "(I)I"⟩
abbrev b_M_density : ByteArray := prog_3_method_31_code
def k_M_density : List (Nat × mE) := [(0, .iload_n 1, 1, 0, 0, false), (1, .invokestatic 77, 4, 0, 0, false), (4, .ifCond .ne 6, 7, 10, 0, false), (7, .bipush (-2), 9, 0, (-2), false), (9, .ireturn, 10, 0, 0, false), (10, .aload_n 0, 11, 0, 0, false), (11, .getfield 32, 14, 0, 0, false), (14, .ifCond .ne 6, 17, 20, 0, false), (17, .bipush (-3), 19, 0, (-3), false), (19, .ireturn, 20, 0, 0, false), (20, .aload_n 0, 21, 0, 0, false), (21, .invokevirtual 87, 24, 0, 0, false), (24, .istore_n 2, 25, 0, 0, false), (25, .aload_n 0, 26, 0, 0, false), (26, .iload_n 2, 27, 0, 0, false), (27, .invokevirtual 84, 30, 0, 0, false), (30, .iload_n 2, 31, 0, 0, false), (31, .invokestatic 44, 34, 0, 0, false), (34, .iload_n 1, 35, 0, 0, false), (35, .invokestatic 80, 38, 0, 0, false), (38, .ireturn, 39, 0, 0, false)]
theorem ok_M_density : k_M_density.all (m_ok b_M_density 3) = true := by decide +kernel
def y_M_firm : MethodName := ⟨"DegreeCoresModel", "firm", "(II)I"⟩
abbrev b_M_firm : ByteArray := prog_3_method_34_code
def k_M_firm : List (Nat × mE) := [(0, .aload_n 0, 1, 0, 0, false), (1, .iload_n 1, 2, 0, 0, false), (2, .iload_n 2, 3, 0, 0, false), (3, .invokevirtual 40, 6, 0, 0, false), (6, .ifCond .eq 12, 9, 18, 0, false), (9, .aload_n 0, 10, 0, 0, false), (10, .iload_n 1, 11, 0, 0, false), (11, .iload_n 2, 12, 0, 0, false), (12, .invokevirtual 93, 15, 0, 0, false), (15, .goto 4, 18, 19, 0, false), (18, .iconst (-1), 19, 0, (-1), false), (19, .ireturn, 20, 0, 0, false)]
theorem ok_M_firm : k_M_firm.all (m_ok b_M_firm 3) = true := by decide +kernel
def y_M_firmOf : MethodName := ⟨"DegreeCoresModel", "firmOf", "(II)I"⟩
abbrev b_M_firmOf : ByteArray := prog_3_method_33_code
def k_M_firmOf : List (Nat × mE) := [(0, .aload_n 0, 1, 0, 0, false), (1, .invokevirtual 90, 4, 0, 0, false), (4, .sipush 1000, 7, 0, 1000, false), (7, .istore_n 3, 8, 0, 0, false), (8, .iconst 0, 9, 0, 0, false), (9, .istore 4, 11, 0, 0, false), (11, .iload 4, 13, 0, 0, true), (13, .aload_n 0, 14, 0, 0, false), (14, .invokevirtual 48, 17, 0, 0, false), (17, .if_icmp .gt 47, 20, 64, 0, false), (20, .iload 4, 22, 0, 0, false), (22, .iload_n 1, 23, 0, 0, false), (23, .ishr, 24, 0, 0, false), (24, .iconst 1, 25, 0, 1, false), (25, .iand, 26, 0, 0, false), (26, .iconst 1, 27, 0, 1, false), (27, .if_icmp .ne 31, 30, 58, 0, false), (30, .iload 4, 32, 0, 0, false), (32, .iload_n 2, 33, 0, 0, false), (33, .ishr, 34, 0, 0, false), (34, .iconst 1, 35, 0, 1, false), (35, .iand, 36, 0, 0, false), (36, .ifCond .ne 22, 39, 58, 0, false), (39, .aload_n 0, 40, 0, 0, false), (40, .getfield 13, 43, 0, 0, false), (43, .iload 4, 45, 0, 0, false), (45, .iaload, 46, 0, 0, false), (46, .iload_n 3, 47, 0, 0, false), (47, .if_icmp .ge 11, 50, 58, 0, false), (50, .aload_n 0, 51, 0, 0, false), (51, .getfield 13, 54, 0, 0, false), (54, .iload 4, 56, 0, 0, false), (56, .iaload, 57, 0, 0, false), (57, .istore_n 3, 58, 0, 0, false), (58, .iinc 4 1, 61, 0, 1, false), (61, .goto (-50), 64, 11, 0, false), (64, .iload_n 3, 65, 0, 0, false), (65, .ireturn, 66, 0, 0, false)]
theorem ok_M_firmOf : k_M_firmOf.all (m_ok b_M_firmOf 5) = true := by decide +kernel
def y_M_makeCuts : MethodName := ⟨"DegreeCoresModel", "makeCuts", "()V"⟩
abbrev b_M_makeCuts : ByteArray := prog_3_method_32_code
def k_M_makeCuts : List (Nat × mE) := [(0, .aload_n 0, 1, 0, 0, false), (1, .getfield 16, 4, 0, 0, false), (4, .ifCond .ne 4, 7, 8, 0, false), (7, .return_, 8, 0, 0, false), (8, .aload_n 0, 9, 0, 0, false), (9, .iconst 0, 10, 0, 0, false), (10, .putfield 16, 13, 0, 0, false), (13, .iconst 0, 14, 0, 0, false), (14, .istore_n 1, 15, 0, 0, false), (15, .iload_n 1, 16, 0, 0, true), (16, .aload_n 0, 17, 0, 0, false), (17, .invokevirtual 48, 20, 0, 0, false), (20, .if_icmp .gt 67, 23, 87, 0, false), (23, .aload_n 0, 24, 0, 0, false), (24, .getfield 13, 27, 0, 0, false), (27, .iload_n 1, 28, 0, 0, false), (28, .iconst 0, 29, 0, 0, false), (29, .iastore, 30, 0, 0, false), (30, .iconst 0, 31, 0, 0, false), (31, .istore_n 2, 32, 0, 0, false), (32, .iload_n 2, 33, 0, 0, true), (33, .aload_n 0, 34, 0, 0, false), (34, .getfield 32, 37, 0, 0, false), (37, .if_icmp .ge 44, 40, 81, 0, false), (40, .aload_n 0, 41, 0, 0, false), (41, .getfield 13, 44, 0, 0, false), (44, .iload_n 1, 45, 0, 0, false), (45, .dup2, 46, 0, 0, false), (46, .iaload, 47, 0, 0, false), (47, .iload_n 1, 48, 0, 0, false), (48, .iload_n 2, 49, 0, 0, false), (49, .ishr, 50, 0, 0, false), (50, .iconst 1, 51, 0, 1, false), (51, .iand, 52, 0, 0, false), (52, .iconst 1, 53, 0, 1, false), (53, .if_icmp .ne 19, 56, 72, 0, false), (56, .aload_n 0, 57, 0, 0, false), (57, .getfield 7, 60, 0, 0, false), (60, .iload_n 2, 61, 0, 0, false), (61, .iaload, 62, 0, 0, false), (62, .iload_n 1, 63, 0, 0, false), (63, .iconst (-1), 64, 0, (-1), false), (64, .ixor, 65, 0, 0, false), (65, .iand, 66, 0, 0, false), (66, .invokestatic 44, 69, 0, 0, false), (69, .goto 4, 72, 73, 0, false), (72, .iconst 0, 73, 0, 0, false), (73, .iadd, 74, 0, 0, false), (74, .iastore, 75, 0, 0, false), (75, .iinc 2 1, 78, 0, 1, false), (78, .goto (-46), 81, 32, 0, false), (81, .iinc 1 1, 84, 0, 1, false), (84, .goto (-69), 87, 15, 0, false), (87, .return_, 88, 0, 0, false)]
theorem ok_M_makeCuts : k_M_makeCuts.all (m_ok b_M_makeCuts 3) = true := by decide +kernel
def y_M_classOf : MethodName := ⟨"DegreeCoresModel", "classOf", "(II)I"⟩
abbrev b_M_classOf : ByteArray := prog_3_method_35_code
def k_M_classOf : List (Nat × mE) := [(0, .aload_n 0, 1, 0, 0, false), (1, .iload_n 1, 2, 0, 0, false), (2, .invokevirtual 36, 5, 0, 0, false), (5, .ifCond .ne 5, 8, 10, 0, false), (8, .iconst (-1), 9, 0, (-1), false), (9, .ireturn, 10, 0, 0, false), (10, .iload_n 2, 11, 0, 0, false), (11, .ifCond .ge 6, 14, 17, 0, false), (14, .bipush (-2), 16, 0, (-2), false), (16, .ireturn, 17, 0, 0, false), (17, .iconst 0, 18, 0, 0, false), (18, .istore_n 3, 19, 0, 0, false), (19, .iload_n 3, 20, 0, 0, true), (20, .iload_n 1, 21, 0, 0, false), (21, .if_icmp .eq 19, 24, 40, 0, false), (24, .aload_n 0, 25, 0, 0, false), (25, .iload_n 3, 26, 0, 0, false), (26, .iload_n 1, 27, 0, 0, false), (27, .invokevirtual 93, 30, 0, 0, false), (30, .iload_n 2, 31, 0, 0, false), (31, .if_icmp .ge 9, 34, 40, 0, false), (34, .iinc 3 1, 37, 0, 1, false), (37, .goto (-18), 40, 19, 0, false), (40, .iload_n 3, 41, 0, 0, false), (41, .ireturn, 42, 0, 0, false)]
theorem ok_M_classOf : k_M_classOf.all (m_ok b_M_classOf 4) = true := by decide +kernel
def y_M_likeness : MethodName := ⟨"DegreeCoresModel", "likeness", "(I)I"⟩
abbrev b_M_likeness : ByteArray := prog_3_method_36_code
def k_M_likeness : List (Nat × mE) := [(0, .iload_n 1, 1, 0, 0, false), (1, .invokestatic 77, 4, 0, 0, false), (4, .ifCond .ne 6, 7, 10, 0, false), (7, .bipush (-2), 9, 0, (-2), false), (9, .ireturn, 10, 0, 0, false), (10, .iconst 0, 11, 0, 0, false), (11, .istore_n 2, 12, 0, 0, false), (12, .iconst 0, 13, 0, 0, false), (13, .istore_n 3, 14, 0, 0, false), (14, .iconst 0, 15, 0, 0, false), (15, .istore 4, 17, 0, 0, false), (17, .iconst 0, 18, 0, 0, false), (18, .istore 5, 20, 0, 0, false), (20, .iconst 0, 21, 0, 0, false), (21, .istore 6, 23, 0, 0, false), (23, .iload 6, 25, 0, 0, true), (25, .aload_n 0, 26, 0, 0, false), (26, .getfield 32, 29, 0, 0, false), (29, .if_icmp .ge 102, 32, 131, 0, false), (32, .iload 6, 34, 0, 0, false), (34, .iconst 1, 35, 0, 1, false), (35, .iadd, 36, 0, 0, false), (36, .istore 7, 38, 0, 0, false), (38, .iload 7, 40, 0, 0, true), (40, .aload_n 0, 41, 0, 0, false), (41, .getfield 32, 44, 0, 0, false), (44, .if_icmp .ge 81, 47, 125, 0, false), (47, .aload_n 0, 48, 0, 0, false), (48, .iload 6, 50, 0, 0, false), (50, .iload 7, 52, 0, 0, false), (52, .invokevirtual 55, 55, 0, 0, false), (55, .ifCond .eq 64, 58, 119, 0, false), (58, .aload_n 0, 59, 0, 0, false), (59, .getfield 7, 62, 0, 0, false), (62, .iload 6, 64, 0, 0, false), (64, .iaload, 65, 0, 0, false), (65, .invokestatic 44, 68, 0, 0, false), (68, .istore 8, 70, 0, 0, false), (70, .aload_n 0, 71, 0, 0, false), (71, .getfield 7, 74, 0, 0, false), (74, .iload 7, 76, 0, 0, false), (76, .iaload, 77, 0, 0, false), (77, .invokestatic 44, 80, 0, 0, false), (80, .istore 9, 82, 0, 0, false), (82, .iinc 2 1, 85, 0, 1, false), (85, .iload_n 3, 86, 0, 0, false), (86, .iload 8, 88, 0, 0, false), (88, .iload 9, 90, 0, 0, false), (90, .imul, 91, 0, 0, false), (91, .iadd, 92, 0, 0, false), (92, .istore_n 3, 93, 0, 0, false), (93, .iload 4, 95, 0, 0, false), (95, .iload 8, 97, 0, 0, false), (97, .iload 9, 99, 0, 0, false), (99, .iadd, 100, 0, 0, false), (100, .iadd, 101, 0, 0, false), (101, .istore 4, 103, 0, 0, false), (103, .iload 5, 105, 0, 0, false), (105, .iload 8, 107, 0, 0, false), (107, .iload 8, 109, 0, 0, false), (109, .imul, 110, 0, 0, false), (110, .iload 9, 112, 0, 0, false), (112, .iload 9, 114, 0, 0, false), (114, .imul, 115, 0, 0, false), (115, .iadd, 116, 0, 0, false), (116, .iadd, 117, 0, 0, false), (117, .istore 5, 119, 0, 0, false), (119, .iinc 7 1, 122, 0, 1, false), (122, .goto (-84), 125, 38, 0, false), (125, .iinc 6 1, 128, 0, 1, false), (128, .goto (-105), 131, 23, 0, false), (131, .iconst 2, 132, 0, 2, false), (132, .iload_n 2, 133, 0, 0, false), (133, .imul, 134, 0, 0, false), (134, .iload 5, 136, 0, 0, false), (136, .imul, 137, 0, 0, false), (137, .iload 4, 139, 0, 0, false), (139, .iload 4, 141, 0, 0, false), (141, .imul, 142, 0, 0, false), (142, .isub, 143, 0, 0, false), (143, .istore 6, 145, 0, 0, false), (145, .iload 6, 147, 0, 0, false), (147, .ifCond .ne 8, 150, 155, 0, false), (150, .bipush (-3), 152, 0, (-3), false), (152, .goto 20, 155, 172, 0, false), (155, .iconst 4, 156, 0, 4, false), (156, .iload_n 2, 157, 0, 0, false), (157, .imul, 158, 0, 0, false), (158, .iload_n 3, 159, 0, 0, false), (159, .imul, 160, 0, 0, false), (160, .iload 4, 162, 0, 0, false), (162, .iload 4, 164, 0, 0, false), (164, .imul, 165, 0, 0, false), (165, .isub, 166, 0, 0, false), (166, .iload 6, 168, 0, 0, false), (168, .iload_n 1, 169, 0, 0, false), (169, .invokestatic 80, 172, 0, 0, false), (172, .ireturn, 173, 0, 0, false)]
theorem ok_M_likeness : k_M_likeness.all (m_ok b_M_likeness 10) = true := by decide +kernel
def y_M_rich : MethodName := ⟨"DegreeCoresModel", "rich", "(II)I"⟩
abbrev b_M_rich : ByteArray := prog_3_method_37_code
def k_M_rich : List (Nat × mE) := [(0, .iload_n 2, 1, 0, 0, false), (1, .invokestatic 77, 4, 0, 0, false), (4, .ifCond .eq 7, 7, 11, 0, false), (7, .iload_n 1, 8, 0, 0, false), (8, .ifCond .ge 6, 11, 14, 0, false), (11, .bipush (-2), 13, 0, (-2), false), (13, .ireturn, 14, 0, 0, false), (14, .iconst 0, 15, 0, 0, false), (15, .istore_n 3, 16, 0, 0, false), (16, .iconst 0, 17, 0, 0, false), (17, .istore 4, 19, 0, 0, false), (19, .iload 4, 21, 0, 0, true), (21, .aload_n 0, 22, 0, 0, false), (22, .getfield 32, 25, 0, 0, false), (25, .if_icmp .ge 34, 28, 59, 0, false), (28, .iload_n 3, 29, 0, 0, false), (29, .aload_n 0, 30, 0, 0, false), (30, .getfield 7, 33, 0, 0, false), (33, .iload 4, 35, 0, 0, false), (35, .iaload, 36, 0, 0, false), (36, .invokestatic 44, 39, 0, 0, false), (39, .iload_n 1, 40, 0, 0, false), (40, .if_icmp .le 10, 43, 50, 0, false), (43, .iconst 1, 44, 0, 1, false), (44, .iload 4, 46, 0, 0, false), (46, .ishl, 47, 0, 0, false), (47, .goto 4, 50, 51, 0, false), (50, .iconst 0, 51, 0, 0, false), (51, .ior, 52, 0, 0, false), (52, .istore_n 3, 53, 0, 0, false), (53, .iinc 4 1, 56, 0, 1, false), (56, .goto (-37), 59, 19, 0, false), (59, .iload_n 3, 60, 0, 0, false), (60, .invokestatic 44, 63, 0, 0, false), (63, .istore 4, 65, 0, 0, false), (65, .iload 4, 67, 0, 0, false), (67, .iconst 2, 68, 0, 2, false), (68, .if_icmp .ge 8, 71, 76, 0, false), (71, .bipush (-3), 73, 0, (-3), false), (73, .goto 21, 76, 94, 0, false), (76, .aload_n 0, 77, 0, 0, false), (77, .iload_n 3, 78, 0, 0, false), (78, .invokevirtual 84, 81, 0, 0, false), (81, .iload 4, 83, 0, 0, false), (83, .iload 4, 85, 0, 0, false), (85, .iconst 1, 86, 0, 1, false), (86, .isub, 87, 0, 0, false), (87, .imul, 88, 0, 0, false), (88, .iconst 2, 89, 0, 2, false), (89, .idiv, 90, 0, 0, false), (90, .iload_n 2, 91, 0, 0, false), (91, .invokestatic 80, 94, 0, 0, false), (94, .ireturn, 95, 0, 0, false)]
theorem ok_M_rich : k_M_rich.all (m_ok b_M_rich 5) = true := by decide +kernel
def y_M_want : MethodName := ⟨"DegreeCoresModel", "want", "(I)I"⟩
abbrev b_M_want : ByteArray := prog_3_method_38_code
def k_M_want : List (Nat × mE) := [(0, .iload_n 1, 1, 0, 0, false), (1, .ifCond .lt 9, 4, 10, 0, false), (4, .iload_n 1, 5, 0, 0, false), (5, .bipush 20, 7, 0, 20, false), (7, .if_icmp .le 6, 10, 13, 0, false), (10, .bipush (-2), 12, 0, (-2), false), (12, .ireturn, 13, 0, 0, false), (13, .aload_n 0, 14, 0, 0, false), (14, .getfield 97, 17, 0, 0, false), (17, .bipush 12, 19, 0, 12, false), (19, .if_icmp .ne 6, 22, 25, 0, false), (22, .bipush (-4), 24, 0, (-4), false), (24, .ireturn, 25, 0, 0, false), (25, .aload_n 0, 26, 0, 0, false), (26, .getfield 20, 29, 0, 0, false), (29, .aload_n 0, 30, 0, 0, false), (30, .getfield 97, 33, 0, 0, false), (33, .iload_n 1, 34, 0, 0, false), (34, .iastore, 35, 0, 0, false), (35, .aload_n 0, 36, 0, 0, false), (36, .dup, 37, 0, 0, false), (37, .getfield 97, 40, 0, 0, false), (40, .iconst 1, 41, 0, 1, false), (41, .iadd, 42, 0, 0, false), (42, .putfield 97, 45, 0, 0, false), (45, .aload_n 0, 46, 0, 0, false), (46, .getfield 97, 49, 0, 0, false), (49, .ireturn, 50, 0, 0, false)]
theorem ok_M_want : k_M_want.all (m_ok b_M_want 2) = true := by decide +kernel
def y_M_unwant : MethodName := ⟨"DegreeCoresModel", "unwant", "()I"⟩
abbrev b_M_unwant : ByteArray := prog_3_method_39_code
def k_M_unwant : List (Nat × mE) := [(0, .aload_n 0, 1, 0, 0, false), (1, .getfield 97, 4, 0, 0, false), (4, .istore_n 1, 5, 0, 0, false), (5, .aload_n 0, 6, 0, 0, false), (6, .iconst 0, 7, 0, 0, false), (7, .putfield 97, 10, 0, 0, false), (10, .iload_n 1, 11, 0, 0, false), (11, .ireturn, 12, 0, 0, false)]
theorem ok_M_unwant : k_M_unwant.all (m_ok b_M_unwant 2) = true := by decide +kernel
def y_M_graphic : MethodName := ⟨"DegreeCoresModel", "graphic", "()I"⟩
abbrev b_M_graphic : ByteArray := prog_3_method_42_code
def k_M_graphic : List (Nat × mE) := [(0, .aload_n 0, 1, 0, 0, false), (1, .invokevirtual 106, 4, 0, 0, false), (4, .ifCond .eq 7, 7, 11, 0, false), (7, .iconst 1, 8, 0, 1, false), (8, .goto 4, 11, 12, 0, false), (11, .iconst 0, 12, 0, 0, false), (12, .ireturn, 13, 0, 0, false)]
theorem ok_M_graphic : k_M_graphic.all (m_ok b_M_graphic 1) = true := by decide +kernel
def y_M_tries : MethodName := ⟨"DegreeCoresModel", "tries", "()Z"⟩
abbrev b_M_tries : ByteArray := prog_3_method_40_code
def k_M_tries : List (Nat × mE) := [(0, .aload_n 0, 1, 0, 0, false), (1, .iconst 0, 2, 0, 0, false), (2, .putfield 100, 5, 0, 0, false), (5, .iconst 0, 6, 0, 0, false), (6, .istore_n 1, 7, 0, 0, false), (7, .iload_n 1, 8, 0, 0, true), (8, .bipush 12, 10, 0, 12, false), (10, .if_icmp .ge 40, 13, 50, 0, false), (13, .aload_n 0, 14, 0, 0, false), (14, .getfield 29, 17, 0, 0, false), (17, .iload_n 1, 18, 0, 0, false), (18, .iconst 0, 19, 0, 0, false), (19, .iastore, 20, 0, 0, false), (20, .aload_n 0, 21, 0, 0, false), (21, .getfield 23, 24, 0, 0, false), (24, .iload_n 1, 25, 0, 0, false), (25, .iload_n 1, 26, 0, 0, false), (26, .aload_n 0, 27, 0, 0, false), (27, .getfield 97, 30, 0, 0, false), (30, .if_icmp .ge 12, 33, 42, 0, false), (33, .aload_n 0, 34, 0, 0, false), (34, .getfield 20, 37, 0, 0, false), (37, .iload_n 1, 38, 0, 0, false), (38, .iaload, 39, 0, 0, false), (39, .goto 4, 42, 43, 0, false), (42, .iconst 0, 43, 0, 0, false), (43, .iastore, 44, 0, 0, false), (44, .iinc 1 1, 47, 0, 1, false), (47, .goto (-40), 50, 7, 0, false), (50, .iconst 1, 51, 0, 1, false), (51, .istore_n 1, 52, 0, 0, false), (52, .iload_n 1, 53, 0, 0, true), (53, .ifCond .eq 129, 56, 182, 0, false), (56, .aload_n 0, 57, 0, 0, false), (57, .iconst 0, 58, 0, 0, false), (58, .invokevirtual 103, 61, 0, 0, false), (61, .istore_n 2, 62, 0, 0, false), (62, .iload_n 2, 63, 0, 0, false), (63, .ifCond .lt 7, 66, 70, 0, false), (66, .iconst 1, 67, 0, 1, false), (67, .goto 4, 70, 71, 0, false), (70, .iconst 0, 71, 0, 0, false), (71, .istore_n 1, 72, 0, 0, false), (72, .iload_n 1, 73, 0, 0, false), (73, .ifCond .eq 106, 76, 179, 0, false), (76, .iconst 1, 77, 0, 1, false), (77, .iload_n 2, 78, 0, 0, false), (78, .ishl, 79, 0, 0, false), (79, .istore_n 3, 80, 0, 0, false), (80, .aload_n 0, 81, 0, 0, false), (81, .getfield 23, 84, 0, 0, false), (84, .iload_n 2, 85, 0, 0, false), (85, .iaload, 86, 0, 0, false), (86, .istore 4, 88, 0, 0, false), (88, .aload_n 0, 89, 0, 0, false), (89, .getfield 23, 92, 0, 0, false), (92, .iload_n 2, 93, 0, 0, false), (93, .iconst 0, 94, 0, 0, false), (94, .iastore, 95, 0, 0, false), (95, .iconst 0, 96, 0, 0, false), (96, .istore 5, 98, 0, 0, false), (98, .iload 5, 100, 0, 0, true), (100, .iload 4, 102, 0, 0, false), (102, .if_icmp .ge 77, 105, 179, 0, false), (105, .aload_n 0, 106, 0, 0, false), (106, .iload_n 3, 107, 0, 0, false), (107, .invokevirtual 103, 110, 0, 0, false), (110, .istore 6, 112, 0, 0, false), (112, .iload 6, 114, 0, 0, false), (114, .ifCond .ge 5, 117, 119, 0, false), (117, .iconst 0, 118, 0, 0, false), (118, .ireturn, 119, 0, 0, false), (119, .iload_n 3, 120, 0, 0, false), (120, .iconst 1, 121, 0, 1, false), (121, .iload 6, 123, 0, 0, false), (123, .ishl, 124, 0, 0, false), (124, .ior, 125, 0, 0, false), (125, .istore_n 3, 126, 0, 0, false), (126, .aload_n 0, 127, 0, 0, false), (127, .getfield 23, 130, 0, 0, false), (130, .iload 6, 132, 0, 0, false), (132, .dup2, 133, 0, 0, false), (133, .iaload, 134, 0, 0, false), (134, .iconst 1, 135, 0, 1, false), (135, .isub, 136, 0, 0, false), (136, .iastore, 137, 0, 0, false), (137, .aload_n 0, 138, 0, 0, false), (138, .getfield 29, 141, 0, 0, false), (141, .iload_n 2, 142, 0, 0, false), (142, .dup2, 143, 0, 0, false), (143, .iaload, 144, 0, 0, false), (144, .iconst 1, 145, 0, 1, false), (145, .iload 6, 147, 0, 0, false), (147, .ishl, 148, 0, 0, false), (148, .ior, 149, 0, 0, false), (149, .iastore, 150, 0, 0, false), (150, .aload_n 0, 151, 0, 0, false), (151, .getfield 29, 154, 0, 0, false), (154, .iload 6, 156, 0, 0, false), (156, .dup2, 157, 0, 0, false), (157, .iaload, 158, 0, 0, false), (158, .iconst 1, 159, 0, 1, false), (159, .iload_n 2, 160, 0, 0, false), (160, .ishl, 161, 0, 0, false), (161, .ior, 162, 0, 0, false), (162, .iastore, 163, 0, 0, false), (163, .aload_n 0, 164, 0, 0, false), (164, .dup, 165, 0, 0, false), (165, .getfield 100, 168, 0, 0, false), (168, .iconst 1, 169, 0, 1, false), (169, .iadd, 170, 0, 0, false), (170, .putfield 100, 173, 0, 0, false), (173, .iinc 5 1, 176, 0, 1, false), (176, .goto (-78), 179, 98, 0, false), (179, .goto (-127), 182, 52, 0, false), (182, .iconst 1, 183, 0, 1, false), (183, .ireturn, 184, 0, 0, false)]
theorem ok_M_tries : k_M_tries.all (m_ok b_M_tries 7) = true := by decide +kernel
def y_M_most : MethodName := ⟨"DegreeCoresModel", "most", "(I)I"⟩
abbrev b_M_most : ByteArray := prog_3_method_41_code
def k_M_most : List (Nat × mE) := [(0, .iconst (-1), 1, 0, (-1), false), (1, .istore_n 2, 2, 0, 0, false), (2, .iconst 0, 3, 0, 0, false), (3, .istore_n 3, 4, 0, 0, false), (4, .iload_n 3, 5, 0, 0, true), (5, .aload_n 0, 6, 0, 0, false), (6, .getfield 97, 9, 0, 0, false), (9, .if_icmp .ge 47, 12, 56, 0, false), (12, .iload_n 1, 13, 0, 0, false), (13, .iload_n 3, 14, 0, 0, false), (14, .ishr, 15, 0, 0, false), (15, .iconst 1, 16, 0, 1, false), (16, .iand, 17, 0, 0, false), (17, .ifCond .ne 33, 20, 50, 0, false), (20, .aload_n 0, 21, 0, 0, false), (21, .getfield 23, 24, 0, 0, false), (24, .iload_n 3, 25, 0, 0, false), (25, .iaload, 26, 0, 0, false), (26, .ifCond .le 24, 29, 50, 0, false), (29, .iload_n 2, 30, 0, 0, false), (30, .ifCond .lt 18, 33, 48, 0, false), (33, .aload_n 0, 34, 0, 0, false), (34, .getfield 23, 37, 0, 0, false), (37, .iload_n 3, 38, 0, 0, false), (38, .iaload, 39, 0, 0, false), (39, .aload_n 0, 40, 0, 0, false), (40, .getfield 23, 43, 0, 0, false), (43, .iload_n 2, 44, 0, 0, false), (44, .iaload, 45, 0, 0, false), (45, .if_icmp .le 5, 48, 50, 0, false), (48, .iload_n 3, 49, 0, 0, false), (49, .istore_n 2, 50, 0, 0, false), (50, .iinc 3 1, 53, 0, 1, false), (53, .goto (-49), 56, 4, 0, false), (56, .iload_n 2, 57, 0, 0, false), (57, .ireturn, 58, 0, 0, false)]
theorem ok_M_most : k_M_most.all (m_ok b_M_most 4) = true := by decide +kernel
def y_M_make : MethodName := ⟨"DegreeCoresModel", "make", "()I"⟩
abbrev b_M_make : ByteArray := prog_3_method_43_code
def k_M_make : List (Nat × mE) := [(0, .aload_n 0, 1, 0, 0, false), (1, .invokevirtual 106, 4, 0, 0, false), (4, .ifCond .ne 6, 7, 10, 0, false), (7, .bipush (-3), 9, 0, (-3), false), (9, .ireturn, 10, 0, 0, false), (10, .aload_n 0, 11, 0, 0, false), (11, .aload_n 0, 12, 0, 0, false), (12, .getfield 97, 15, 0, 0, false), (15, .putfield 32, 18, 0, 0, false), (18, .iconst 0, 19, 0, 0, false), (19, .istore_n 1, 20, 0, 0, false), (20, .iload_n 1, 21, 0, 0, true), (21, .aload_n 0, 22, 0, 0, false), (22, .getfield 32, 25, 0, 0, false), (25, .if_icmp .ge 21, 28, 46, 0, false), (28, .aload_n 0, 29, 0, 0, false), (29, .getfield 7, 32, 0, 0, false), (32, .iload_n 1, 33, 0, 0, false), (33, .aload_n 0, 34, 0, 0, false), (34, .getfield 29, 37, 0, 0, false), (37, .iload_n 1, 38, 0, 0, false), (38, .iaload, 39, 0, 0, false), (39, .iastore, 40, 0, 0, false), (40, .iinc 1 1, 43, 0, 1, false), (43, .goto (-23), 46, 20, 0, false), (46, .aload_n 0, 47, 0, 0, false), (47, .iconst 1, 48, 0, 1, false), (48, .putfield 16, 51, 0, 0, false), (51, .aload_n 0, 52, 0, 0, false), (52, .getfield 100, 55, 0, 0, false), (55, .ireturn, 56, 0, 0, false)]
theorem ok_M_make : k_M_make.all (m_ok b_M_make 2) = true := by decide +kernel
end
section
/-! the words of each call (by wip/whole/gen_names.py) -/
theorem w_C32 : ∀ w ∈ ([.methodLink "DegreeCores" 32 y_C_areTwoNodes, .instanceMethod y_C_areTwoNodes, .selects R_C y_C_areTwoNodes y_C_areTwoNodes, .initialized R_C, Cond.code y_C_areTwoNodes b_C_areTwoNodes 3 (some .boolean)] : List Cond), w ∈ TB := by decide +kernel
theorem w_C36 : ∀ w ∈ ([.methodLink "DegreeCores" 36 y_C_has, .static y_C_has, .initialized y_C_has.cls, Cond.code y_C_has b_C_has 2 (some .boolean)] : List Cond), w ∈ TB := by decide +kernel
theorem w_C39 : ∀ w ∈ ([.methodLink "DegreeCores" 39 y_C_isNode, .instanceMethod y_C_isNode, .selects R_C y_C_isNode y_C_isNode, .initialized R_C, Cond.code y_C_isNode b_C_isNode 2 (some .boolean)] : List Cond), w ∈ TB := by decide +kernel
theorem w_C43 : ∀ w ∈ ([.methodLink "DegreeCores" 43 y_J_bitCount, .static y_J_bitCount, .initialized y_J_bitCount.cls, Cond.code y_J_bitCount b_J_bitCount 1 (some .int)] : List Cond), w ∈ TB := by decide +kernel
theorem w_C49 : ∀ w ∈ ([.methodLink "DegreeCores" 49 y_C_degreeWithin, .instanceMethod y_C_degreeWithin, .selects R_C y_C_degreeWithin y_C_degreeWithin, .initialized R_C, Cond.code y_C_degreeWithin b_C_degreeWithin 3 (some .int)] : List Cond), w ∈ TB := by decide +kernel
theorem w_C53 : ∀ w ∈ ([.methodLink "DegreeCores" 53 y_C_coreBits, .instanceMethod y_C_coreBits, .selects R_C y_C_coreBits y_C_coreBits, .initialized R_C, Cond.code y_C_coreBits b_C_coreBits 4 (some .int)] : List Cond), w ∈ TB := by decide +kernel
theorem w_C56 : ∀ w ∈ ([.methodLink "DegreeCores" 56 y_C_allNodes, .instanceMethod y_C_allNodes, .selects R_C y_C_allNodes y_C_allNodes, .initialized R_C, Cond.code y_C_allNodes b_C_allNodes 1 (some .int)] : List Cond), w ∈ TB := by decide +kernel
theorem w_C60 : ∀ w ∈ ([.methodLink "DegreeCores" 60 y_C_leastDegreeWithin, .instanceMethod y_C_leastDegreeWithin, .selects R_C y_C_leastDegreeWithin y_C_leastDegreeWithin, .initialized R_C, Cond.code y_C_leastDegreeWithin b_C_leastDegreeWithin 4 (some .int)] : List Cond), w ∈ TB := by decide +kernel
theorem w_C63 : ∀ w ∈ ([.methodLink "DegreeCores" 63 y_C_looseIn, .instanceMethod y_C_looseIn, .selects R_C y_C_looseIn y_C_looseIn, .initialized R_C, Cond.code y_C_looseIn b_C_looseIn 5 (some .int)] : List Cond), w ∈ TB := by decide +kernel
theorem w_C66 : ∀ w ∈ ([.methodLink "DegreeCores" 66 y_C_leastOf, .static y_C_leastOf, .initialized y_C_leastOf.cls, Cond.code y_C_leastOf b_C_leastOf 1 (some .int)] : List Cond), w ∈ TB := by decide +kernel
theorem w_C69 : ∀ w ∈ ([.methodLink "DegreeCores" 69 y_J_max, .static y_J_max, .initialized y_J_max.cls, Cond.code y_J_max b_J_max 2 (some .int)] : List Cond), w ∈ TB := by decide +kernel
theorem w_C74 : ∀ w ∈ ([.methodLink "DegreeCores" 74 y_J_min, .static y_J_min, .initialized y_J_min.cls, Cond.code y_J_min b_J_min 2 (some .int)] : List Cond), w ∈ TB := by decide +kernel
theorem w_C77 : ∀ w ∈ ([.methodLink "DegreeCores" 77 y_C_triangleCorners, .instanceMethod y_C_triangleCorners, .selects R_C y_C_triangleCorners y_C_triangleCorners, .initialized R_C, Cond.code y_C_triangleCorners b_C_triangleCorners 3 (some .int)] : List Cond), w ∈ TB := by decide +kernel
theorem w_C80 : ∀ w ∈ ([.methodLink "DegreeCores" 80 y_C_isTriangle, .instanceMethod y_C_isTriangle, .selects R_C y_C_isTriangle y_C_isTriangle, .initialized R_C, Cond.code y_C_isTriangle b_C_isTriangle 4 (some .boolean)] : List Cond), w ∈ TB := by decide +kernel
theorem w_C84 : ∀ w ∈ ([.methodLink "DegreeCores" 84 y_C_corner, .static y_C_corner, .initialized y_C_corner.cls, Cond.code y_C_corner b_C_corner 4 (some .int)] : List Cond), w ∈ TB := by decide +kernel
theorem w_C88 : ∀ w ∈ ([.methodLink "DegreeCores" 88 y_C_isEdge, .instanceMethod y_C_isEdge, .selects R_C y_C_isEdge y_C_isEdge, .initialized R_C, Cond.code y_C_isEdge b_C_isEdge 3 (some .boolean)] : List Cond), w ∈ TB := by decide +kernel
theorem w_C97 : ∀ w ∈ ([.methodLink "DegreeCores" 97 y_C_shrinkToTruss, .instanceMethod y_C_shrinkToTruss, .selects R_C y_C_shrinkToTruss y_C_shrinkToTruss, .initialized R_C, Cond.code y_C_shrinkToTruss b_C_shrinkToTruss 4 (none)] : List Cond), w ∈ TB := by decide +kernel
theorem w_C101 : ∀ w ∈ ([.methodLink "DegreeCores" 101 y_C_isPart, .static y_C_isPart, .initialized y_C_isPart.cls, Cond.code y_C_isPart b_C_isPart 1 (some .boolean)] : List Cond), w ∈ TB := by decide +kernel
theorem w_C104 : ∀ w ∈ ([.methodLink "DegreeCores" 104 y_C_trianglesAt, .instanceMethod y_C_trianglesAt, .selects R_C y_C_trianglesAt y_C_trianglesAt, .initialized R_C, Cond.code y_C_trianglesAt b_C_trianglesAt 2 (some .int)] : List Cond), w ∈ TB := by decide +kernel
theorem w_C107 : ∀ w ∈ ([.methodLink "DegreeCores" 107 y_C_pairsAt, .instanceMethod y_C_pairsAt, .selects R_C y_C_pairsAt y_C_pairsAt, .initialized R_C, Cond.code y_C_pairsAt b_C_pairsAt 2 (some .int)] : List Cond), w ∈ TB := by decide +kernel
theorem w_C110 : ∀ w ∈ ([.methodLink "DegreeCores" 110 y_C_share, .static y_C_share, .initialized y_C_share.cls, Cond.code y_C_share b_C_share 4 (some .int)] : List Cond), w ∈ TB := by decide +kernel
theorem w_C114 : ∀ w ∈ ([.methodLink "DegreeCores" 114 y_C_edgesWithin, .instanceMethod y_C_edgesWithin, .selects R_C y_C_edgesWithin y_C_edgesWithin, .initialized R_C, Cond.code y_C_edgesWithin b_C_edgesWithin 4 (some .int)] : List Cond), w ∈ TB := by decide +kernel
theorem w_C117 : ∀ w ∈ ([.methodLink "DegreeCores" 117 y_C_pairsOf, .static y_C_pairsOf, .initialized y_C_pairsOf.cls, Cond.code y_C_pairsOf b_C_pairsOf 1 (some .int)] : List Cond), w ∈ TB := by decide +kernel
theorem w_C120 : ∀ w ∈ ([.methodLink "DegreeCores" 120 y_C_dropEdgesBelow, .instanceMethod y_C_dropEdgesBelow, .selects R_C y_C_dropEdgesBelow y_C_dropEdgesBelow, .initialized R_C, Cond.code y_C_dropEdgesBelow b_C_dropEdgesBelow 5 (some .boolean)] : List Cond), w ∈ TB := by decide +kernel
theorem w_C123 : ∀ w ∈ ([.methodLink "DegreeCores" 123 y_C_densestBits, .instanceMethod y_C_densestBits, .selects R_C y_C_densestBits y_C_densestBits, .initialized R_C, Cond.code y_C_densestBits b_C_densestBits 8 (some .int)] : List Cond), w ∈ TB := by decide +kernel
theorem w_C126 : ∀ w ∈ ([.methodLink "DegreeCores" 126 y_C_cutSteps, .instanceMethod y_C_cutSteps, .selects R_C y_C_cutSteps y_C_cutSteps, .initialized R_C, Cond.code y_C_cutSteps b_C_cutSteps 1 (some .int)] : List Cond), w ∈ TB := by decide +kernel
theorem w_C129 : ∀ w ∈ ([.methodLink "DegreeCores" 129 y_C_cutChange, .instanceMethod y_C_cutChange, .selects R_C y_C_cutChange y_C_cutChange, .initialized R_C, Cond.code y_C_cutChange b_C_cutChange 5 (some .int)] : List Cond), w ∈ TB := by decide +kernel
theorem w_C132 : ∀ w ∈ ([.methodLink "DegreeCores" 132 y_C_classBits, .instanceMethod y_C_classBits, .selects R_C y_C_classBits y_C_classBits, .initialized R_C, Cond.code y_C_classBits b_C_classBits 9 (some .int)] : List Cond), w ∈ TB := by decide +kernel
theorem w_C135 : ∀ w ∈ ([.methodLink "DegreeCores" 135 y_C_isDenser, .static y_C_isDenser, .initialized y_C_isDenser.cls, Cond.code y_C_isDenser b_C_isDenser 6 (some .boolean)] : List Cond), w ∈ TB := by decide +kernel
theorem w_C139 : ∀ w ∈ ([.methodLink "DegreeCores" 139 y_C_tryMaking, .instanceMethod y_C_tryMaking, .selects R_C y_C_tryMaking y_C_tryMaking, .initialized R_C, Cond.code y_C_tryMaking b_C_tryMaking 3 (some .boolean)] : List Cond), w ∈ TB := by decide +kernel
theorem w_C143 : ∀ w ∈ ([.methodLink "DegreeCores" 143 y_C_wantsMost, .instanceMethod y_C_wantsMost, .selects R_C y_C_wantsMost y_C_wantsMost, .initialized R_C, Cond.code y_C_wantsMost b_C_wantsMost 5 (some .int)] : List Cond), w ∈ TB := by decide +kernel
theorem w_C146 : ∀ w ∈ ([.methodLink "DegreeCores" 146 y_C_serve, .instanceMethod y_C_serve, .selects R_C y_C_serve y_C_serve, .initialized R_C, Cond.code y_C_serve b_C_serve 5 (some .boolean)] : List Cond), w ∈ TB := by decide +kernel
theorem w_C149 : ∀ w ∈ ([.methodLink "DegreeCores" 149 y_J_abs, .static y_J_abs, .initialized y_J_abs.cls, Cond.code y_J_abs b_J_abs 1 (some .int)] : List Cond), w ∈ TB := by decide +kernel
theorem w_C152 : ∀ w ∈ ([.methodLink "DegreeCores" 152 y_C_greatestDivisor, .static y_C_greatestDivisor, .initialized y_C_greatestDivisor.cls, Cond.code y_C_greatestDivisor b_C_greatestDivisor 6 (some .int)] : List Cond), w ∈ TB := by decide +kernel
theorem w_M36 : ∀ w ∈ ([.methodLink "DegreeCoresModel" 36 y_M_isNode, .instanceMethod y_M_isNode, .selects R_M y_M_isNode y_M_isNode, .initialized R_M, Cond.code y_M_isNode b_M_isNode 2 (some .boolean)] : List Cond), w ∈ TB := by decide +kernel
theorem w_M40 : ∀ w ∈ ([.methodLink "DegreeCoresModel" 40 y_M_areTwo, .instanceMethod y_M_areTwo, .selects R_M y_M_areTwo y_M_areTwo, .initialized R_M, Cond.code y_M_areTwo b_M_areTwo 3 (some .boolean)] : List Cond), w ∈ TB := by decide +kernel
theorem w_M44 : ∀ w ∈ ([.methodLink "DegreeCoresModel" 44 y_M_count, .static y_M_count, .initialized y_M_count.cls, Cond.code y_M_count b_M_count 3 (some .int)] : List Cond), w ∈ TB := by decide +kernel
theorem w_M48 : ∀ w ∈ ([.methodLink "DegreeCoresModel" 48 y_M_all, .instanceMethod y_M_all, .selects R_M y_M_all y_M_all, .initialized R_M, Cond.code y_M_all b_M_all 1 (some .int)] : List Cond), w ∈ TB := by decide +kernel
theorem w_M52 : ∀ w ∈ ([.methodLink "DegreeCoresModel" 52 y_M_coreOf, .instanceMethod y_M_coreOf, .selects R_M y_M_coreOf y_M_coreOf, .initialized R_M, Cond.code y_M_coreOf b_M_coreOf 5 (some .int)] : List Cond), w ∈ TB := by decide +kernel
theorem w_M55 : ∀ w ∈ ([.methodLink "DegreeCoresModel" 55 y_M_areJoined, .instanceMethod y_M_areJoined, .selects R_M y_M_areJoined y_M_areJoined, .initialized R_M, Cond.code y_M_areJoined b_M_areJoined 3 (some .boolean)] : List Cond), w ∈ TB := by decide +kernel
theorem w_M67 : ∀ w ∈ ([.methodLink "DegreeCoresModel" 67 y_M_walk, .instanceMethod y_M_walk, .selects R_M y_M_walk y_M_walk, .initialized R_M, Cond.code y_M_walk b_M_walk 6 (some .int)] : List Cond), w ∈ TB := by decide +kernel
theorem w_M70 : ∀ w ∈ ([.methodLink "DegreeCoresModel" 70 y_M_isEdge, .instanceMethod y_M_isEdge, .selects R_M y_M_isEdge y_M_isEdge, .initialized R_M, Cond.code y_M_isEdge b_M_isEdge 3 (some .boolean)] : List Cond), w ∈ TB := by decide +kernel
theorem w_M73 : ∀ w ∈ ([.methodLink "DegreeCoresModel" 73 y_M_trussOf, .instanceMethod y_M_trussOf, .selects R_M y_M_trussOf y_M_trussOf, .initialized R_M, Cond.code y_M_trussOf b_M_trussOf 5 (none)] : List Cond), w ∈ TB := by decide +kernel
theorem w_M77 : ∀ w ∈ ([.methodLink "DegreeCoresModel" 77 y_M_isPart, .static y_M_isPart, .initialized y_M_isPart.cls, Cond.code y_M_isPart b_M_isPart 1 (some .boolean)] : List Cond), w ∈ TB := by decide +kernel
theorem w_M80 : ∀ w ∈ ([.methodLink "DegreeCoresModel" 80 y_M_part, .static y_M_part, .initialized y_M_part.cls, Cond.code y_M_part b_M_part 6 (some .int)] : List Cond), w ∈ TB := by decide +kernel
theorem w_M84 : ∀ w ∈ ([.methodLink "DegreeCoresModel" 84 y_M_edgesIn, .instanceMethod y_M_edgesIn, .selects R_M y_M_edgesIn y_M_edgesIn, .initialized R_M, Cond.code y_M_edgesIn b_M_edgesIn 4 (some .int)] : List Cond), w ∈ TB := by decide +kernel
theorem w_M87 : ∀ w ∈ ([.methodLink "DegreeCoresModel" 87 y_M_densestOf, .instanceMethod y_M_densestOf, .selects R_M y_M_densestOf y_M_densestOf, .initialized R_M, Cond.code y_M_densestOf b_M_densestOf 5 (some .int)] : List Cond), w ∈ TB := by decide +kernel
theorem w_M90 : ∀ w ∈ ([.methodLink "DegreeCoresModel" 90 y_M_makeCuts, .instanceMethod y_M_makeCuts, .selects R_M y_M_makeCuts y_M_makeCuts, .initialized R_M, Cond.code y_M_makeCuts b_M_makeCuts 3 (none)] : List Cond), w ∈ TB := by decide +kernel
theorem w_M93 : ∀ w ∈ ([.methodLink "DegreeCoresModel" 93 y_M_firmOf, .instanceMethod y_M_firmOf, .selects R_M y_M_firmOf y_M_firmOf, .initialized R_M, Cond.code y_M_firmOf b_M_firmOf 5 (some .int)] : List Cond), w ∈ TB := by decide +kernel
theorem w_M103 : ∀ w ∈ ([.methodLink "DegreeCoresModel" 103 y_M_most, .instanceMethod y_M_most, .selects R_M y_M_most y_M_most, .initialized R_M, Cond.code y_M_most b_M_most 4 (some .int)] : List Cond), w ∈ TB := by decide +kernel
theorem w_M106 : ∀ w ∈ ([.methodLink "DegreeCoresModel" 106 y_M_tries, .instanceMethod y_M_tries, .selects R_M y_M_tries y_M_tries, .initialized R_M, Cond.code y_M_tries b_M_tries 7 (some .boolean)] : List Cond), w ∈ TB := by decide +kernel
end
section
/-! bits of small numbers; the object; calls of Math and of arraycopy -/
def b2i (b : Bool) : Int32 := bif b then 1 else 0
theorem b2i_01 (b : Bool) : b2i b = 0 ∨ b2i b = 1 := by cases b <;> decide
/-- a branch on an answer of a method -/
theorem br_eq {b : Bool} {A B : Prop} (f : b = false → A) (g : b = true → B) : (b2i b = 0 → A) ∧ (¬ b2i b = 0 → B) := by
  cases b with
  | false => exact ⟨fun _ => f rfl, fun h => absurd rfl h⟩
  | true => exact ⟨fun h => absurd h (by decide), fun _ => g rfl⟩
theorem br_ne {b : Bool} {A B : Prop} (f : b = true → A) (g : b = false → B) : (¬ b2i b = 0 → A) ∧ (b2i b = 0 → B) := by
  cases b with
  | false => exact ⟨fun h => absurd rfl h, fun _ => g rfl⟩
  | true => exact ⟨fun _ => f rfl, fun h => absurd h (by decide)⟩
/-- branches on small numbers -/
theorem br_ge {a b : Nat} {A B : Prop} (ha : a < 2 ^ 31) (hb : b < 2 ^ 31) (f : b ≤ a → A) (g : a < b → B) : (nI b ≤ nI a → A) ∧ (¬ nI b ≤ nI a → B) :=
  ⟨fun h => f ((nI_leI hb ha).mp h), fun h => g (Nat.lt_of_not_le (fun z => h ((nI_leI hb ha).mpr z)))⟩
theorem br_gt {a b : Nat} {A B : Prop} (ha : a < 2 ^ 31) (hb : b < 2 ^ 31) (f : b < a → A) (g : a ≤ b → B) : (nI b < nI a → A) ∧ (¬ nI b < nI a → B) :=
  ⟨fun h => f ((nI_ltI hb ha).mp h), fun h => g (Nat.le_of_not_lt (fun z => h ((nI_ltI hb ha).mpr z)))⟩
theorem br_e {a b : Nat} {A B : Prop} (ha : a < 2 ^ 31) (hb : b < 2 ^ 31) (f : a = b → A) (g : a ≠ b → B) : (nI a = nI b → A) ∧ (¬ nI a = nI b → B) :=
  ⟨fun h => f ((nI_eq ha hb).mp h), fun h => g (fun z => h ((nI_eq ha hb).mpr z))⟩
theorem br_n {a b : Nat} {A B : Prop} (ha : a < 2 ^ 31) (hb : b < 2 ^ 31) (f : a ≠ b → A) (g : a = b → B) : (¬ nI a = nI b → A) ∧ (nI a = nI b → B) :=
  ⟨fun h => f (fun z => h ((nI_eq ha hb).mpr z)), fun h => g ((nI_eq ha hb).mp h)⟩
theorem nx_and (a b : Nat) : nI a &&& nI b = nI (a &&& b) := by
  apply Int32.toBitVec_inj.1
  show BitVec.ofNat 32 a &&& BitVec.ofNat 32 b = BitVec.ofNat 32 (a &&& b)
  apply BitVec.eq_of_getLsbD_eq
  intro i hi
  simp [hi]
theorem nx_xor (a b : Nat) : nI a ^^^ nI b = nI (a ^^^ b) := by
  apply Int32.toBitVec_inj.1
  show BitVec.ofNat 32 a ^^^ BitVec.ofNat 32 b = BitVec.ofNat 32 (a ^^^ b)
  apply BitVec.eq_of_getLsbD_eq
  intro i hi
  simp [hi]
theorem nx_or (a b : Nat) : nI a ||| nI b = nI (a ||| b) := by
  apply Int32.toBitVec_inj.1
  show BitVec.ofNat 32 a ||| BitVec.ofNat 32 b = BitVec.ofNat 32 (a ||| b)
  apply BitVec.eq_of_getLsbD_eq
  intro i hi
  simp [hi]
theorem nx_m1 (x y : Int32) : x &&& (y ^^^ (-1)) = x ^^^ (x &&& y) := by
  apply Int32.toBitVec_inj.1
  show x.toBitVec &&& (y.toBitVec ^^^ (-1#32)) = x.toBitVec ^^^ (x.toBitVec &&& y.toBitVec)
  apply BitVec.eq_of_getLsbD_eq
  intro i hi
  have e : (-1#32) = BitVec.allOnes 32 := by decide
  rw [e]
  simp only [BitVec.getLsbD_and, BitVec.getLsbD_xor, BitVec.getLsbD_allOnes, hi, decide_true]
  cases x.toBitVec.getLsbD i <;> cases y.toBitVec.getLsbD i <;> rfl
/-- and not -/
theorem nx_sd (a b : Nat) : nI a &&& (nI b ^^^ (-1)) = nI (sd a b) := by rw [nx_m1, nx_and, nx_xor]; rfl
theorem s_l : ∀ n, n < 32 → ((nI n &&& 31).toBitVec.smod 32).toNat = n := by decide +kernel
theorem nx_shl : ∀ v, v < 31 → (1 : Int32) <<< (nI v &&& 31) = nI (2 ^ v) := by decide +kernel
theorem nx_bit {S v : Nat} (hS : S < 2 ^ 31) (hv : v < 32) : (nI S >>> (nI v &&& 31)) &&& 1 = nI (S.testBit v).toNat := by
  rw [pk_shrN hS _ v (s_l v hv), pk_andN (m := 1) (Nat.lt_of_le_of_lt (Nat.div_le_self _ _) (Nat.lt_trans hS (by decide))) 1 (by decide), Nat.testBit_eq_decide_div_mod_eq]
  congr 1
  have : S / 2 ^ v % 2 < 2 := Nat.mod_lt _ (by decide)
  rcases (show S / 2 ^ v % 2 = 0 ∨ S / 2 ^ v % 2 = 1 by omega) with h | h <;> simp [h]
def bcI (i : Int32) : Int32 :=
  let a := i - ((i.toUInt32 >>> ((1 : Int32).toUInt32 &&& Int32.toUInt32 31)).toInt32 &&& 1431655765)
  let b := (a &&& 858993459) + ((a.toUInt32 >>> ((2 : Int32).toUInt32 &&& Int32.toUInt32 31)).toInt32 &&& 858993459)
  let c := (b + (b.toUInt32 >>> ((4 : Int32).toUInt32 &&& Int32.toUInt32 31)).toInt32) &&& 252645135
  let d := c + (c.toUInt32 >>> ((8 : Int32).toUInt32 &&& Int32.toUInt32 31)).toInt32
  let e := d + (d.toUInt32 >>> ((16 : Int32).toUInt32 &&& Int32.toUInt32 31)).toInt32
  e &&& 63
theorem bc_all : ((List.range 4096).all fun s => decide (bcI (nI s) = nI (pop s)) && (s == 0 || decide (bcI ((nI s &&& -(nI s)) - 1) = nI (lsb s)))) = true := by decide +kernel
theorem bc_n {s : Nat} (h : s < 4096) : bcI (nI s) = nI (pop s) := by
  have := List.all_eq_true.mp bc_all s (List.mem_range.mpr h)
  simp only [Bool.and_eq_true, decide_eq_true_eq] at this
  exact this.1
theorem bc_l {s : Nat} (h : s < 4096) (h0 : s ≠ 0) : bcI ((nI s &&& -(nI s)) - 1) = nI (lsb s) := by
  have := List.all_eq_true.mp bc_all s (List.mem_range.mpr h)
  simp only [Bool.and_eq_true, Bool.or_eq_true, beq_iff_eq, decide_eq_true_eq] at this
  exact this.2.resolve_left h0
/-- the object and its five rows -/
def mkC (j : Nat → Int32) (n : Int32) (r : Nat → Int32) (q : Int32) (t d w : Nat → Int32) : mH :=
  [.inl [.inr 1, .inl n, .inr 2, .inl q, .inr 3, .inr 4, .inr 5], .inr (12, j), .inr (12, r), .inr (12, t), .inr (12, d), .inr (12, w)]
def isN (n : Nat) (x : Int32) : Bool := decide (0 ≤ x ∧ x < nI n)
theorem isN_t {n : Nat} {x : Int32} (hn : n ≤ 12) (h : isN n x = true) : ∃ v, v < n ∧ x = nI v := by
  have h := of_decide_eq_true h
  obtain ⟨v, hv, rfl⟩ := nI_of (Int32.not_lt.mpr h.1)
  exact ⟨v, (nI_ltI hv (by omega)).mp h.2, rfl⟩
theorem isN_n {n v : Nat} (hn : n ≤ 12) (hv : v < n) : isN n (nI v) = true := decide_eq_true ⟨nI_pos' (by omega), nI_lt hv (by omega)⟩
/-- the graph that an object holds -/
def hC (h : mH) (n : Nat) (f : Nat → Nat) : Prop := ∃ j r q t d w, h = mkC j (nI n) r q t d w ∧ (∀ v, v < n → j v = nI (f v)) ∧ Gr n f
theorem m_calls {D : va_G} {cl : List vw_C} {cA : ClassId} {ci : Nat} {ad : Nat → Nat} {Ts : List Cond} {l : Launch} {own : String} {R : Room} {call : List (Nat × Bool × Nat × mT)} (h : ∀ q ∈ call, m_OK D cl cA ci ad Ts l own R q.1 q.2.1 q.2.2.1 q.2.2.2) : ∀ (x : Nat) (st : Bool) (na : Nat) (T : mT), m_lk call x = some (st, na, T) → m_OK D cl cA ci ad Ts l own R x st na T :=
  fun x st na T hx => h _ (m_lk_mem hx)
def t_max : mT := fun as h k => ∃ x y, as = [.inl x, .inl y] ∧ k (some (if x < y then y else x)) h
def t_min : mT := fun as h k => ∃ x y, as = [.inl x, .inl y] ∧ k (some (if y < x then y else x)) h
def t_abs : mT := fun as h k => ∃ x, as = [.inl x] ∧ k (some (if 0 ≤ x then x else 0 - x)) h
section OKM
variable {cl : List vw_C} {ci : Nat} {D : va_G} {cA : ClassId} {ad : Nat → Nat} {l : Launch} {own : String} {R : Room} {idx : Nat} {Ts : List Cond}
theorem m_okMax (hws : ∀ w ∈ ([.methodLink own idx Lib.Math.max.name, .static Lib.Math.max.name, .initialized "java/lang/Math", Cond.code Lib.Math.max.name Lib.Math.max.code 2 (some .int)] : List Cond), w ∈ Ts) (hR : 0 + 1 ≤ R.frames ∧ 32 * (0 + 1) ≤ R.locals) : m_OK D cl cA ci ad Ts l own R idx true 2 t_max := by
  rintro p e s m args below meth c cc nL Q A H0 ⟨hx, hb, hml, hown, hts⟩ hK hA pc ls rest as h k H locs ⟨x, y, rfl, hk⟩ has hdg hsz hrest hP hD hS kk
  have hw := fun w hw => hts w (hws w hw)
  exact va_mmax (rest := rest.map (m_v ad)) hx hb (hml.trans hsz.symm) hown (hw _ (by simp)) (hw _ (by simp)) (hw _ (by simp)) (hw _ (by simp)) (by omega) (by rw [m_sum]; omega) (Nat.zero_le _) (Nat.zero_le _) hdg (kk _ h H locs hk hP hD hS)
theorem m_okMin (hws : ∀ w ∈ ([.methodLink own idx Lib.Math.min.name, .static Lib.Math.min.name, .initialized "java/lang/Math", Cond.code Lib.Math.min.name Lib.Math.min.code 2 (some .int)] : List Cond), w ∈ Ts) (hR : 0 + 1 ≤ R.frames ∧ 32 * (0 + 1) ≤ R.locals) : m_OK D cl cA ci ad Ts l own R idx true 2 t_min := by
  rintro p e s m args below meth c cc nL Q A H0 ⟨hx, hb, hml, hown, hts⟩ hK hA pc ls rest as h k H locs ⟨x, y, rfl, hk⟩ has hdg hsz hrest hP hD hS kk
  have hw := fun w hw => hts w (hws w hw)
  exact va_mmin (rest := rest.map (m_v ad)) hx hb (hml.trans hsz.symm) hown (hw _ (by simp)) (hw _ (by simp)) (hw _ (by simp)) (hw _ (by simp)) (by omega) (by rw [m_sum]; omega) (Nat.zero_le _) (Nat.zero_le _) hdg (kk _ h H locs hk hP hD hS)
theorem m_okAbs (hws : ∀ w ∈ ([.methodLink own idx Lib.Math.abs.name, .static Lib.Math.abs.name, .initialized "java/lang/Math", Cond.code Lib.Math.abs.name Lib.Math.abs.code 1 (some .int)] : List Cond), w ∈ Ts) (hR : 0 + 1 ≤ R.frames ∧ 32 * (0 + 1) ≤ R.locals) : m_OK D cl cA ci ad Ts l own R idx true 1 t_abs := by
  rintro p e s m args below meth c cc nL Q A H0 ⟨hx, hb, hml, hown, hts⟩ hK hA pc ls rest as h k H locs ⟨x, rfl, hk⟩ has hdg hsz hrest hP hD hS kk
  have hw := fun w hw => hts w (hws w hw)
  exact va_mabs (rest := rest.map (m_v ad)) hx hb (hml.trans hsz.symm) hown (hw _ (by simp)) (hw _ (by simp)) (hw _ (by simp)) (hw _ (by simp)) (by omega) (by rw [m_sum]; omega) (Nat.zero_le _) (Nat.zero_le _) hdg (kk _ h H locs hk hP hD hS)
/-- from the first place on to the first place on -/
def t_copy : mT := fun as h k => ∃ (a b n0 n1 n : Nat) (f g : Nat → Int32), as = [.inr a, .inl 0, .inr b, .inl 0, .inl (nI n)] ∧ m_at h a = some (.inr (n0, f)) ∧ m_at h b = some (.inr (n1, g)) ∧ n ≤ n0 ∧ n ≤ n1 ∧ n < 2 ^ 31 ∧ k none (h.set b (.inr (n1, va_cpy f g 0 0 n)))
theorem m_okCopy (hws : ∀ w ∈ ([.methodLink own idx arraycopyName, .native arraycopyName, .static arraycopyName, .initialized "java/lang/System"] : List Cond), w ∈ Ts) (hR : 0 + 1 ≤ R.frames ∧ 32 * (0 + 1) ≤ R.locals) : m_OK D cl cA ci ad Ts l own R idx true 5 t_copy := by
  rintro p e s m args below meth c cc nL Q A H0 ⟨hx, hb, hml, hown, hts⟩ hK hA pc ls rest as h k H locs ⟨a, b, n0, n1, n, f, g, rfl, ha, hbb, h0, h1, h31, hk⟩ has hdg hsz hrest hP hD hS kk
  have hw := fun w hw => hts w (hws w hw)
  have e0 : (0 : Int32).toNatClampNeg = 0 := by decide
  have en : (nI n).toNatClampNeg = n := nI_clamp h31
  refine va_copyi (rest := rest.map (m_v ad)) hx hb (hml.trans hsz.symm) hown (hw _ (by simp)) (hw _ (by simp)) (hw _ (by simp)) (hw _ (by simp)) hK hP hD hS a b 0 0 (m_w_get ha) (m_w_get hbb) (ty := .int) rfl rfl rfl (by decide) (by decide) (nI_pos h31) (by rw [e0, en]; simpa using h0) (by rw [e0, en]; simpa using h1) (fun i _ => rfl) (by omega) ?_ hdg (fun H1 locs1 hP1 hD1 hS1 => ?_)
  · have : nativeFrameWords "java/lang/System" "arraycopy" 5 = 7 := by decide +kernel
    rw [m_sum, this]; omega
  · rw [e0, en] at hP1 hD1
    have hset : (m_w ci cA ad h).set b (ad b, .inl (cA, n1, .inl (va_cpy f g 0 0 n))) = m_w ci cA ad (h.set b (.inr (n1, va_cpy f g 0 0 n))) := by
      rw [← m_w_set]; rfl
    rw [hset] at hP1 hD1
    exact kk none _ H1 locs1 hk hP1 hD1 hS1
end OKM
theorem o_C69 {D : va_G} {cA : ClassId} {ad : Nat → Nat} {l : Launch} {R : Room} (hR : 0 + 1 ≤ R.frames ∧ 32 * (0 + 1) ≤ R.locals) : m_OK D cls cA 0 ad TB l "DegreeCores" R 69 true 2 t_max := m_okMax (by decide +kernel) hR
theorem o_C74 {D : va_G} {cA : ClassId} {ad : Nat → Nat} {l : Launch} {R : Room} (hR : 0 + 1 ≤ R.frames ∧ 32 * (0 + 1) ≤ R.locals) : m_OK D cls cA 0 ad TB l "DegreeCores" R 74 true 2 t_min := m_okMin (by decide +kernel) hR
theorem o_C91 {D : va_G} {cA : ClassId} {ad : Nat → Nat} {l : Launch} {R : Room} (hR : 0 + 1 ≤ R.frames ∧ 32 * (0 + 1) ≤ R.locals) : m_OK D cls cA 0 ad TB l "DegreeCores" R 91 true 5 t_copy := m_okCopy (by decide +kernel) hR
theorem o_C149 {D : va_G} {cA : ClassId} {ad : Nat → Nat} {l : Launch} {R : Room} (hR : 0 + 1 ≤ R.frames ∧ 32 * (0 + 1) ≤ R.locals) : m_OK D cls cA 0 ad TB l "DegreeCores" R 149 true 1 t_abs := m_okAbs (by decide +kernel) hR
end
section
/-! leaves of the object's methods -/
def t_bitCount : mT := fun as h k => ∃ x, as = [.inl x] ∧ k (some (bcI x)) h
set_option maxHeartbeats 4000000 in
set_option maxRecDepth 20000 in
theorem c_bitCount : m_Con cls 0 TB y_J_bitCount b_J_bitCount 1 (some .int) 0 0 t_bitCount := by
  refine m_con (code := k_J_bitCount) (fld := []) (fpt := []) (kon := kn_J) (call := []) (C := R_C) (T := T_C) (N := 7) (by decide) (Or.inl ⟨rfl, rfl⟩) ok_J_bitCount (tb_J _ rfl) (fun l D cA ad => m_calls ?_) ?_ ?_
  · exact fun _ h => absurd h List.not_mem_nil
  · rintro as h k ⟨x, rfl, hk⟩
    exact Nat.le_of_ble_eq_true rfl
  · rintro as h k ⟨x, rfl, hk⟩ V hV
    refine hV 60 0 _ _ _ ?_
    repeat (refine nm_e ?_)
    exact hk
theorem o_C43 {D : va_G} {cA : ClassId} {ad : Nat → Nat} {l : Launch} {R : Room} (hR : 0 + 1 ≤ R.frames ∧ 32 * (0 + 1) ≤ R.locals) : m_OK D cls cA 0 ad TB l "DegreeCores" R 43 true 1 t_bitCount :=
  m_okS c_bitCount (by decide) tb_good w_C43 ⟨by decide +kernel, by decide +kernel, by decide +kernel⟩ (by decide) hR
def tC_has : mT := fun as h k => ∃ S v, as = [.inl (nI S), .inl (nI v)] ∧ S < 2 ^ 31 ∧ v < 31 ∧ k (some (b2i (S.testBit v))) h
set_option maxHeartbeats 4000000 in
set_option maxRecDepth 20000 in
theorem c_C_has : m_Con cls 0 TB y_C_has b_C_has 2 (some .boolean) 1 0 tC_has := by
  refine m_con (code := k_C_has) (fld := f_C) (fpt := p_C) (kon := []) (call := []) (C := R_C) (T := T_C) (N := 7) (by decide) (Or.inr (Or.inl ⟨rfl, rfl⟩)) ok_C_has tb_C (fun l D cA ad => m_calls ?_) ?_ ?_
  · exact fun _ h => absurd h List.not_mem_nil
  · rintro as h k ⟨S, v, rfl, hS, hv, hk⟩
    exact Nat.le_of_ble_eq_true rfl
  · rintro as h k ⟨S, v, rfl, hS, hv, hk⟩ V hV
    refine hV 60 0 _ _ _ (nm_e (nm_r (nx_bit hS (by omega)) ?_))
    cases hb : S.testBit v with
    | true =>
      rw [hb] at hk
      exact And.intro (fun c => absurd rfl c) (fun _ => And.intro (Or.inr rfl) hk)
    | false =>
      rw [hb] at hk
      exact And.intro (fun _ => And.intro (Or.inl rfl) hk) (fun c => absurd c (by decide))
theorem o_C36 {D : va_G} {cA : ClassId} {ad : Nat → Nat} {l : Launch} {R : Room} (hR : 0 + 1 ≤ R.frames ∧ 32 * (0 + 1) ≤ R.locals) : m_OK D cls cA 0 ad TB l "DegreeCores" R 36 true 2 tC_has :=
  m_okS c_C_has (by decide) tb_good w_C36 ⟨by decide +kernel, by decide +kernel, by decide +kernel⟩ (by decide) hR
def tC_leastOf : mT := fun as h k => ∃ S, as = [.inl (nI S)] ∧ S < 4096 ∧ S ≠ 0 ∧ k (some (nI (lsb S))) h
set_option maxHeartbeats 4000000 in
set_option maxRecDepth 20000 in
theorem c_C_leastOf : m_Con cls 0 TB y_C_leastOf b_C_leastOf 1 (some .int) 0 1 tC_leastOf := by
  refine m_con (code := k_C_leastOf) (fld := f_C) (fpt := p_C) (kon := []) (call := [(43, true, 1, t_bitCount)]) (C := R_C) (T := T_C) (N := 7) (by decide) (Or.inl ⟨rfl, rfl⟩) ok_C_leastOf tb_C (fun l D cA ad => m_calls ?_) ?_ ?_
  · exact List.forall_mem_cons.mpr ⟨o_C43 ⟨Nat.le_of_ble_eq_true rfl, Nat.le_of_ble_eq_true rfl⟩, fun _ h => absurd h List.not_mem_nil⟩
  · rintro as h k ⟨S, rfl, hS, h0, hk⟩
    exact Nat.le_of_ble_eq_true rfl
  · rintro as h k ⟨S, rfl, hS, h0, hk⟩ V hV
    refine hV 60 0 _ _ _ (nm_e (nm_e (nm_e ?_)))
    refine ⟨_, rfl, ?_⟩
    show k (some (bcI ((nI S &&& -(nI S)) - 1))) h
    rw [bc_l hS h0]
    exact hk
theorem o_C66 {D : va_G} {cA : ClassId} {ad : Nat → Nat} {l : Launch} {R : Room} (hR : 1 + 1 ≤ R.frames ∧ 32 * (1 + 1) ≤ R.locals) : m_OK D cls cA 0 ad TB l "DegreeCores" R 66 true 1 tC_leastOf :=
  m_okS c_C_leastOf (by decide) tb_good w_C66 ⟨by decide +kernel, by decide +kernel, by decide +kernel⟩ (by decide) hR
def tC_isNode : mT := fun as h k => ∃ n f x, hC h n f ∧ as = [.inr 0, .inl x] ∧ k (some (b2i (isN n x))) h
set_option maxHeartbeats 4000000 in
set_option maxRecDepth 20000 in
theorem c_C_isNode : m_Con cls 0 TB y_C_isNode b_C_isNode 2 (some .boolean) 1 0 tC_isNode := by
  refine m_con (code := k_C_isNode) (fld := f_C) (fpt := p_C) (kon := []) (call := []) (C := R_C) (T := T_C) (N := 7) (by decide) (Or.inr (Or.inl ⟨rfl, rfl⟩)) ok_C_isNode tb_C (fun l D cA ad => m_calls ?_) ?_ ?_
  · exact fun _ h => absurd h List.not_mem_nil
  · rintro as h k ⟨n, f, x, ⟨j, r, q, t, d, w, rfl, hj, hG⟩, rfl, hk⟩
    exact Nat.le_of_ble_eq_true rfl
  · rintro as h k ⟨n, f, x, ⟨j, r, q, t, d, w, rfl, hj, hG⟩, rfl, hk⟩ V hV
    refine hV 60 0 _ _ _ (And.intro (fun c => And.intro (Or.inl rfl) ?_) (fun c => And.intro (fun c2 => And.intro (Or.inl rfl) ?_) (fun c2 => And.intro (Or.inr rfl) ?_)))
    · have e : isN n x = false := decide_eq_false (fun z => absurd c (Int32.not_lt.mpr z.1))
      rw [e] at hk; exact hk
    · have e : isN n x = false := decide_eq_false (fun z => absurd z.2 (Int32.not_lt.mpr c2))
      rw [e] at hk; exact hk
    · have e : isN n x = true := decide_eq_true ⟨Int32.not_lt.mp c, Int32.not_le.mp c2⟩
      rw [e] at hk; exact hk
theorem o_C39 {D : va_G} {cA : ClassId} {ad : Nat → Nat} {l : Launch} {R : Room} (hR : 0 + 1 ≤ R.frames ∧ 32 * (0 + 1) ≤ R.locals) : m_OK D cls cA 0 ad TB l "DegreeCores" R 39 false (1 + 1) tC_isNode :=
  m_okV (C := R_C) (Tu := T_C) (N := 7) rfl c_C_isNode (by decide) tb_good w_C39 ⟨rfl, by decide +kernel, by decide +kernel, by decide +kernel⟩ (by decide) hR (by rintro as h k ⟨n, f, x, ⟨j, r, q, t, d, w, rfl, hj, hG⟩, rfl, hk⟩; exact ⟨0, _, _, rfl, rfl⟩)
def two (n : Nat) (x y : Int32) : Bool := isN n x && isN n y && !decide (x = y)
theorem two_t {n : Nat} {x y : Int32} (hn : n ≤ 12) (h : two n x y = true) : ∃ u v, u < n ∧ v < n ∧ u ≠ v ∧ x = nI u ∧ y = nI v := by
  simp only [two, Bool.and_eq_true, Bool.not_eq_true', decide_eq_false_iff_not] at h
  obtain ⟨u, hu, rfl⟩ := isN_t hn h.1.1
  obtain ⟨v, hv, rfl⟩ := isN_t hn h.1.2
  exact ⟨u, v, hu, hv, fun z => h.2 (by rw [z]), rfl, rfl⟩
def tC_areTwoNodes : mT := fun as h k => ∃ n f x y, hC h n f ∧ as = [.inr 0, .inl x, .inl y] ∧ k (some (b2i (two n x y))) h
set_option maxHeartbeats 4000000 in
set_option maxRecDepth 20000 in
theorem c_C_areTwoNodes : m_Con cls 0 TB y_C_areTwoNodes b_C_areTwoNodes 3 (some .boolean) 1 1 tC_areTwoNodes := by
  refine m_con (code := k_C_areTwoNodes) (fld := f_C) (fpt := p_C) (kon := []) (call := [(39, false, 2, tC_isNode)]) (C := R_C) (T := T_C) (N := 7) (by decide) (Or.inr (Or.inl ⟨rfl, rfl⟩)) ok_C_areTwoNodes tb_C (fun l D cA ad => m_calls ?_) ?_ ?_
  · exact List.forall_mem_cons.mpr ⟨o_C39 ⟨Nat.le_of_ble_eq_true rfl, Nat.le_of_ble_eq_true rfl⟩, fun _ h => absurd h List.not_mem_nil⟩
  · rintro as h k ⟨n, f, x, y, ⟨j, r, q, t, d, w, rfl, hj, hG⟩, rfl, hk⟩
    exact Nat.le_of_ble_eq_true rfl
  · rintro as h k ⟨n, f, x, y, ⟨j, r, q, t, d, w, rfl, hj, hG⟩, rfl, hk⟩ V hV
    have hh : hC (mkC j (nI n) r q t d w) n f := ⟨j, r, q, t, d, w, rfl, hj, hG⟩
    refine hV 60 0 _ _ _ ⟨n, f, x, hh, rfl, br_eq (fun c => And.intro (Or.inl rfl) ?_) (fun c => ⟨n, f, y, hh, rfl, br_eq (fun c2 => And.intro (Or.inl rfl) ?_) (fun c2 => And.intro (fun c3 => And.intro (Or.inl rfl) ?_) (fun c3 => And.intro (Or.inr rfl) ?_))⟩)⟩
    · have e : two n x y = false := by simp [two, c]
      rw [e] at hk; exact hk
    · have e : two n x y = false := by simp [two, c2]
      rw [e] at hk; exact hk
    · have c3 : x = y := c3
      have e : two n x y = false := by simp [two, c3]
      rw [e] at hk; exact hk
    · have c3 : ¬ x = y := c3
      have e : two n x y = true := by simp [two, c, c2, c3]
      rw [e] at hk; exact hk
theorem o_C32 {D : va_G} {cA : ClassId} {ad : Nat → Nat} {l : Launch} {R : Room} (hR : 1 + 1 ≤ R.frames ∧ 32 * (1 + 1) ≤ R.locals) : m_OK D cls cA 0 ad TB l "DegreeCores" R 32 false (2 + 1) tC_areTwoNodes :=
  m_okV (C := R_C) (Tu := T_C) (N := 7) rfl c_C_areTwoNodes (by decide) tb_good w_C32 ⟨rfl, by decide +kernel, by decide +kernel, by decide +kernel⟩ (by decide) hR (by rintro as h k ⟨n, f, x, y, ⟨j, r, q, t, d, w, rfl, hj, hG⟩, rfl, hk⟩; exact ⟨0, _, _, rfl, rfl⟩)
/-- the places of x and y, where they are nodes -/
def edg (n : Nat) (f : Nat → Nat) (x y : Int32) : Bool := two n x y && (f x.toNatClampNeg).testBit y.toNatClampNeg
theorem clamp12 {v n : Nat} (hv : v < n) (hn : n ≤ 12) : (nI v).toNatClampNeg = v := nI_clamp (by omega)
theorem g31 {n : Nat} {f : Nat → Nat} (hG : Gr n f) {v : Nat} (hv : v < n) : f v < 4096 := Nat.lt_of_lt_of_le (hG.2.1 v hv) (p12 hG.1)
def tC_isEdge : mT := fun as h k => ∃ n f x y, hC h n f ∧ as = [.inr 0, .inl x, .inl y] ∧ k (some (b2i (edg n f x y))) h
set_option maxHeartbeats 4000000 in
set_option maxRecDepth 20000 in
theorem c_C_isEdge : m_Con cls 0 TB y_C_isEdge b_C_isEdge 3 (some .boolean) 1 2 tC_isEdge := by
  refine m_con (code := k_C_isEdge) (fld := f_C) (fpt := p_C) (kon := []) (call := [(32, false, 3, tC_areTwoNodes), (36, true, 2, tC_has)]) (C := R_C) (T := T_C) (N := 7) (by decide) (Or.inr (Or.inl ⟨rfl, rfl⟩)) ok_C_isEdge tb_C (fun l D cA ad => m_calls ?_) ?_ ?_
  · exact List.forall_mem_cons.mpr ⟨o_C32 ⟨Nat.le_of_ble_eq_true rfl, Nat.le_of_ble_eq_true rfl⟩, List.forall_mem_cons.mpr ⟨o_C36 ⟨Nat.le_of_ble_eq_true rfl, Nat.le_of_ble_eq_true rfl⟩, fun _ h => absurd h List.not_mem_nil⟩⟩
  · rintro as h k ⟨n, f, x, y, ⟨j, r, q, t, d, w, rfl, hj, hG⟩, rfl, hk⟩
    exact Nat.le_of_ble_eq_true rfl
  · rintro as h k ⟨n, f, x, y, ⟨j, r, q, t, d, w, rfl, hj, hG⟩, rfl, hk⟩ V hV
    have hh : hC (mkC j (nI n) r q t d w) n f := ⟨j, r, q, t, d, w, rfl, hj, hG⟩
    refine hV 60 0 _ _ _ ⟨n, f, x, y, hh, rfl, br_eq (fun c => And.intro (Or.inl rfl) ?_) (fun c => ?_)⟩
    · have e : edg n f x y = false := by simp [edg, c]
      rw [e] at hk; exact hk
    · obtain ⟨u, v, hu, hv, huv, rfl, rfl⟩ := two_t hG.1 c
      have hn := hG.1
      have eq : edg n f (nI u) (nI v) = (f u).testBit v := by simp [edg, c, clamp12 hu hn, clamp12 hv hn]
      rw [eq] at hk
      have g := g31 hG hu
      refine And.intro (vp_in_nI (by omega) (by omega)) (nm_r (by rw [clamp12 hu hn, hj u hu]) ⟨f u, v, rfl, by omega, by omega, br_eq (fun c2 => And.intro (Or.inl rfl) ?_) (fun c2 => And.intro (Or.inr rfl) ?_)⟩)
      · rw [c2] at hk; exact hk
      · rw [c2] at hk; exact hk
theorem o_C88 {D : va_G} {cA : ClassId} {ad : Nat → Nat} {l : Launch} {R : Room} (hR : 2 + 1 ≤ R.frames ∧ 32 * (2 + 1) ≤ R.locals) : m_OK D cls cA 0 ad TB l "DegreeCores" R 88 false (2 + 1) tC_isEdge :=
  m_okV (C := R_C) (Tu := T_C) (N := 7) rfl c_C_isEdge (by decide) tb_good w_C88 ⟨rfl, by decide +kernel, by decide +kernel, by decide +kernel⟩ (by decide) hR (by rintro as h k ⟨n, f, x, y, ⟨j, r, q, t, d, w, rfl, hj, hG⟩, rfl, hk⟩; exact ⟨0, _, _, rfl, rfl⟩)
def tC_allNodes : mT := fun as h k => ∃ n f, hC h n f ∧ as = [.inr 0] ∧ k (some (nI (2 ^ n - 1))) h
theorem nx_all : ∀ n, n ≤ 12 → nI (2 ^ n) - 1 = nI (2 ^ n - 1) := by decide +kernel
set_option maxHeartbeats 4000000 in
set_option maxRecDepth 20000 in
theorem c_C_allNodes : m_Con cls 0 TB y_C_allNodes b_C_allNodes 1 (some .int) 0 0 tC_allNodes := by
  refine m_con (code := k_C_allNodes) (fld := f_C) (fpt := p_C) (kon := []) (call := []) (C := R_C) (T := T_C) (N := 7) (by decide) (Or.inl ⟨rfl, rfl⟩) ok_C_allNodes tb_C (fun l D cA ad => m_calls ?_) ?_ ?_
  · exact fun _ h => absurd h List.not_mem_nil
  · rintro as h k ⟨n, f, ⟨j, r, q, t, d, w, rfl, hj, hG⟩, rfl, hk⟩
    exact Nat.le_of_ble_eq_true rfl
  · rintro as h k ⟨n, f, ⟨j, r, q, t, d, w, rfl, hj, hG⟩, rfl, hk⟩ V hV
    have hn := hG.1
    exact hV 60 0 _ _ _ (nm_r (nx_shl n (by omega)) (nm_r (nx_all n hn) hk))
theorem o_C56 {D : va_G} {cA : ClassId} {ad : Nat → Nat} {l : Launch} {R : Room} (hR : 0 + 1 ≤ R.frames ∧ 32 * (0 + 1) ≤ R.locals) : m_OK D cls cA 0 ad TB l "DegreeCores" R 56 false (0 + 1) tC_allNodes :=
  m_okV (C := R_C) (Tu := T_C) (N := 7) rfl c_C_allNodes (by decide) tb_good w_C56 ⟨rfl, by decide +kernel, by decide +kernel, by decide +kernel⟩ (by decide) hR (by rintro as h k ⟨n, f, ⟨j, r, q, t, d, w, rfl, hj, hG⟩, rfl, hk⟩; exact ⟨0, _, _, rfl, rfl⟩)
def tC_degreeWithin : mT := fun as h k => ∃ n f S v, hC h n f ∧ as = [.inr 0, .inl (nI S), .inl (nI v)] ∧ v < n ∧ k (some (nI (dg f S v))) h
set_option maxHeartbeats 4000000 in
set_option maxRecDepth 20000 in
theorem c_C_degreeWithin : m_Con cls 0 TB y_C_degreeWithin b_C_degreeWithin 3 (some .int) 0 1 tC_degreeWithin := by
  refine m_con (code := k_C_degreeWithin) (fld := f_C) (fpt := p_C) (kon := []) (call := [(43, true, 1, t_bitCount)]) (C := R_C) (T := T_C) (N := 7) (by decide) (Or.inl ⟨rfl, rfl⟩) ok_C_degreeWithin tb_C (fun l D cA ad => m_calls ?_) ?_ ?_
  · exact List.forall_mem_cons.mpr ⟨o_C43 ⟨Nat.le_of_ble_eq_true rfl, Nat.le_of_ble_eq_true rfl⟩, fun _ h => absurd h List.not_mem_nil⟩
  · rintro as h k ⟨n, f, S, v, ⟨j, r, q, t, d, w, rfl, hj, hG⟩, rfl, hv, hk⟩
    exact Nat.le_of_ble_eq_true rfl
  · rintro as h k ⟨n, f, S, v, ⟨j, r, q, t, d, w, rfl, hj, hG⟩, rfl, hv, hk⟩ V hV
    have hn := hG.1
    refine hV 60 0 _ _ _ (And.intro (vp_in_nI (by omega) (by omega)) (nm_r (by rw [clamp12 hv hn, hj v hv]) (nm_r (nx_and (f v) S) ⟨_, rfl, ?_⟩)))
    show k (some (bcI (nI (f v &&& S)))) _
    rw [bc_n (Nat.lt_of_le_of_lt Nat.and_le_left (g31 hG hv))]
    exact hk
theorem o_C49 {D : va_G} {cA : ClassId} {ad : Nat → Nat} {l : Launch} {R : Room} (hR : 1 + 1 ≤ R.frames ∧ 32 * (1 + 1) ≤ R.locals) : m_OK D cls cA 0 ad TB l "DegreeCores" R 49 false (2 + 1) tC_degreeWithin :=
  m_okV (C := R_C) (Tu := T_C) (N := 7) rfl c_C_degreeWithin (by decide) tb_good w_C49 ⟨rfl, by decide +kernel, by decide +kernel, by decide +kernel⟩ (by decide) hR (by rintro as h k ⟨n, f, S, v, ⟨j, r, q, t, d, w, rfl, hj, hG⟩, rfl, hv, hk⟩; exact ⟨0, _, _, rfl, rfl⟩)
end
section
/-! edges within, loose nodes, least degrees, cores -/
theorem e2_lt {n : Nat} {f : Nat → Nat} (hG : Gr n f) (S v : Nat) (hv : v ≤ n) : e2 v f S ≤ 144 := by
  have hn := hG.1
  have h := sm_bound (g := fun u => bif S.testBit u then dg f S u else 0) (n := v) (c := 12) (fun u hu => by
    have := dg_le hG (S := S) (v := u) (by omega)
    cases S.testBit u with
    | true => show dg f S u ≤ 12; omega
    | false => exact Nat.zero_le _)
  have h2 : v * 12 ≤ 144 := by omega
  exact Nat.le_trans h h2
def tC_edgesWithin : mT := fun as h k => ∃ n f S, hC h n f ∧ as = [.inr 0, .inl (nI S)] ∧ S < 4096 ∧ k (some (nI (e1 n f S))) h
set_option maxHeartbeats 4000000 in
set_option maxRecDepth 20000 in
theorem c_C_edgesWithin : m_Con cls 0 TB y_C_edgesWithin b_C_edgesWithin 4 (some .int) 0 2 tC_edgesWithin := by
  refine m_con (code := k_C_edgesWithin) (fld := f_C) (fpt := p_C) (kon := []) (call := [(36, true, 2, tC_has), (49, false, 3, tC_degreeWithin)]) (C := R_C) (T := T_C) (N := 7) (by decide) (Or.inl ⟨rfl, rfl⟩) ok_C_edgesWithin tb_C (fun l D cA ad => m_calls ?_) ?_ ?_
  · exact List.forall_mem_cons.mpr ⟨o_C36 ⟨Nat.le_of_ble_eq_true rfl, Nat.le_of_ble_eq_true rfl⟩, List.forall_mem_cons.mpr ⟨o_C49 ⟨Nat.le_of_ble_eq_true rfl, Nat.le_of_ble_eq_true rfl⟩, fun _ h => absurd h List.not_mem_nil⟩⟩
  · rintro as h k ⟨n, f, S, ⟨j, r, q, t, d, w, rfl, hj, hG⟩, rfl, hS, hk⟩
    exact Nat.le_of_ble_eq_true rfl
  · rintro as h k ⟨n, f, S, ⟨j, r, q, t, d, w, rfl, hj, hG⟩, rfl, hS, hk⟩ V hV
    have hh : hC (mkC j (nI n) r q t d w) n f := ⟨j, r, q, t, d, w, rfl, hj, hG⟩
    have hn := hG.1
    have loop : ∀ m v acc, v + m = n → acc = e2 v f S → V (4, [some (.inr 0), some (.inl (nI S)), some (.inl (nI acc)), some (.inl (nI v))], [], mkC j (nI n) r q t d w) := by
      intro m
      induction m with
      | zero =>
        intro v acc hv hacc
        have hvn : v = n := by omega
        subst hvn
        have hb := e2_lt hG S v (Nat.le_refl _)
        refine hV 60 4 _ _ _ (br_ge (a := v) (b := v) (by omega) (by omega) (fun _ => And.intro (by decide) (nm_r (pk_div (d := 2) (by omega) (by decide) (by decide)) ?_)) (fun c => absurd c (by omega)))
        rw [hacc, e1_half hG]
        exact hk
      | succ m ih =>
        intro v acc hv hacc
        refine hV 60 4 _ _ _ (br_ge (a := v) (b := n) (by omega) (by omega) (fun c => absurd c (by omega)) (fun _ => ⟨S, v, rfl, by omega, by omega, br_eq (fun c => nm_r (nI_1 v) ?_) (fun c => ⟨n, f, S, v, hh, rfl, by omega, nm_r (nI_add _ _) (nm_r (nI_1 v) ?_)⟩)⟩))
        · exact ih (v + 1) acc (by omega) (by rw [hacc]; show _ = sm _ v + _; simp only [c]; rfl)
        · exact ih (v + 1) (acc + dg f S v) (by omega) (by rw [hacc]; show _ = sm _ v + _; simp only [c]; rfl)
    exact hV 60 0 _ _ _ (loop n 0 0 (by omega) rfl)
theorem o_C114 {D : va_G} {cA : ClassId} {ad : Nat → Nat} {l : Launch} {R : Room} (hR : 2 + 1 ≤ R.frames ∧ 32 * (2 + 1) ≤ R.locals) : m_OK D cls cA 0 ad TB l "DegreeCores" R 114 false (1 + 1) tC_edgesWithin :=
  m_okV (C := R_C) (Tu := T_C) (N := 7) rfl c_C_edgesWithin (by decide) tb_good w_C114 ⟨rfl, by decide +kernel, by decide +kernel, by decide +kernel⟩ (by decide) hR (by rintro as h k ⟨n, f, S, ⟨j, r, q, t, d, w, rfl, hj, hG⟩, rfl, hS, hk⟩; exact ⟨0, _, _, rfl, rfl⟩)
theorem mk_congr {p q : Nat → Bool} {n : Nat} (h : ∀ i, i < n → p i = q i) : mk p n = mk q n := by
  induction n with
  | zero => rfl
  | succ n ih => rw [mk, mk, ih (fun i hi => h i (by omega)), h n (by omega)]
def tC_looseIn : mT := fun as h k => ∃ n f S mm, hC h n f ∧ as = [.inr 0, .inl (nI S), .inl mm] ∧ S < 4096 ∧ k (some (nI (lo n f S (fun d => decide (nI d ≤ mm))))) h
set_option maxHeartbeats 4000000 in
set_option maxRecDepth 20000 in
theorem c_C_looseIn : m_Con cls 0 TB y_C_looseIn b_C_looseIn 5 (some .int) 0 2 tC_looseIn := by
  refine m_con (code := k_C_looseIn) (fld := f_C) (fpt := p_C) (kon := []) (call := [(36, true, 2, tC_has), (49, false, 3, tC_degreeWithin)]) (C := R_C) (T := T_C) (N := 7) (by decide) (Or.inl ⟨rfl, rfl⟩) ok_C_looseIn tb_C (fun l D cA ad => m_calls ?_) ?_ ?_
  · exact List.forall_mem_cons.mpr ⟨o_C36 ⟨Nat.le_of_ble_eq_true rfl, Nat.le_of_ble_eq_true rfl⟩, List.forall_mem_cons.mpr ⟨o_C49 ⟨Nat.le_of_ble_eq_true rfl, Nat.le_of_ble_eq_true rfl⟩, fun _ h => absurd h List.not_mem_nil⟩⟩
  · rintro as h k ⟨n, f, S, mm, ⟨j, r, q, t, d, w, rfl, hj, hG⟩, rfl, hS, hk⟩
    exact Nat.le_of_ble_eq_true rfl
  · rintro as h k ⟨n, f, S, mm, ⟨j, r, q, t, d, w, rfl, hj, hG⟩, rfl, hS, hk⟩ V hV
    have hh : hC (mkC j (nI n) r q t d w) n f := ⟨j, r, q, t, d, w, rfl, hj, hG⟩
    have hn := hG.1
    have loop : ∀ m v acc, v + m = n → acc = lo v f S (fun d => decide (nI d ≤ mm)) → V (5, [some (.inr 0), some (.inl (nI S)), some (.inl mm), some (.inl (nI acc)), some (.inl (nI v))], [], mkC j (nI n) r q t d w) := by
      intro m
      induction m with
      | zero =>
        intro v acc hv hacc
        have hvn : v = n := by omega
        subst hvn
        refine hV 60 5 _ _ _ (br_ge (a := v) (b := v) (by omega) (by omega) (fun _ => ?_) (fun c => absurd c (by omega)))
        rw [← hacc] at hk
        exact hk
      | succ m ih =>
        intro v acc hv hacc
        have e : lo (v + 1) f S (fun d => decide (nI d ≤ mm)) = acc ||| (bif S.testBit v && decide (nI (dg f S v) ≤ mm) then 2 ^ v else 0) := by rw [hacc]; rfl
        refine hV 60 5 _ _ _ (br_ge (a := v) (b := n) (by omega) (by omega) (fun c => absurd c (by omega)) (fun _ => ⟨S, v, rfl, by omega, by omega, br_eq (fun c => nm_r (nI_1 v) ?_) (fun c => ⟨n, f, S, v, hh, rfl, by omega, And.intro (fun c2 => nm_r (nI_1 v) ?_) (fun c2 => nm_r (nx_shl v (by omega)) (nm_r (nx_or _ _) (nm_r (nI_1 v) ?_)))⟩)⟩))
        · exact ih (v + 1) acc (by omega) (by rw [e, c]; simp)
        · have c2 : mm < nI (dg f S v) := c2
          exact ih (v + 1) acc (by omega) (by rw [e, decide_eq_false (Int32.not_le.mpr c2)]; simp)
        · have c2 : ¬ mm < nI (dg f S v) := c2
          exact ih (v + 1) (acc ||| 2 ^ v) (by omega) (by rw [e, c, decide_eq_true (Int32.not_lt.mp c2)]; rfl)
    exact hV 60 0 _ _ _ (loop n 0 0 (by omega) rfl)
theorem o_C63 {D : va_G} {cA : ClassId} {ad : Nat → Nat} {l : Launch} {R : Room} (hR : 2 + 1 ≤ R.frames ∧ 32 * (2 + 1) ≤ R.locals) : m_OK D cls cA 0 ad TB l "DegreeCores" R 63 false (2 + 1) tC_looseIn :=
  m_okV (C := R_C) (Tu := T_C) (N := 7) rfl c_C_looseIn (by decide) tb_good w_C63 ⟨rfl, by decide +kernel, by decide +kernel, by decide +kernel⟩ (by decide) hR (by rintro as h k ⟨n, f, S, mm, ⟨j, r, q, t, d, w, rfl, hj, hG⟩, rfl, hS, hk⟩; exact ⟨0, _, _, rfl, rfl⟩)
/-- the least degree within S, of the nodes below v -/
def ld (f : Nat → Nat) (S : Nat) : Nat → Nat
  | 0 => 12
  | v + 1 => bif S.testBit v then (if dg f S v < ld f S v then dg f S v else ld f S v) else ld f S v
theorem ld_12 (f : Nat → Nat) (S v : Nat) : ld f S v ≤ 12 := by
  induction v with
  | zero => exact Nat.le_refl _
  | succ v ih =>
    rw [ld]
    cases S.testBit v with
    | false => exact ih
    | true =>
      show (if _ then _ else _) ≤ 12
      split <;> omega
theorem ld_le {f : Nat → Nat} {S v u : Nat} (hu : u < v) (h : S.testBit u = true) : ld f S v ≤ dg f S u := by
  induction v with
  | zero => omega
  | succ v ih =>
    rw [ld]
    by_cases huv : u = v
    · subst huv
      rw [h]
      show (if _ then _ else _) ≤ _
      split <;> omega
    · have := ih (by omega)
      cases S.testBit v with
      | false => exact this
      | true =>
        show (if _ then _ else _) ≤ _
        split <;> omega
theorem ld_at {f : Nat → Nat} {S v : Nat} : ld f S v = 12 ∨ ∃ u, u < v ∧ S.testBit u = true ∧ dg f S u = ld f S v := by
  induction v with
  | zero => exact Or.inl rfl
  | succ v ih =>
    rw [ld]
    cases hs : S.testBit v with
    | false =>
      rcases ih with h | ⟨u, h1, h2, h3⟩
      · exact Or.inl h
      · exact Or.inr ⟨u, by omega, h2, h3⟩
    | true =>
      simp only [cond_true]
      split
      · exact Or.inr ⟨v, by omega, hs, rfl⟩
      · rcases ih with h | ⟨u, h1, h2, h3⟩
        · exact Or.inl h
        · exact Or.inr ⟨u, by omega, h2, h3⟩
def tC_leastDegreeWithin : mT := fun as h k => ∃ n f S, hC h n f ∧ as = [.inr 0, .inl (nI S)] ∧ S < 4096 ∧ k (some (nI (ld f S n))) h
set_option maxHeartbeats 4000000 in
set_option maxRecDepth 20000 in
theorem c_C_leastDegreeWithin : m_Con cls 0 TB y_C_leastDegreeWithin b_C_leastDegreeWithin 4 (some .int) 0 2 tC_leastDegreeWithin := by
  refine m_con (code := k_C_leastDegreeWithin) (fld := f_C) (fpt := p_C) (kon := []) (call := [(36, true, 2, tC_has), (49, false, 3, tC_degreeWithin), (74, true, 2, t_min)]) (C := R_C) (T := T_C) (N := 7) (by decide) (Or.inl ⟨rfl, rfl⟩) ok_C_leastDegreeWithin tb_C (fun l D cA ad => m_calls ?_) ?_ ?_
  · exact List.forall_mem_cons.mpr ⟨o_C36 ⟨Nat.le_of_ble_eq_true rfl, Nat.le_of_ble_eq_true rfl⟩, List.forall_mem_cons.mpr ⟨o_C49 ⟨Nat.le_of_ble_eq_true rfl, Nat.le_of_ble_eq_true rfl⟩, List.forall_mem_cons.mpr ⟨o_C74 ⟨Nat.le_of_ble_eq_true rfl, Nat.le_of_ble_eq_true rfl⟩, fun _ h => absurd h List.not_mem_nil⟩⟩⟩
  · rintro as h k ⟨n, f, S, ⟨j, r, q, t, d, w, rfl, hj, hG⟩, rfl, hS, hk⟩
    exact Nat.le_of_ble_eq_true rfl
  · rintro as h k ⟨n, f, S, ⟨j, r, q, t, d, w, rfl, hj, hG⟩, rfl, hS, hk⟩ V hV
    have hh : hC (mkC j (nI n) r q t d w) n f := ⟨j, r, q, t, d, w, rfl, hj, hG⟩
    have hn := hG.1
    have loop : ∀ m v acc, v + m = n → acc = ld f S v → V (5, [some (.inr 0), some (.inl (nI S)), some (.inl (nI acc)), some (.inl (nI v))], [], mkC j (nI n) r q t d w) := by
      intro m
      induction m with
      | zero =>
        intro v acc hv hacc
        have hvn : v = n := by omega
        subst hvn
        refine hV 60 5 _ _ _ (br_ge (a := v) (b := v) (by omega) (by omega) (fun _ => ?_) (fun c => absurd c (by omega)))
        rw [← hacc] at hk
        exact hk
      | succ m ih =>
        intro v acc hv hacc
        have h12 := ld_12 f S v
        have hdl := dg_le hG (S := S) (v := v) (by omega)
        refine hV 60 5 _ _ _ (br_ge (a := v) (b := n) (by omega) (by omega) (fun c => absurd c (by omega)) (fun _ => ⟨S, v, rfl, by omega, by omega, br_eq (fun c => nm_r (nI_1 v) ?_) (fun c => ⟨n, f, S, v, hh, rfl, by omega, ⟨_, _, rfl, nm_r (nI_1 v) ?_⟩⟩)⟩))
        · exact ih (v + 1) acc (by omega) (by rw [hacc, ld, c]; rfl)
        · have e : (if nI (dg f S v) < nI acc then nI (dg f S v) else nI acc) = nI (ld f S (v + 1)) := by
            rw [ld, c, ← hacc]
            show _ = nI (if dg f S v < acc then dg f S v else acc)
            by_cases hc : dg f S v < acc
            · rw [if_pos hc, if_pos (nI_lt hc (by omega))]
            · rw [if_neg hc, if_neg (nI_nlt (by omega) (by omega))]
          have := ih (v + 1) (ld f S (v + 1)) (by omega) rfl
          rw [← e] at this
          exact this
    exact hV 60 0 _ _ _ (loop n 0 12 (by omega) rfl)
theorem o_C60 {D : va_G} {cA : ClassId} {ad : Nat → Nat} {l : Launch} {R : Room} (hR : 2 + 1 ≤ R.frames ∧ 32 * (2 + 1) ≤ R.locals) : m_OK D cls cA 0 ad TB l "DegreeCores" R 60 false (1 + 1) tC_leastDegreeWithin :=
  m_okV (C := R_C) (Tu := T_C) (N := 7) rfl c_C_leastDegreeWithin (by decide) tb_good w_C60 ⟨rfl, by decide +kernel, by decide +kernel, by decide +kernel⟩ (by decide) hR (by rintro as h k ⟨n, f, S, ⟨j, r, q, t, d, w, rfl, hj, hG⟩, rfl, hS, hk⟩; exact ⟨0, _, _, rfl, rfl⟩)
theorem nI_m1 {d K : Nat} (hd : d ≤ 12) (hK : K < 2 ^ 31) : (nI d ≤ nI K - 1) ↔ d < K := by
  cases K with
  | zero =>
    constructor
    · intro h
      have e : nI 0 - 1 = (-1 : Int32) := by decide
      rw [e] at h
      exact absurd (Int32.le_trans (nI_pos' (n := d) (by omega)) h) (by decide)
    · intro h; omega
  | succ K =>
    rw [nI_pred, nI_leI (by omega) (by omega)]
    omega
theorem lo_congr {n : Nat} {f : Nat → Nat} {S : Nat} {c c' : Nat → Bool} (h : ∀ v, v < n → c (dg f S v) = c' (dg f S v)) : lo n f S c = lo n f S c' := mk_congr (fun v hv => by rw [h v hv])
theorem lo_lt (n : Nat) (f : Nat → Nat) (S : Nat) (c : Nat → Bool) : lo n f S c < 2 ^ n := mk_lt _ _
def tC_coreBits : mT := fun as h k => ∃ n f K, hC h n f ∧ as = [.inr 0, .inl (nI K)] ∧ K < 2 ^ 31 ∧ k (some (nI (coreC n f K n))) h
set_option maxHeartbeats 4000000 in
set_option maxRecDepth 20000 in
theorem c_C_coreBits : m_Con cls 0 TB y_C_coreBits b_C_coreBits 4 (some .int) 0 3 tC_coreBits := by
  refine m_con (code := k_C_coreBits) (fld := f_C) (fpt := p_C) (kon := []) (call := [(56, false, 1, tC_allNodes), (63, false, 3, tC_looseIn)]) (C := R_C) (T := T_C) (N := 7) (by decide) (Or.inl ⟨rfl, rfl⟩) ok_C_coreBits tb_C (fun l D cA ad => m_calls ?_) ?_ ?_
  · exact List.forall_mem_cons.mpr ⟨o_C56 ⟨Nat.le_of_ble_eq_true rfl, Nat.le_of_ble_eq_true rfl⟩, List.forall_mem_cons.mpr ⟨o_C63 ⟨Nat.le_of_ble_eq_true rfl, Nat.le_of_ble_eq_true rfl⟩, fun _ h => absurd h List.not_mem_nil⟩⟩
  · rintro as h k ⟨n, f, K, ⟨j, r, q, t, d, w, rfl, hj, hG⟩, rfl, hK, hk⟩
    exact Nat.le_of_ble_eq_true rfl
  · rintro as h k ⟨n, f, K, ⟨j, r, q, t, d, w, rfl, hj, hG⟩, rfl, hK, hk⟩ V hV
    have hh : hC (mkC j (nI n) r q t d w) n f := ⟨j, r, q, t, d, w, rfl, hj, hG⟩
    have hn := hG.1
    have h12 := p12 hn
    have loop : ∀ m v acc, v + m = n → acc = coreC n f K v → V (7, [some (.inr 0), some (.inl (nI K)), some (.inl (nI acc)), some (.inl (nI v))], [], mkC j (nI n) r q t d w) := by
      intro m
      induction m with
      | zero =>
        intro v acc hv hacc
        have hvn : v = n := by omega
        subst hvn
        refine hV 60 7 _ _ _ (br_ge (a := v) (b := v) (by omega) (by omega) (fun _ => ?_) (fun c => absurd c (by omega)))
        rw [← hacc] at hk
        exact hk
      | succ m ih =>
        intro v acc hv hacc
        have hlt := coreC_lt (n := n) (f := f) K v
        refine hV 60 7 _ _ _ (br_ge (a := v) (b := n) (by omega) (by omega) (fun c => absurd c (by omega)) (fun _ => nm_e ⟨n, f, acc, _, hh, rfl, by omega, nm_e (nm_r (nx_sd _ _) (nm_r (nI_1 v) ?_))⟩))
        refine ih (v + 1) _ (by omega) ?_
        rw [hacc]
        show sd _ _ = sd _ _
        congr 1
        refine lo_congr (fun u hu => ?_)
        have := dg_le hG (S := coreC n f K v) hu
        exact decide_eq_decide.mpr (nI_m1 (by omega) hK)
    exact hV 60 0 _ _ _ ⟨n, f, hh, rfl, loop n 0 _ (by omega) rfl⟩
theorem o_C53 {D : va_G} {cA : ClassId} {ad : Nat → Nat} {l : Launch} {R : Room} (hR : 3 + 1 ≤ R.frames ∧ 32 * (3 + 1) ≤ R.locals) : m_OK D cls cA 0 ad TB l "DegreeCores" R 53 false (1 + 1) tC_coreBits :=
  m_okV (C := R_C) (Tu := T_C) (N := 7) rfl c_C_coreBits (by decide) tb_good w_C53 ⟨rfl, by decide +kernel, by decide +kernel, by decide +kernel⟩ (by decide) hR (by rintro as h k ⟨n, f, K, ⟨j, r, q, t, d, w, rfl, hj, hG⟩, rfl, hK, hk⟩; exact ⟨0, _, _, rfl, rfl⟩)
end
section
/-! core numbers, the peeling, layers -/
theorem lsb_all : ((List.range 4096).all fun s => s == 0 || (s.testBit (lsb s) && (List.range 12).all fun i => decide (lsb s ≤ i) || !s.testBit i)) = true := by decide +kernel
theorem lsb_in {s : Nat} (hs : s < 4096) (h0 : s ≠ 0) : s.testBit (lsb s) = true ∧ ∀ i, i < lsb s → s.testBit i = false := by
  have h := List.all_eq_true.mp lsb_all s (List.mem_range.mpr hs)
  simp only [Bool.or_eq_true, beq_iff_eq, Bool.and_eq_true, List.all_eq_true, List.mem_range, decide_eq_true_eq, Bool.not_eq_true'] at h
  obtain ⟨h1, h2⟩ := h.resolve_left h0
  refine ⟨h1, fun i hi => ?_⟩
  have hl : lsb s < 12 := lsb_lt (n := 12) hs h0 (by omega)
  rcases h2 i (by omega) with h3 | h3
  · omega
  · exact h3
theorem pop_all {n : Nat} (hn : n ≤ 12) : pop (2 ^ n - 1) = n := by
  rw [pop_n (pw_pos n) hn]
  have : ∀ m, m ≤ n → cn (2 ^ n - 1).testBit m = m := by
    intro m
    induction m with
    | zero => intro _; rfl
    | succ m ih =>
      intro hm
      show cn (2 ^ n - 1).testBit m + ((2 ^ n - 1).testBit m).toNat = m + 1
      rw [ih (by omega), tb_all, decide_eq_true (show m < n by omega)]
      rfl
  exact this n (Nat.le_refl _)
section PE
variable {n : Nat} {f : Nat → Nat}
theorem core_mono (hG : Gr n f) {K K' : Nat} (h : K ≤ K') : sub (coreC n f K' n) (coreC n f K n) :=
  (coreC_is hG K).2.2 _ (coreC_lt K' n) (fun v hv hb => Nat.le_trans h ((coreC_is hG K').2.1 v hv hb))
theorem core_big (hG : Gr n f) {K v : Nat} (hK : n ≤ K) (hv : v < n) : (coreC n f K n).testBit v = false := by
  cases hb : (coreC n f K n).testBit v with
  | false => rfl
  | true =>
    have h1 := (coreC_is hG K).2.1 v hv hb
    have h2 := dg_lt hG (S := coreC n f K n) hv
    omega
/-- CORE NUMBER -/
def isCN (n : Nat) (f : Nat → Nat) (v r : Nat) : Prop := (r = 0 ∨ (coreC n f r n).testBit v = true) ∧ (coreC n f (r + 1) n).testBit v = false
theorem cn_one (hG : Gr n f) {v r r' : Nat} (h : isCN n f v r) (h' : isCN n f v r') : r = r' := by
  have key : ∀ a b, isCN n f v a → isCN n f v b → ¬ a < b := by
    intro a b ha hb hlt
    have h1 : (coreC n f b n).testBit v = true := hb.1.resolve_left (by omega)
    have h2 := core_mono hG (K := a + 1) (K' := b) (by omega) v h1
    rw [ha.2] at h2
    cases h2
  have k1 := key r r' h h'
  have k2 := key r' r h' h
  omega
/-- who is taken next -/
def tkS (n : Nat) (f : Nat → Nat) (S : Nat) : Nat := lsb (lo n f S (fun d => decide (d ≤ ld f S n)))
def isPk (n : Nat) (f : Nat → Nat) (S v : Nat) : Prop := v < n ∧ S.testBit v = true ∧ (∀ u, u < n → S.testBit u = true → dg f S v ≤ dg f S u) ∧ ∀ u, u < v → S.testBit u = true → dg f S v < dg f S u
theorem pk_one {S v v' : Nat} (h : isPk n f S v) (h' : isPk n f S v') : v = v' := by
  rcases Nat.lt_trichotomy v v' with hl | hl | hl
  · have a := h'.2.2.2 v hl h.2.1
    have b := h.2.2.1 v' h'.1 h'.2.1
    omega
  · exact hl
  · have a := h.2.2.2 v' hl h'.2.1
    have b := h'.2.2.1 v h.1 h.2.1
    omega
theorem ld_in (hG : Gr n f) {S : Nat} (hS : S < 2 ^ n) (h0 : S ≠ 0) : ∃ u, u < n ∧ S.testBit u = true ∧ dg f S u = ld f S n := by
  rcases ld_at (f := f) (S := S) (v := n) with h | h
  · exfalso
    have hn := hG.1
    have hl := lsb_lt hS h0 hn
    have hb := (lsb_in (Nat.lt_of_lt_of_le hS (p12 hn)) h0).1
    have h1 := ld_le (f := f) (S := S) hl hb
    have h2 := dg_lt hG (S := S) hl
    omega
  · exact h
theorem tb_lo (S : Nat) (c : Nat → Bool) (i : Nat) : (lo n f S c).testBit i = (decide (i < n) && (S.testBit i && c (dg f S i))) := tb_mk _ _ _
theorem lo_ne (hG : Gr n f) {S k : Nat} (hS : S < 2 ^ n) (h0 : S ≠ 0) (hk : ld f S n ≤ k) : ∃ u, u < n ∧ S.testBit u = true ∧ (lo n f S (fun d => decide (d ≤ k))).testBit u = true := by
  obtain ⟨u, h1, h2, h3⟩ := ld_in hG hS h0
  refine ⟨u, h1, h2, ?_⟩
  rw [tb_lo]
  simp [h1, h2]
  omega
theorem ne_of_tb {S u : Nat} (h : S.testBit u = true) : S ≠ 0 := fun z => by rw [z] at h; simp at h
theorem tk_is (hG : Gr n f) {S : Nat} (hS : S < 2 ^ n) (h0 : S ≠ 0) : isPk n f S (tkS n f S) := by
  have hn := hG.1
  obtain ⟨u, h1, h2, h3⟩ := lo_ne hG hS h0 (Nat.le_refl (ld f S n))
  have hL := lo_lt n f S (fun d => decide (d ≤ ld f S n))
  obtain ⟨k1, k2⟩ := lsb_in (Nat.lt_of_lt_of_le hL (p12 hn)) (ne_of_tb h3)
  have k1' := k1
  rw [tb_lo] at k1
  simp only [Bool.and_eq_true, decide_eq_true_eq] at k1
  refine ⟨k1.1, k1.2.1, fun v hv hb => Nat.le_trans k1.2.2 (ld_le hv hb), fun v hv hb => ?_⟩
  have k3 := k2 v hv
  have hvn : v < n := Nat.lt_trans hv k1.1
  rw [tb_lo] at k3
  simp [hvn, hb] at k3
  exact Nat.lt_of_le_of_lt k1.2.2 k3
def pS (n : Nat) (f : Nat → Nat) : Nat → Nat
  | 0 => 2 ^ n - 1
  | t + 1 => sd (pS n f t) (2 ^ tkS n f (pS n f t))
theorem pS_lt (t : Nat) : pS n f t < 2 ^ n := by
  induction t with
  | zero => exact pw_pos n
  | succ t ih => exact sd_lt ih
theorem pS_pop (hG : Gr n f) {t : Nat} (ht : t ≤ n) : pop (pS n f t) + t = n := by
  induction t with
  | zero =>
    show pop (2 ^ n - 1) + 0 = n
    rw [pop_all hG.1]
    rfl
  | succ t ih =>
    have h1 := ih (by omega)
    have h0 : pS n f t ≠ 0 := fun z => by rw [z, pop_0] at h1; omega
    have h2 := (tk_is hG (pS_lt t) h0).2.1
    have h3 := pop_rm (pS_lt t) hG.1 h2
    show pop (sd (pS n f t) (2 ^ tkS n f (pS n f t))) + (t + 1) = n
    omega
theorem pS_ne (hG : Gr n f) {t : Nat} (ht : t < n) : pS n f t ≠ 0 := fun z => by
  have := pS_pop hG (Nat.le_of_lt ht)
  rw [z, pop_0] at this
  omega
/-- the layers: what is left, and k -/
def Ly (n : Nat) (f : Nat → Nat) : Nat → Nat × Nat
  | 0 => (2 ^ n - 1, 0)
  | t + 1 =>
    let k := if (Ly n f t).2 < ld f (Ly n f t).1 n then ld f (Ly n f t).1 n else (Ly n f t).2
    (sd (Ly n f t).1 (lo n f (Ly n f t).1 (fun d => decide (d ≤ k))), k)
theorem Ly_lt (t : Nat) : (Ly n f t).1 < 2 ^ n := by
  induction t with
  | zero => exact pw_pos n
  | succ t ih => exact sd_lt ih
theorem Ly_k (t : Nat) : (Ly n f t).2 ≤ 12 := by
  induction t with
  | zero => exact Nat.zero_le _
  | succ t ih =>
    show (if _ then _ else _) ≤ 12
    have := ld_12 f (Ly n f t).1 n
    split <;> omega
theorem Ly_pop (hG : Gr n f) (t : Nat) : (Ly n f t).1 = 0 ∨ pop (Ly n f t).1 + t ≤ n := by
  induction t with
  | zero => right; show pop (2 ^ n - 1) + 0 ≤ n; rw [pop_all hG.1]; omega
  | succ t ih =>
    by_cases h0 : (Ly n f t).1 = 0
    · left
      show sd (Ly n f t).1 _ = 0
      rw [h0]
      simp [sd]
    · right
      have h1 := ih.resolve_left h0
      obtain ⟨u, h2, h3, h4⟩ := lo_ne hG (Ly_lt t) h0 (k := (Ly n f (t + 1)).2) (by
        show _ ≤ (if _ then _ else _)
        split <;> omega)
      have h5 : pop (Ly n f (t + 1)).1 < pop (Ly n f t).1 := by
        rw [pop_n (Ly_lt (t + 1)) hG.1, pop_n (Ly_lt t) hG.1]
        refine cn_lt (v := u) (fun i _ hi => ?_) h2 ?_ h3
        · have hi : (sd (Ly n f t).1 _).testBit i = true := hi
          rw [tb_sd, Bool.and_eq_true] at hi
          exact hi.1
        · show (sd (Ly n f t).1 _).testBit u = false
          rw [tb_sd]
          have h4 : (lo n f (Ly n f t).1 (fun d => decide (d ≤ (Ly n f (t + 1)).2))).testBit u = true := h4
          have : (lo n f (Ly n f t).1 (fun d => decide (d ≤ if (Ly n f t).2 < ld f (Ly n f t).1 n then ld f (Ly n f t).1 n else (Ly n f t).2))).testBit u = true := h4
          rw [this]
          simp
      omega
def isLy (n : Nat) (f : Nat → Nat) (v r : Nat) : Prop := (Ly n f r).1.testBit v = false ∧ ∀ t, t < r → (Ly n f t).1.testBit v = true
theorem ly_one {v r r' : Nat} (h : isLy n f v r) (h' : isLy n f v r') : r = r' := by
  rcases Nat.lt_trichotomy r r' with hl | hl | hl
  · have := h'.2 r hl; rw [h.1] at this; cases this
  · exact hl
  · have := h.2 r' hl; rw [h'.1] at this; cases this
end PE
end
section
/-! the object's public methods: the graph, cores -/
theorem br_lt {a b : Nat} {A B : Prop} (ha : a < 2 ^ 31) (hb : b < 2 ^ 31) (f : a < b → A) (g : b ≤ a → B) : (nI a < nI b → A) ∧ (¬ nI a < nI b → B) :=
  ⟨fun h => f ((nI_ltI ha hb).mp h), fun h => g (Nat.le_of_not_lt (fun z => h ((nI_ltI ha hb).mpr z)))⟩
theorem br_le {a b : Nat} {A B : Prop} (ha : a < 2 ^ 31) (hb : b < 2 ^ 31) (f : a ≤ b → A) (g : b < a → B) : (nI a ≤ nI b → A) ∧ (¬ nI a ≤ nI b → B) :=
  ⟨fun h => f ((nI_leI ha hb).mp h), fun h => g (Nat.lt_of_not_le (fun z => h ((nI_leI ha hb).mpr z)))⟩
theorem upd_u (f : Nat → Int32) (k : Nat) (x : Int32) : upd f k x k = x := pk_us
theorem upd_n {f : Nat → Int32} {k j : Nat} {x : Int32} (h : j ≠ k) : upd f k x j = f j := pk_un h
def tC_node : mT := fun as h k => ∃ j n f r q t d w, h = mkC j (nI n) r q t d w ∧ (∀ v, v < n → j v = nI (f v)) ∧ Gr n f ∧ as = [.inr 0] ∧ (n = 12 → k (some (-4)) h) ∧ (n < 12 → k (some (nI n)) (mkC (upd j n 0) (nI (n + 1)) r q t d w))
set_option maxHeartbeats 4000000 in
set_option maxRecDepth 20000 in
theorem c_C_node : m_Con cls 0 TB y_C_node b_C_node 1 (some .int) 0 0 tC_node := by
  refine m_con (code := k_C_node) (fld := f_C) (fpt := p_C) (kon := []) (call := []) (C := R_C) (T := T_C) (N := 7) (by decide) (Or.inl ⟨rfl, rfl⟩) ok_C_node tb_C (fun l D cA ad => m_calls ?_) ?_ ?_
  · exact fun _ h => absurd h List.not_mem_nil
  · rintro as h k ⟨j, n, f, r, q, t, d, w, rfl, hj, hG, rfl, hk1, hk2⟩
    exact Nat.le_of_ble_eq_true rfl
  · rintro as h k ⟨j, n, f, r, q, t, d, w, rfl, hj, hG, rfl, hk1, hk2⟩ V hV
    have hn := hG.1
    refine hV 60 0 _ _ _ (br_lt (a := n) (b := 12) (by omega) (by omega) (fun c => ?_) (fun c => hk1 (by omega)))
    refine And.intro (vp_in_nI c (by omega)) (nm_r (nI_1 n) (nm_r (nI_pred n) ?_))
    have h2 := hk2 c
    have e : (nI n).toNatClampNeg = n := nI_clamp (by omega)
    rw [← e] at h2
    rw [e] at h2
    show k (some (nI n)) (mkC (upd j (nI n).toNatClampNeg 0) (nI (n + 1)) r q t d w)
    rw [e]
    exact h2
def tC_join : mT := fun as h k => ∃ j n f r q t d w x y b, h = mkC j (nI n) r q t d w ∧ (∀ v, v < n → j v = nI (f v)) ∧ Gr n f ∧ as = [.inr 0, .inl x, .inl y, .inl (b2i b)] ∧ (two n x y = false → k (some (-1)) h) ∧
  ∀ u v, u < n → v < n → u ≠ v → x = nI u → y = nI v → ((f u).testBit v = b → k (some 0) h) ∧ ((f u).testBit v ≠ b → k (some 1) (mkC (upd (upd j u (nI (tg (f u) v))) v (nI (tg (f v) u))) (nI n) r q t d w))
theorem b2i_in {a b : Bool} (h : b2i a = b2i b) : a = b := by cases a <;> cases b <;> first | rfl | exact absurd h (by decide)
set_option maxHeartbeats 4000000 in
set_option maxRecDepth 20000 in
theorem c_C_join : m_Con cls 0 TB y_C_join b_C_join 4 (some .int) 0 2 tC_join := by
  refine m_con (code := k_C_join) (fld := f_C) (fpt := p_C) (kon := []) (call := [(32, false, 3, tC_areTwoNodes), (36, true, 2, tC_has)]) (C := R_C) (T := T_C) (N := 7) (by decide) (Or.inl ⟨rfl, rfl⟩) ok_C_join tb_C (fun l D cA ad => m_calls ?_) ?_ ?_
  · exact List.forall_mem_cons.mpr ⟨o_C32 ⟨Nat.le_of_ble_eq_true rfl, Nat.le_of_ble_eq_true rfl⟩, List.forall_mem_cons.mpr ⟨o_C36 ⟨Nat.le_of_ble_eq_true rfl, Nat.le_of_ble_eq_true rfl⟩, fun _ h => absurd h List.not_mem_nil⟩⟩
  · rintro as h k ⟨j, n, f, r, q, t, d, w, x, y, b, rfl, hj, hG, rfl, hk1, hk2⟩
    exact Nat.le_of_ble_eq_true rfl
  · rintro as h k ⟨j, n, f, r, q, t, d, w, x, y, b, rfl, hj, hG, rfl, hk1, hk2⟩ V hV
    have hh : hC (mkC j (nI n) r q t d w) n f := ⟨j, r, q, t, d, w, rfl, hj, hG⟩
    have hn := hG.1
    refine hV 60 0 _ _ _ ⟨n, f, x, y, hh, rfl, br_ne (fun c => ?_) (fun c => hk1 c)⟩
    obtain ⟨u, v, hu, hv, huv, rfl, rfl⟩ := two_t hn c
    obtain ⟨h0, h1⟩ := hk2 u v hu hv huv rfl rfl
    have gu := g31 hG hu
    have gv := g31 hG hv
    have eu := clamp12 hu hn
    have ev := clamp12 hv hn
    refine And.intro (vp_in_nI (by omega) (by omega)) (nm_r (by rw [eu, hj u hu]) ⟨f u, v, rfl, by omega, by omega, And.intro (fun c2 => ?_) (fun c2 => h0 (b2i_in c2))⟩)
    have c2 : ¬ b2i ((f u).testBit v) = b2i b := c2
    have h1 := h1 (fun z => c2 (by rw [z]))
    refine And.intro (vp_in_nI (by omega) (by omega)) (nm_r (by rw [eu, hj u hu]) (nm_r (nx_shl v (by omega)) (nm_r (nx_xor _ _) (And.intro (vp_in_nI (by omega) (by omega)) ?_))))
    refine And.intro (vp_in_nI (by omega) (by omega)) (nm_r (e' := nI (f v)) (by rw [eu, ev, upd_n (fun z => huv z.symm), hj v hv]) (nm_r (nx_shl u (by omega)) (nm_r (nx_xor _ _) (And.intro (vp_in_nI (by omega) (by omega)) ?_))))
    show k (some 1) (mkC (upd (upd j (nI u).toNatClampNeg (nI (f u ^^^ 2 ^ v))) (nI v).toNatClampNeg (nI (f v ^^^ 2 ^ u))) (nI n) r q t d w)
    rw [eu, ev]
    exact h1
def aJd (n : Nat) (f : Nat → Nat) (x y : Int32) : Int32 := bif two n x y then b2i ((f x.toNatClampNeg).testBit y.toNatClampNeg) else -1
def tC_joined : mT := fun as h k => ∃ n f x y, hC h n f ∧ as = [.inr 0, .inl x, .inl y] ∧ k (some (aJd n f x y)) h
set_option maxHeartbeats 4000000 in
set_option maxRecDepth 20000 in
theorem c_C_joined : m_Con cls 0 TB y_C_joined b_C_joined 3 (some .int) 0 2 tC_joined := by
  refine m_con (code := k_C_joined) (fld := f_C) (fpt := p_C) (kon := []) (call := [(32, false, 3, tC_areTwoNodes), (36, true, 2, tC_has)]) (C := R_C) (T := T_C) (N := 7) (by decide) (Or.inl ⟨rfl, rfl⟩) ok_C_joined tb_C (fun l D cA ad => m_calls ?_) ?_ ?_
  · exact List.forall_mem_cons.mpr ⟨o_C32 ⟨Nat.le_of_ble_eq_true rfl, Nat.le_of_ble_eq_true rfl⟩, List.forall_mem_cons.mpr ⟨o_C36 ⟨Nat.le_of_ble_eq_true rfl, Nat.le_of_ble_eq_true rfl⟩, fun _ h => absurd h List.not_mem_nil⟩⟩
  · rintro as h k ⟨n, f, x, y, ⟨j, r, q, t, d, w, rfl, hj, hG⟩, rfl, hk⟩
    exact Nat.le_of_ble_eq_true rfl
  · rintro as h k ⟨n, f, x, y, ⟨j, r, q, t, d, w, rfl, hj, hG⟩, rfl, hk⟩ V hV
    have hh : hC (mkC j (nI n) r q t d w) n f := ⟨j, r, q, t, d, w, rfl, hj, hG⟩
    have hn := hG.1
    refine hV 60 0 _ _ _ ⟨n, f, x, y, hh, rfl, br_ne (fun c => ?_) (fun c => ?_)⟩
    · obtain ⟨u, v, hu, hv, huv, rfl, rfl⟩ := two_t hn c
      have gu := g31 hG hu
      rw [aJd, c, clamp12 hu hn, clamp12 hv hn] at hk
      refine And.intro (vp_in_nI (by omega) (by omega)) (nm_r (by rw [clamp12 hu hn, hj u hu]) ⟨f u, v, rfl, by omega, by omega, br_eq (fun c2 => ?_) (fun c2 => ?_)⟩)
      · rw [c2] at hk; exact hk
      · rw [c2] at hk; exact hk
    · rw [aJd, c] at hk; exact hk
def tC_clear : mT := fun as h k => ∃ j n f r q t d w, h = mkC j (nI n) r q t d w ∧ (∀ v, v < n → j v = nI (f v)) ∧ Gr n f ∧ as = [.inr 0] ∧ k (some (nI n)) (mkC j (nI 0) r q t d w)
set_option maxHeartbeats 4000000 in
set_option maxRecDepth 20000 in
theorem c_C_clear : m_Con cls 0 TB y_C_clear b_C_clear 2 (some .int) 0 0 tC_clear := by
  refine m_con (code := k_C_clear) (fld := f_C) (fpt := p_C) (kon := []) (call := []) (C := R_C) (T := T_C) (N := 7) (by decide) (Or.inl ⟨rfl, rfl⟩) ok_C_clear tb_C (fun l D cA ad => m_calls ?_) ?_ ?_
  · exact fun _ h => absurd h List.not_mem_nil
  · rintro as h k ⟨j, n, f, r, q, t, d, w, rfl, hj, hG, rfl, hk⟩
    exact Nat.le_of_ble_eq_true rfl
  · rintro as h k ⟨j, n, f, r, q, t, d, w, rfl, hj, hG, rfl, hk⟩ V hV
    exact hV 60 0 _ _ _ hk
def aDeg (n : Nat) (f : Nat → Nat) (x : Int32) : Int32 := bif isN n x then nI (pop (f x.toNatClampNeg)) else -1
def tC_degree : mT := fun as h k => ∃ n f x, hC h n f ∧ as = [.inr 0, .inl x] ∧ k (some (aDeg n f x)) h
set_option maxHeartbeats 4000000 in
set_option maxRecDepth 20000 in
theorem c_C_degree : m_Con cls 0 TB y_C_degree b_C_degree 2 (some .int) 0 1 tC_degree := by
  refine m_con (code := k_C_degree) (fld := f_C) (fpt := p_C) (kon := []) (call := [(39, false, 2, tC_isNode), (43, true, 1, t_bitCount)]) (C := R_C) (T := T_C) (N := 7) (by decide) (Or.inl ⟨rfl, rfl⟩) ok_C_degree tb_C (fun l D cA ad => m_calls ?_) ?_ ?_
  · exact List.forall_mem_cons.mpr ⟨o_C39 ⟨Nat.le_of_ble_eq_true rfl, Nat.le_of_ble_eq_true rfl⟩, List.forall_mem_cons.mpr ⟨o_C43 ⟨Nat.le_of_ble_eq_true rfl, Nat.le_of_ble_eq_true rfl⟩, fun _ h => absurd h List.not_mem_nil⟩⟩
  · rintro as h k ⟨n, f, x, ⟨j, r, q, t, d, w, rfl, hj, hG⟩, rfl, hk⟩
    exact Nat.le_of_ble_eq_true rfl
  · rintro as h k ⟨n, f, x, ⟨j, r, q, t, d, w, rfl, hj, hG⟩, rfl, hk⟩ V hV
    have hh : hC (mkC j (nI n) r q t d w) n f := ⟨j, r, q, t, d, w, rfl, hj, hG⟩
    have hn := hG.1
    refine hV 60 0 _ _ _ ⟨n, f, x, hh, rfl, br_eq (fun c => ?_) (fun c => ?_)⟩
    · rw [aDeg, c] at hk; exact hk
    · obtain ⟨v, hv, rfl⟩ := isN_t hn c
      rw [aDeg, c, clamp12 hv hn] at hk
      refine And.intro (vp_in_nI (by omega) (by omega)) (nm_r (by rw [clamp12 hv hn, hj v hv]) ⟨_, rfl, ?_⟩)
      show k (some (bcI (nI (f v)))) _
      rw [bc_n (g31 hG hv)]
      exact hk
def aCore (n : Nat) (f : Nat → Nat) (x r : Int32) : Prop := (isN n x = false ∧ r = -1) ∨ ∃ v c, v < n ∧ x = nI v ∧ isCN n f v c ∧ r = nI c
def tC_core : mT := fun as h k => ∃ n f x, hC h n f ∧ as = [.inr 0, .inl x] ∧ ∀ r, aCore n f x r → k (some r) h
set_option maxHeartbeats 4000000 in
set_option maxRecDepth 20000 in
theorem c_C_core : m_Con cls 0 TB y_C_core b_C_core 4 (some .int) 0 4 tC_core := by
  refine m_con (code := k_C_core) (fld := f_C) (fpt := p_C) (kon := []) (call := [(39, false, 2, tC_isNode), (53, false, 2, tC_coreBits), (36, true, 2, tC_has)]) (C := R_C) (T := T_C) (N := 7) (by decide) (Or.inl ⟨rfl, rfl⟩) ok_C_core tb_C (fun l D cA ad => m_calls ?_) ?_ ?_
  · exact List.forall_mem_cons.mpr ⟨o_C39 ⟨Nat.le_of_ble_eq_true rfl, Nat.le_of_ble_eq_true rfl⟩, List.forall_mem_cons.mpr ⟨o_C53 ⟨Nat.le_of_ble_eq_true rfl, Nat.le_of_ble_eq_true rfl⟩, List.forall_mem_cons.mpr ⟨o_C36 ⟨Nat.le_of_ble_eq_true rfl, Nat.le_of_ble_eq_true rfl⟩, fun _ h => absurd h List.not_mem_nil⟩⟩⟩
  · rintro as h k ⟨n, f, x, ⟨j, r, q, t, d, w, rfl, hj, hG⟩, rfl, hk⟩
    exact Nat.le_of_ble_eq_true rfl
  · rintro as h k ⟨n, f, x, ⟨j, r, q, t, d, w, rfl, hj, hG⟩, rfl, hk⟩ V hV
    have hh : hC (mkC j (nI n) r q t d w) n f := ⟨j, r, q, t, d, w, rfl, hj, hG⟩
    have hn := hG.1
    have h12 := p12 hn
    refine hV 60 0 _ _ _ ⟨n, f, x, hh, rfl, br_ne (fun c => ?_) (fun c => hk _ (Or.inl ⟨c, rfl⟩))⟩
    obtain ⟨v, hv, rfl⟩ := isN_t hn c
    have loop : ∀ m c, c + 1 + m = n → (c = 0 ∨ (coreC n f c n).testBit v = true) → V (14, [some (.inr 0), some (.inl (nI v)), some (.inl (nI c)), some (.inl (nI (c + 1)))], [], mkC j (nI n) r q t d w) := by
      intro m
      induction m with
      | zero =>
        intro c hc h1
        refine hV 60 14 _ _ _ (br_ge (a := c + 1) (b := n) (by omega) (by omega) (fun _ => ?_) (fun c => absurd c (by omega)))
        exact hk _ (Or.inr ⟨v, c, hv, rfl, ⟨h1, core_big hG (by omega) hv⟩, rfl⟩)
      | succ m ih =>
        intro c hc h1
        have hlt := coreC_lt (n := n) (f := f) (c + 1) n
        refine hV 60 14 _ _ _ (br_ge (a := c + 1) (b := n) (by omega) (by omega) (fun c => absurd c (by omega)) (fun _ => ⟨n, f, c + 1, hh, rfl, by omega, ⟨_, v, rfl, by omega, by omega, br_eq (fun c2 => ?_) (fun c2 => nm_r (nI_1 (c + 1)) ?_)⟩⟩))
        · exact hk _ (Or.inr ⟨v, c, hv, rfl, ⟨h1, c2⟩, rfl⟩)
        · exact ih (c + 1) (by omega) (Or.inr c2)
    exact loop (n - 1) 0 (by omega) (Or.inl rfl)
def aCSet (n : Nat) (f : Nat → Nat) (x : Int32) : Int32 := if x < 0 then -2 else nI (coreC n f x.toNatClampNeg n)
def tC_coreSet : mT := fun as h k => ∃ n f x, hC h n f ∧ as = [.inr 0, .inl x] ∧ k (some (aCSet n f x)) h
set_option maxHeartbeats 4000000 in
set_option maxRecDepth 20000 in
theorem c_C_coreSet : m_Con cls 0 TB y_C_coreSet b_C_coreSet 2 (some .int) 0 4 tC_coreSet := by
  refine m_con (code := k_C_coreSet) (fld := f_C) (fpt := p_C) (kon := []) (call := [(53, false, 2, tC_coreBits)]) (C := R_C) (T := T_C) (N := 7) (by decide) (Or.inl ⟨rfl, rfl⟩) ok_C_coreSet tb_C (fun l D cA ad => m_calls ?_) ?_ ?_
  · exact List.forall_mem_cons.mpr ⟨o_C53 ⟨Nat.le_of_ble_eq_true rfl, Nat.le_of_ble_eq_true rfl⟩, fun _ h => absurd h List.not_mem_nil⟩
  · rintro as h k ⟨n, f, x, ⟨j, r, q, t, d, w, rfl, hj, hG⟩, rfl, hk⟩
    exact Nat.le_of_ble_eq_true rfl
  · rintro as h k ⟨n, f, x, ⟨j, r, q, t, d, w, rfl, hj, hG⟩, rfl, hk⟩ V hV
    have hh : hC (mkC j (nI n) r q t d w) n f := ⟨j, r, q, t, d, w, rfl, hj, hG⟩
    refine hV 60 0 _ _ _ (And.intro (fun c => ?_) (fun c => ?_))
    · have c : 0 ≤ x := c
      obtain ⟨K, hK, rfl⟩ := nI_of (Int32.not_lt.mpr c)
      rw [aCSet, if_neg (Int32.not_lt.mpr c), nI_clamp hK] at hk
      exact ⟨n, f, K, hh, rfl, hK, hk⟩
    · have c : ¬ 0 ≤ x := c
      rw [aCSet, if_pos (Int32.not_le.mp c)] at hk
      exact hk
def aPeel (n : Nat) (f : Nat → Nat) (x : Int32) : Int32 := bif isN n x then nI (tkS n f (pS n f x.toNatClampNeg)) else -1
theorem lo_nI {n : Nat} {f : Nat → Nat} (hG : Gr n f) (S : Nat) {k : Nat} (hk : k ≤ 12) : lo n f S (fun d => decide (nI d ≤ nI k)) = lo n f S (fun d => decide (d ≤ k)) := lo_congr (fun v hv => by
  have := dg_le hG (S := S) hv
  have := hG.1
  exact decide_eq_decide.mpr (nI_leI (by omega) (by omega)))
def tC_peeled : mT := fun as h k => ∃ n f x, hC h n f ∧ as = [.inr 0, .inl x] ∧ k (some (aPeel n f x)) h
set_option maxHeartbeats 4000000 in
set_option maxRecDepth 20000 in
theorem c_C_peeled : m_Con cls 0 TB y_C_peeled b_C_peeled 5 (some .int) 0 3 tC_peeled := by
  refine m_con (code := k_C_peeled) (fld := f_C) (fpt := p_C) (kon := []) (call := [(39, false, 2, tC_isNode), (56, false, 1, tC_allNodes), (60, false, 2, tC_leastDegreeWithin), (63, false, 3, tC_looseIn), (66, true, 1, tC_leastOf)]) (C := R_C) (T := T_C) (N := 7) (by decide) (Or.inl ⟨rfl, rfl⟩) ok_C_peeled tb_C (fun l D cA ad => m_calls ?_) ?_ ?_
  · exact List.forall_mem_cons.mpr ⟨o_C39 ⟨Nat.le_of_ble_eq_true rfl, Nat.le_of_ble_eq_true rfl⟩, List.forall_mem_cons.mpr ⟨o_C56 ⟨Nat.le_of_ble_eq_true rfl, Nat.le_of_ble_eq_true rfl⟩, List.forall_mem_cons.mpr ⟨o_C60 ⟨Nat.le_of_ble_eq_true rfl, Nat.le_of_ble_eq_true rfl⟩, List.forall_mem_cons.mpr ⟨o_C63 ⟨Nat.le_of_ble_eq_true rfl, Nat.le_of_ble_eq_true rfl⟩, List.forall_mem_cons.mpr ⟨o_C66 ⟨Nat.le_of_ble_eq_true rfl, Nat.le_of_ble_eq_true rfl⟩, fun _ h => absurd h List.not_mem_nil⟩⟩⟩⟩⟩
  · rintro as h k ⟨n, f, x, ⟨j, r, q, t, d, w, rfl, hj, hG⟩, rfl, hk⟩
    exact Nat.le_of_ble_eq_true rfl
  · rintro as h k ⟨n, f, x, ⟨j, r, q, t, d, w, rfl, hj, hG⟩, rfl, hk⟩ V hV
    have hh : hC (mkC j (nI n) r q t d w) n f := ⟨j, r, q, t, d, w, rfl, hj, hG⟩
    have hn := hG.1
    have h12 := p12 hn
    refine hV 60 0 _ _ _ ⟨n, f, x, hh, rfl, br_ne (fun c => ?_) (fun c => ?_)⟩
    · obtain ⟨v, hv, rfl⟩ := isN_t hn c
      rw [aPeel, c, clamp12 hv hn] at hk
      have loop : ∀ m u tk, u + m = v + 1 → (0 < u → tk = nI (tkS n f (pS n f (u - 1)))) → V (20, [some (.inr 0), some (.inl (nI v)), some (.inl (nI (pS n f u))), some (.inl tk), some (.inl (nI u))], [], mkC j (nI n) r q t d w) := by
        intro m
        induction m with
        | zero =>
          intro u tk hu htk
          refine hV 60 20 _ _ _ (br_gt (a := u) (b := v) (by omega) (by omega) (fun _ => ?_) (fun c => absurd c (by omega)))
          have e := htk (by omega)
          have e2 : u - 1 = v := by omega
          rw [e2] at e
          subst e
          exact hk
        | succ m ih =>
          intro u tk hu htk
          have hlt := pS_lt (n := n) (f := f) u
          have hne := pS_ne hG (t := u) (by omega)
          have h12' := ld_12 f (pS n f u) n
          have hlo := lo_lt n f (pS n f u) (fun d => decide (d ≤ ld f (pS n f u) n))
          obtain ⟨z, -, -, hz⟩ := lo_ne hG hlt hne (Nat.le_refl _)
          refine hV 60 20 _ _ _ (br_gt (a := u) (b := v) (by omega) (by omega) (fun c => absurd c (by omega)) (fun _ => ⟨n, f, _, hh, rfl, by omega, ⟨n, f, _, _, hh, rfl, by omega, ?_⟩⟩))
          rw [lo_nI hG _ h12']
          have htk2 := (tk_is hG hlt hne).1
          refine ⟨_, rfl, by omega, ne_of_tb hz, nm_r (nx_shl (tkS n f (pS n f u)) (by omega)) (nm_e (nm_r (nx_sd _ _) (nm_r (nI_1 u) ?_)))⟩
          exact ih (u + 1) _ (by omega) (fun _ => rfl)
      exact ⟨n, f, hh, rfl, loop (v + 1) 0 (-1) (by omega) (fun h => by omega)⟩
    · rw [aPeel, c] at hk; exact hk
def aLay (n : Nat) (f : Nat → Nat) (x r : Int32) : Prop := (isN n x = false ∧ r = -1) ∨ ∃ v c, v < n ∧ x = nI v ∧ isLy n f v c ∧ r = nI c
def tC_layer : mT := fun as h k => ∃ n f x, hC h n f ∧ as = [.inr 0, .inl x] ∧ ∀ r, aLay n f x r → k (some r) h
set_option maxHeartbeats 4000000 in
set_option maxRecDepth 20000 in
theorem c_C_layer : m_Con cls 0 TB y_C_layer b_C_layer 5 (some .int) 0 3 tC_layer := by
  refine m_con (code := k_C_layer) (fld := f_C) (fpt := p_C) (kon := []) (call := [(39, false, 2, tC_isNode), (56, false, 1, tC_allNodes), (36, true, 2, tC_has), (60, false, 2, tC_leastDegreeWithin), (69, true, 2, t_max), (63, false, 3, tC_looseIn)]) (C := R_C) (T := T_C) (N := 7) (by decide) (Or.inl ⟨rfl, rfl⟩) ok_C_layer tb_C (fun l D cA ad => m_calls ?_) ?_ ?_
  · exact List.forall_mem_cons.mpr ⟨o_C39 ⟨Nat.le_of_ble_eq_true rfl, Nat.le_of_ble_eq_true rfl⟩, List.forall_mem_cons.mpr ⟨o_C56 ⟨Nat.le_of_ble_eq_true rfl, Nat.le_of_ble_eq_true rfl⟩, List.forall_mem_cons.mpr ⟨o_C36 ⟨Nat.le_of_ble_eq_true rfl, Nat.le_of_ble_eq_true rfl⟩, List.forall_mem_cons.mpr ⟨o_C60 ⟨Nat.le_of_ble_eq_true rfl, Nat.le_of_ble_eq_true rfl⟩, List.forall_mem_cons.mpr ⟨o_C69 ⟨Nat.le_of_ble_eq_true rfl, Nat.le_of_ble_eq_true rfl⟩, List.forall_mem_cons.mpr ⟨o_C63 ⟨Nat.le_of_ble_eq_true rfl, Nat.le_of_ble_eq_true rfl⟩, fun _ h => absurd h List.not_mem_nil⟩⟩⟩⟩⟩⟩
  · rintro as h k ⟨n, f, x, ⟨j, r, q, t, d, w, rfl, hj, hG⟩, rfl, hk⟩
    exact Nat.le_of_ble_eq_true rfl
  · rintro as h k ⟨n, f, x, ⟨j, r, q, t, d, w, rfl, hj, hG⟩, rfl, hk⟩ V hV
    have hh : hC (mkC j (nI n) r q t d w) n f := ⟨j, r, q, t, d, w, rfl, hj, hG⟩
    have hn := hG.1
    have h12 := p12 hn
    refine hV 60 0 _ _ _ ⟨n, f, x, hh, rfl, br_ne (fun c => ?_) (fun c => hk _ (Or.inl ⟨c, rfl⟩))⟩
    obtain ⟨v, hv, rfl⟩ := isN_t hn c
    have loop : ∀ m u, u + m = n → (∀ s, s < u → (Ly n f s).1.testBit v = true) → V (20, [some (.inr 0), some (.inl (nI v)), some (.inl (nI (Ly n f u).1)), some (.inl (nI (Ly n f u).2)), some (.inl (nI u))], [], mkC j (nI n) r q t d w) := by
      intro m
      induction m with
      | zero =>
        intro u hu hi
        refine hV 60 20 _ _ _ (br_ge (a := u) (b := n) (by omega) (by omega) (fun _ => ?_) (fun c => absurd c (by omega)))
        refine hk _ (Or.inr ⟨v, u, hv, rfl, ⟨?_, hi⟩, rfl⟩)
        rcases Ly_pop hG u with h0 | h0
        · rw [h0]; simp
        · have h1 : pop (Ly n f u).1 = 0 := by omega
          rw [pop_n (Ly_lt u) hn] at h1
          exact cn_0 h1 v hv
      | succ m ih =>
        intro u hu hi
        have hlt := Ly_lt (n := n) (f := f) u
        have hk12 := Ly_k (n := n) (f := f) u
        have hl12 := ld_12 f (Ly n f u).1 n
        refine hV 60 20 _ _ _ (br_ge (a := u) (b := n) (by omega) (by omega) (fun c => absurd c (by omega)) (fun _ => ⟨_, v, rfl, by omega, by omega, br_eq (fun c2 => ?_) (fun c2 => ⟨n, f, _, hh, rfl, by omega, ⟨_, _, rfl, ?_⟩⟩)⟩))
        · exact hk _ (Or.inr ⟨v, u, hv, rfl, ⟨c2, hi⟩, rfl⟩)
        · have e : (if nI (Ly n f u).2 < nI (ld f (Ly n f u).1 n) then nI (ld f (Ly n f u).1 n) else nI (Ly n f u).2) = nI (Ly n f (u + 1)).2 := by
            show _ = nI (if _ then _ else _)
            by_cases hc : (Ly n f u).2 < ld f (Ly n f u).1 n
            · rw [if_pos hc, if_pos (nI_lt hc (by omega))]
            · rw [if_neg hc, if_neg (nI_nlt (by omega) (by omega))]
          have hk2 := Ly_k (n := n) (f := f) (u + 1)
          rw [e]
          refine ⟨n, f, _, _, hh, rfl, by omega, ?_⟩
          rw [lo_nI hG _ hk2]
          refine nm_e (nm_r (nx_sd _ _) (nm_r (nI_1 u) ?_))
          exact ih (u + 1) (by omega) (fun s hs => by
            by_cases hsu : s = u
            · rw [hsu]; exact c2
            · exact hi s (by omega))
    exact ⟨n, f, hh, rfl, loop n 0 (by omega) (fun s hs => by omega)⟩
def aSup (n : Nat) (f : Nat → Nat) (x y : Int32) : Int32 := bif edg n f x y then nI (pop (f x.toNatClampNeg &&& f y.toNatClampNeg)) else -1
theorem edg_t {n : Nat} {f : Nat → Nat} {x y : Int32} (hn : n ≤ 12) (h : edg n f x y = true) : ∃ u v, u < n ∧ v < n ∧ u ≠ v ∧ x = nI u ∧ y = nI v ∧ (f u).testBit v = true := by
  rw [edg, Bool.and_eq_true] at h
  obtain ⟨u, v, hu, hv, huv, rfl, rfl⟩ := two_t hn h.1
  have h2 := h.2
  rw [clamp12 hu hn, clamp12 hv hn] at h2
  exact ⟨u, v, hu, hv, huv, rfl, rfl, h2⟩
def tC_support : mT := fun as h k => ∃ n f x y, hC h n f ∧ as = [.inr 0, .inl x, .inl y] ∧ k (some (aSup n f x y)) h
set_option maxHeartbeats 4000000 in
set_option maxRecDepth 20000 in
theorem c_C_support : m_Con cls 0 TB y_C_support b_C_support 3 (some .int) 0 3 tC_support := by
  refine m_con (code := k_C_support) (fld := f_C) (fpt := p_C) (kon := []) (call := [(88, false, 3, tC_isEdge), (43, true, 1, t_bitCount)]) (C := R_C) (T := T_C) (N := 7) (by decide) (Or.inl ⟨rfl, rfl⟩) ok_C_support tb_C (fun l D cA ad => m_calls ?_) ?_ ?_
  · exact List.forall_mem_cons.mpr ⟨o_C88 ⟨Nat.le_of_ble_eq_true rfl, Nat.le_of_ble_eq_true rfl⟩, List.forall_mem_cons.mpr ⟨o_C43 ⟨Nat.le_of_ble_eq_true rfl, Nat.le_of_ble_eq_true rfl⟩, fun _ h => absurd h List.not_mem_nil⟩⟩
  · rintro as h k ⟨n, f, x, y, ⟨j, r, q, t, d, w, rfl, hj, hG⟩, rfl, hk⟩
    exact Nat.le_of_ble_eq_true rfl
  · rintro as h k ⟨n, f, x, y, ⟨j, r, q, t, d, w, rfl, hj, hG⟩, rfl, hk⟩ V hV
    have hh : hC (mkC j (nI n) r q t d w) n f := ⟨j, r, q, t, d, w, rfl, hj, hG⟩
    have hn := hG.1
    refine hV 60 0 _ _ _ ⟨n, f, x, y, hh, rfl, br_eq (fun c => ?_) (fun c => ?_)⟩
    · rw [aSup, c] at hk; exact hk
    · obtain ⟨u, v, hu, hv, huv, rfl, rfl, hb⟩ := edg_t hn c
      rw [aSup, c, clamp12 hu hn, clamp12 hv hn] at hk
      refine And.intro (vp_in_nI (by omega) (by omega)) (nm_r (by rw [clamp12 hu hn, hj u hu]) (And.intro (vp_in_nI (by omega) (by omega)) (nm_r (by rw [clamp12 hv hn, hj v hv]) (nm_r (nx_and _ _) ⟨_, rfl, ?_⟩))))
      show k (some (bcI (nI (f u &&& f v)))) _
      rw [bc_n (Nat.lt_of_le_of_lt Nat.and_le_left (g31 hG hu))]
      exact hk
end
section
/-! triangles and shares of the object -/
def prs (d : Nat) : Nat := d * (d - 1) / 2
theorem prs_I : ∀ c, c ≤ 12 → nI c * (nI c - 1) / 2 = nI (prs c) := by decide +kernel
theorem prs_66 : ∀ c, c ≤ 12 → prs c ≤ 66 := by decide +kernel
def tC_pairsOf : mT := fun as h k => ∃ c, as = [.inl (nI c)] ∧ c ≤ 12 ∧ k (some (nI (prs c))) h
set_option maxHeartbeats 4000000 in
set_option maxRecDepth 20000 in
theorem c_C_pairsOf : m_Con cls 0 TB y_C_pairsOf b_C_pairsOf 1 (some .int) 0 0 tC_pairsOf := by
  refine m_con (code := k_C_pairsOf) (fld := f_C) (fpt := p_C) (kon := []) (call := []) (C := R_C) (T := T_C) (N := 7) (by decide) (Or.inl ⟨rfl, rfl⟩) ok_C_pairsOf tb_C (fun l D cA ad => m_calls ?_) ?_ ?_
  · exact fun _ h => absurd h List.not_mem_nil
  · rintro as h k ⟨c, rfl, hc, hk⟩
    exact Nat.le_of_ble_eq_true rfl
  · rintro as h k ⟨c, rfl, hc, hk⟩ V hV
    refine hV 60 0 _ _ _ (nm_e (nm_e (And.intro (by decide) (nm_r (prs_I c hc) hk))))
theorem o_C117 {D : va_G} {cA : ClassId} {ad : Nat → Nat} {l : Launch} {R : Room} (hR : 0 + 1 ≤ R.frames ∧ 32 * (0 + 1) ≤ R.locals) : m_OK D cls cA 0 ad TB l "DegreeCores" R 117 true 1 tC_pairsOf :=
  m_okS c_C_pairsOf (by decide) tb_good w_C117 ⟨by decide +kernel, by decide +kernel, by decide +kernel⟩ (by decide) hR
def tC_pairsAt : mT := fun as h k => ∃ n f v, hC h n f ∧ as = [.inr 0, .inl (nI v)] ∧ v < n ∧ k (some (nI (prs (pop (f v))))) h
set_option maxHeartbeats 4000000 in
set_option maxRecDepth 20000 in
theorem c_C_pairsAt : m_Con cls 0 TB y_C_pairsAt b_C_pairsAt 2 (some .int) 0 1 tC_pairsAt := by
  refine m_con (code := k_C_pairsAt) (fld := f_C) (fpt := p_C) (kon := []) (call := [(43, true, 1, t_bitCount), (117, true, 1, tC_pairsOf)]) (C := R_C) (T := T_C) (N := 7) (by decide) (Or.inl ⟨rfl, rfl⟩) ok_C_pairsAt tb_C (fun l D cA ad => m_calls ?_) ?_ ?_
  · exact List.forall_mem_cons.mpr ⟨o_C43 ⟨Nat.le_of_ble_eq_true rfl, Nat.le_of_ble_eq_true rfl⟩, List.forall_mem_cons.mpr ⟨o_C117 ⟨Nat.le_of_ble_eq_true rfl, Nat.le_of_ble_eq_true rfl⟩, fun _ h => absurd h List.not_mem_nil⟩⟩
  · rintro as h k ⟨n, f, v, ⟨j, r, q, t, d, w, rfl, hj, hG⟩, rfl, hv, hk⟩
    exact Nat.le_of_ble_eq_true rfl
  · rintro as h k ⟨n, f, v, ⟨j, r, q, t, d, w, rfl, hj, hG⟩, rfl, hv, hk⟩ V hV
    have hn := hG.1
    refine hV 60 0 _ _ _ (And.intro (vp_in_nI (by omega) (by omega)) (nm_r (by rw [clamp12 hv hn, hj v hv]) ⟨_, rfl, ?_⟩))
    rw [bc_n (g31 hG hv)]
    have := pop_le (hG.2.1 v hv) hn
    exact ⟨_, rfl, by omega, hk⟩
theorem o_C107 {D : va_G} {cA : ClassId} {ad : Nat → Nat} {l : Launch} {R : Room} (hR : 1 + 1 ≤ R.frames ∧ 32 * (1 + 1) ≤ R.locals) : m_OK D cls cA 0 ad TB l "DegreeCores" R 107 false (1 + 1) tC_pairsAt :=
  m_okV (C := R_C) (Tu := T_C) (N := 7) rfl c_C_pairsAt (by decide) tb_good w_C107 ⟨rfl, by decide +kernel, by decide +kernel, by decide +kernel⟩ (by decide) hR (by rintro as h k ⟨n, f, v, ⟨j, r, q, t, d, w, rfl, hj, hG⟩, rfl, hv, hk⟩; exact ⟨0, _, _, rfl, rfl⟩)
def tC_trianglesAt : mT := fun as h k => ∃ n f v, hC h n f ∧ as = [.inr 0, .inl (nI v)] ∧ v < n ∧ k (some (nI (e1 n f (f v)))) h
set_option maxHeartbeats 4000000 in
set_option maxRecDepth 20000 in
theorem c_C_trianglesAt : m_Con cls 0 TB y_C_trianglesAt b_C_trianglesAt 2 (some .int) 0 3 tC_trianglesAt := by
  refine m_con (code := k_C_trianglesAt) (fld := f_C) (fpt := p_C) (kon := []) (call := [(114, false, 2, tC_edgesWithin)]) (C := R_C) (T := T_C) (N := 7) (by decide) (Or.inl ⟨rfl, rfl⟩) ok_C_trianglesAt tb_C (fun l D cA ad => m_calls ?_) ?_ ?_
  · exact List.forall_mem_cons.mpr ⟨o_C114 ⟨Nat.le_of_ble_eq_true rfl, Nat.le_of_ble_eq_true rfl⟩, fun _ h => absurd h List.not_mem_nil⟩
  · rintro as h k ⟨n, f, v, ⟨j, r, q, t, d, w, rfl, hj, hG⟩, rfl, hv, hk⟩
    exact Nat.le_of_ble_eq_true rfl
  · rintro as h k ⟨n, f, v, ⟨j, r, q, t, d, w, rfl, hj, hG⟩, rfl, hv, hk⟩ V hV
    have hh : hC (mkC j (nI n) r q t d w) n f := ⟨j, r, q, t, d, w, rfl, hj, hG⟩
    have hn := hG.1
    exact hV 60 0 _ _ _ (And.intro (vp_in_nI (by omega) (by omega)) (nm_r (by rw [clamp12 hv hn, hj v hv]) ⟨n, f, _, hh, rfl, g31 hG hv, hk⟩))
theorem o_C104 {D : va_G} {cA : ClassId} {ad : Nat → Nat} {l : Launch} {R : Room} (hR : 3 + 1 ≤ R.frames ∧ 32 * (3 + 1) ≤ R.locals) : m_OK D cls cA 0 ad TB l "DegreeCores" R 104 false (1 + 1) tC_trianglesAt :=
  m_okV (C := R_C) (Tu := T_C) (N := 7) rfl c_C_trianglesAt (by decide) tb_good w_C104 ⟨rfl, by decide +kernel, by decide +kernel, by decide +kernel⟩ (by decide) hR (by rintro as h k ⟨n, f, v, ⟨j, r, q, t, d, w, rfl, hj, hG⟩, rfl, hv, hk⟩; exact ⟨0, _, _, rfl, rfl⟩)
def tC_triangleCorners : mT := fun as h k => ∃ n f, hC h n f ∧ as = [.inr 0] ∧ k (some (nI (3 * tc n f))) h
set_option maxHeartbeats 4000000 in
set_option maxRecDepth 20000 in
theorem c_C_triangleCorners : m_Con cls 0 TB y_C_triangleCorners b_C_triangleCorners 3 (some .int) 0 4 tC_triangleCorners := by
  refine m_con (code := k_C_triangleCorners) (fld := f_C) (fpt := p_C) (kon := []) (call := [(104, false, 2, tC_trianglesAt)]) (C := R_C) (T := T_C) (N := 7) (by decide) (Or.inl ⟨rfl, rfl⟩) ok_C_triangleCorners tb_C (fun l D cA ad => m_calls ?_) ?_ ?_
  · exact List.forall_mem_cons.mpr ⟨o_C104 ⟨Nat.le_of_ble_eq_true rfl, Nat.le_of_ble_eq_true rfl⟩, fun _ h => absurd h List.not_mem_nil⟩
  · rintro as h k ⟨n, f, ⟨j, r, q, t, d, w, rfl, hj, hG⟩, rfl, hk⟩
    exact Nat.le_of_ble_eq_true rfl
  · rintro as h k ⟨n, f, ⟨j, r, q, t, d, w, rfl, hj, hG⟩, rfl, hk⟩ V hV
    have hh : hC (mkC j (nI n) r q t d w) n f := ⟨j, r, q, t, d, w, rfl, hj, hG⟩
    have hn := hG.1
    have loop : ∀ m v acc, v + m = n → acc = sm (fun u => e1 n f (f u)) v → V (4, [some (.inr 0), some (.inl (nI acc)), some (.inl (nI v))], [], mkC j (nI n) r q t d w) := by
      intro m
      induction m with
      | zero =>
        intro v acc hv hacc
        have hvn : v = n := by omega
        subst hvn
        refine hV 60 4 _ _ _ (br_ge (a := v) (b := v) (by omega) (by omega) (fun _ => ?_) (fun c => absurd c (by omega)))
        rw [tri_3 hG] at hacc
        rw [← hacc] at hk
        exact hk
      | succ m ih =>
        intro v acc hv hacc
        refine hV 60 4 _ _ _ (br_ge (a := v) (b := n) (by omega) (by omega) (fun c => absurd c (by omega)) (fun _ => ⟨n, f, v, hh, rfl, by omega, nm_r (nI_add _ _) (nm_r (nI_1 v) ?_)⟩))
        exact ih (v + 1) _ (by omega) (by rw [hacc]; rfl)
    exact hV 60 0 _ _ _ (loop n 0 0 (by omega) rfl)
theorem o_C77 {D : va_G} {cA : ClassId} {ad : Nat → Nat} {l : Launch} {R : Room} (hR : 4 + 1 ≤ R.frames ∧ 32 * (4 + 1) ≤ R.locals) : m_OK D cls cA 0 ad TB l "DegreeCores" R 77 false (0 + 1) tC_triangleCorners :=
  m_okV (C := R_C) (Tu := T_C) (N := 7) rfl c_C_triangleCorners (by decide) tb_good w_C77 ⟨rfl, by decide +kernel, by decide +kernel, by decide +kernel⟩ (by decide) hR (by rintro as h k ⟨n, f, ⟨j, r, q, t, d, w, rfl, hj, hG⟩, rfl, hk⟩; exact ⟨0, _, _, rfl, rfl⟩)
theorem e1_72 {n : Nat} {f : Nat → Nat} (hG : Gr n f) (S : Nat) : e1 n f S ≤ 72 := by
  have := e2_lt hG S n (Nat.le_refl _)
  have h2 := e2_e1 hG S
  omega
theorem tc_le {n : Nat} {f : Nat → Nat} (hG : Gr n f) : 3 * tc n f ≤ 864 := by
  rw [← tri_3 hG]
  have := sm_bound (g := fun v => e1 n f (f v)) (n := n) (c := 72) (fun v _ => e1_72 hG _)
  have := hG.1
  have h3 : n * 72 ≤ 864 := by omega
  omega
def tC_triangles : mT := fun as h k => ∃ n f, hC h n f ∧ as = [.inr 0] ∧ k (some (nI (tc n f))) h
set_option maxHeartbeats 4000000 in
set_option maxRecDepth 20000 in
theorem c_C_triangles : m_Con cls 0 TB y_C_triangles b_C_triangles 1 (some .int) 0 5 tC_triangles := by
  refine m_con (code := k_C_triangles) (fld := f_C) (fpt := p_C) (kon := []) (call := [(77, false, 1, tC_triangleCorners)]) (C := R_C) (T := T_C) (N := 7) (by decide) (Or.inl ⟨rfl, rfl⟩) ok_C_triangles tb_C (fun l D cA ad => m_calls ?_) ?_ ?_
  · exact List.forall_mem_cons.mpr ⟨o_C77 ⟨Nat.le_of_ble_eq_true rfl, Nat.le_of_ble_eq_true rfl⟩, fun _ h => absurd h List.not_mem_nil⟩
  · rintro as h k ⟨n, f, ⟨j, r, q, t, d, w, rfl, hj, hG⟩, rfl, hk⟩
    exact Nat.le_of_ble_eq_true rfl
  · rintro as h k ⟨n, f, ⟨j, r, q, t, d, w, rfl, hj, hG⟩, rfl, hk⟩ V hV
    have hh : hC (mkC j (nI n) r q t d w) n f := ⟨j, r, q, t, d, w, rfl, hj, hG⟩
    have := tc_le hG
    refine hV 60 0 _ _ _ ⟨n, f, hh, rfl, And.intro (by decide) (nm_r (e' := nI (tc n f)) ?_ hk)⟩
    have h3 := pk_div (a := 3 * tc n f) (d := 3) (by omega) (by decide) (by decide)
    have e : 3 * tc n f / 3 = tc n f := by omega
    rw [e] at h3
    exact h3
def tC_isTriangle : mT := fun as h k => ∃ n f a b c, hC h n f ∧ as = [.inr 0, .inl (nI a), .inl (nI b), .inl (nI c)] ∧ a < n ∧ b < n ∧ c < n ∧ k (some (b2i (tri f a b c))) h
set_option maxHeartbeats 4000000 in
set_option maxRecDepth 20000 in
theorem c_C_isTriangle : m_Con cls 0 TB y_C_isTriangle b_C_isTriangle 4 (some .boolean) 1 1 tC_isTriangle := by
  refine m_con (code := k_C_isTriangle) (fld := f_C) (fpt := p_C) (kon := []) (call := [(36, true, 2, tC_has)]) (C := R_C) (T := T_C) (N := 7) (by decide) (Or.inr (Or.inl ⟨rfl, rfl⟩)) ok_C_isTriangle tb_C (fun l D cA ad => m_calls ?_) ?_ ?_
  · exact List.forall_mem_cons.mpr ⟨o_C36 ⟨Nat.le_of_ble_eq_true rfl, Nat.le_of_ble_eq_true rfl⟩, fun _ h => absurd h List.not_mem_nil⟩
  · rintro as h k ⟨n, f, a, b, c, ⟨j, r, q, t, d, w, rfl, hj, hG⟩, rfl, ha, hb, hc, hk⟩
    exact Nat.le_of_ble_eq_true rfl
  · rintro as h k ⟨n, f, a, b, c, ⟨j, r, q, t, d, w, rfl, hj, hG⟩, rfl, ha, hb, hc, hk⟩ V hV
    have hn := hG.1
    have ga := g31 hG ha
    have gb := g31 hG hb
    refine hV 60 0 _ _ _ (And.intro (vp_in_nI (by omega) (by omega)) (nm_r (by rw [clamp12 ha hn, hj a ha]) ⟨f a, b, rfl, by omega, by omega, br_eq (fun c1 => And.intro (Or.inl rfl) ?_) (fun c1 => ?_)⟩))
    · have e : tri f a b c = false := by simp [tri, c1]
      rw [e] at hk; exact hk
    refine And.intro (vp_in_nI (by omega) (by omega)) (nm_r (by rw [clamp12 ha hn, hj a ha]) ⟨f a, c, rfl, by omega, by omega, br_eq (fun c2 => And.intro (Or.inl rfl) ?_) (fun c2 => ?_)⟩)
    · have e : tri f a b c = false := by simp [tri, c2]
      rw [e] at hk; exact hk
    refine And.intro (vp_in_nI (by omega) (by omega)) (nm_r (by rw [clamp12 hb hn, hj b hb]) ⟨f b, c, rfl, by omega, by omega, br_eq (fun c3 => And.intro (Or.inl rfl) ?_) (fun c3 => And.intro (Or.inr rfl) ?_)⟩)
    · have e : tri f a b c = false := by simp [tri, c3]
      rw [e] at hk; exact hk
    · have e : tri f a b c = true := by simp [tri, c1, c2, c3]
      rw [e] at hk; exact hk
theorem o_C80 {D : va_G} {cA : ClassId} {ad : Nat → Nat} {l : Launch} {R : Room} (hR : 1 + 1 ≤ R.frames ∧ 32 * (1 + 1) ≤ R.locals) : m_OK D cls cA 0 ad TB l "DegreeCores" R 80 false (3 + 1) tC_isTriangle :=
  m_okV (C := R_C) (Tu := T_C) (N := 7) rfl c_C_isTriangle (by decide) tb_good w_C80 ⟨rfl, by decide +kernel, by decide +kernel, by decide +kernel⟩ (by decide) hR (by rintro as h k ⟨n, f, a, b, c, ⟨j, r, q, t, d, w, rfl, hj, hG⟩, rfl, ha, hb, hc, hk⟩; exact ⟨0, _, _, rfl, rfl⟩)
def isP (x : Int32) : Bool := decide (x = 0) || decide (x = 1)
def tC_isPart : mT := fun as h k => ∃ x, as = [.inl x] ∧ k (some (b2i (isP x))) h
set_option maxHeartbeats 4000000 in
set_option maxRecDepth 20000 in
theorem c_C_isPart : m_Con cls 0 TB y_C_isPart b_C_isPart 1 (some .boolean) 1 0 tC_isPart := by
  refine m_con (code := k_C_isPart) (fld := f_C) (fpt := p_C) (kon := []) (call := []) (C := R_C) (T := T_C) (N := 7) (by decide) (Or.inr (Or.inl ⟨rfl, rfl⟩)) ok_C_isPart tb_C (fun l D cA ad => m_calls ?_) ?_ ?_
  · exact fun _ h => absurd h List.not_mem_nil
  · rintro as h k ⟨x, rfl, hk⟩
    exact Nat.le_of_ble_eq_true rfl
  · rintro as h k ⟨x, rfl, hk⟩ V hV
    refine hV 60 0 _ _ _ (And.intro (fun c => And.intro (Or.inr rfl) ?_) (fun c => And.intro (fun c2 => And.intro (Or.inl rfl) ?_) (fun c2 => And.intro (Or.inr rfl) ?_)))
    · have c : x = 0 := c
      have e : isP x = true := by simp [isP, c]
      rw [e] at hk; exact hk
    · have c : ¬ x = 0 := c
      have c2 : ¬ x = 1 := c2
      have e : isP x = false := by simp [isP, c, c2]
      rw [e] at hk; exact hk
    · have c2 : x = 1 := c2
      have e : isP x = true := by simp [isP, c2]
      rw [e] at hk; exact hk
theorem o_C101 {D : va_G} {cA : ClassId} {ad : Nat → Nat} {l : Launch} {R : Room} (hR : 0 + 1 ≤ R.frames ∧ 32 * (0 + 1) ≤ R.locals) : m_OK D cls cA 0 ad TB l "DegreeCores" R 101 true 1 tC_isPart :=
  m_okS c_C_isPart (by decide) tb_good w_C101 ⟨by decide +kernel, by decide +kernel, by decide +kernel⟩ (by decide) hR
def tC_greatestDivisor : mT := fun as h k => ∃ a b, as = [.inl (nI a), .inl (nI b)] ∧ a < 2 ^ 25 ∧ b < 2 ^ 25 ∧ k (some (nI (Nat.gcd a b))) h
set_option maxHeartbeats 4000000 in
set_option maxRecDepth 20000 in
theorem c_C_greatestDivisor : m_Con cls 0 TB y_C_greatestDivisor b_C_greatestDivisor 6 (some .int) 0 0 tC_greatestDivisor := by
  refine m_con (code := k_C_greatestDivisor) (fld := f_C) (fpt := p_C) (kon := []) (call := []) (C := R_C) (T := T_C) (N := 7) (by decide) (Or.inl ⟨rfl, rfl⟩) ok_C_greatestDivisor tb_C (fun l D cA ad => m_calls ?_) ?_ ?_
  · exact fun _ h => absurd h List.not_mem_nil
  · rintro as h k ⟨a, b, rfl, ha, hb, hk⟩
    exact Nat.le_of_ble_eq_true rfl
  · rintro as h k ⟨a, b, rfl, ha, hb, hk⟩ V hV
    have loop : ∀ m i x y (z5 : Option mV), i + m = 50 → x < 2 ^ 25 → y < 2 ^ 25 → eu m (x, y) = (Nat.gcd a b, 0) → V (7, [some (.inl (nI a)), some (.inl (nI b)), some (.inl (nI x)), some (.inl (nI y)), some (.inl (nI i)), z5], [], h) := by
      intro m
      induction m with
      | zero =>
        intro i x y z5 hi hx hy he
        refine hV 60 7 _ _ _ (br_ge (a := i) (b := 50) (by omega) (by omega) (fun _ => ?_) (fun c => absurd c (by omega)))
        have e : x = Nat.gcd a b := congrArg Prod.fst he
        rw [← e] at hk
        exact hk
      | succ m ih =>
        intro i x y z5 hi hx hy he
        refine hV 60 7 _ _ _ (br_ge (a := i) (b := 50) (by omega) (by omega) (fun c => absurd c (by omega)) (fun _ => br_e (a := y) (b := 0) (by omega) (by omega) (fun c => ?_) (fun c => ?_)))
        · rw [eu, if_pos c] at he
          have e : x = Nat.gcd a b := congrArg Prod.fst he
          rw [← e] at hk
          exact hk
        · rw [eu, if_neg c] at he
          have hm : x % y < y := Nat.mod_lt _ (by omega)
          refine And.intro (nI_ne0 (by omega) (by omega)) (nm_r (pk_rem (by omega) (by omega) (by omega)) (nm_r (nI_1 i) ?_))
          exact ih (i + 1) y (x % y) _ (by omega) hy (by omega) he
    exact hV 60 0 _ _ _ (loop 50 0 a b none (by omega) ha hb (eu_end 25 50 a b hb (by omega)))
theorem o_C152 {D : va_G} {cA : ClassId} {ad : Nat → Nat} {l : Launch} {R : Room} (hR : 0 + 1 ≤ R.frames ∧ 32 * (0 + 1) ≤ R.locals) : m_OK D cls cA 0 ad TB l "DegreeCores" R 152 true 2 tC_greatestDivisor :=
  m_okS c_C_greatestDivisor (by decide) tb_good w_C152 ⟨by decide +kernel, by decide +kernel, by decide +kernel⟩ (by decide) hR
/-- a part of a share in lowest terms -/
def shr (av : Int32) (A B : Nat) (p : Int32) : Int32 := if B = 0 then -3 else (if p = 0 then av else nI B) / nI (Nat.gcd A B)
def tC_share : mT := fun as h k => ∃ av A B p, as = [.inl av, .inl (nI B), .inl p] ∧ (if 0 ≤ av then av else 0 - av) = nI A ∧ A < 2 ^ 25 ∧ B < 2 ^ 25 ∧ k (some (shr av A B p)) h
set_option maxHeartbeats 4000000 in
set_option maxRecDepth 20000 in
theorem c_C_share : m_Con cls 0 TB y_C_share b_C_share 4 (some .int) 0 1 tC_share := by
  refine m_con (code := k_C_share) (fld := f_C) (fpt := p_C) (kon := []) (call := [(149, true, 1, t_abs), (152, true, 2, tC_greatestDivisor)]) (C := R_C) (T := T_C) (N := 7) (by decide) (Or.inl ⟨rfl, rfl⟩) ok_C_share tb_C (fun l D cA ad => m_calls ?_) ?_ ?_
  · exact List.forall_mem_cons.mpr ⟨o_C149 ⟨Nat.le_of_ble_eq_true rfl, Nat.le_of_ble_eq_true rfl⟩, List.forall_mem_cons.mpr ⟨o_C152 ⟨Nat.le_of_ble_eq_true rfl, Nat.le_of_ble_eq_true rfl⟩, fun _ h => absurd h List.not_mem_nil⟩⟩
  · rintro as h k ⟨av, A, B, p, rfl, hA, hA2, hB, hk⟩
    exact Nat.le_of_ble_eq_true rfl
  · rintro as h k ⟨av, A, B, p, rfl, hA, hA2, hB, hk⟩ V hV
    refine hV 60 0 _ _ _ ⟨_, rfl, ?_⟩
    rw [hA]
    refine ⟨A, B, rfl, hA2, hB, br_e (a := B) (b := 0) (by omega) (by omega) (fun c => ?_) (fun c => ?_)⟩
    · rw [shr, if_pos c] at hk; exact hk
    · have hg : 0 < Nat.gcd A B := Nat.gcd_pos_of_pos_right _ (by omega)
      have hgl : Nat.gcd A B ≤ B := Nat.gcd_le_right _ (by omega)
      rw [shr, if_neg c] at hk
      refine br_n (a := Nat.gcd A B) (b := 0) (by omega) (by omega) (fun c2 => And.intro (fun c3 => ?_) (fun c3 => ?_)) (fun c2 => absurd c2 (by omega))
      · have c3 : ¬ p = 0 := c3
        rw [if_neg c3] at hk
        exact And.intro (nI_ne0 (by omega) (by omega)) (nm_e hk)
      · have c3 : p = 0 := c3
        rw [if_pos c3] at hk
        exact And.intro (nI_ne0 (by omega) (by omega)) (nm_e hk)
theorem o_C110 {D : va_G} {cA : ClassId} {ad : Nat → Nat} {l : Launch} {R : Room} (hR : 1 + 1 ≤ R.frames ∧ 32 * (1 + 1) ≤ R.locals) : m_OK D cls cA 0 ad TB l "DegreeCores" R 110 true 3 tC_share :=
  m_okS c_C_share (by decide) tb_good w_C110 ⟨by decide +kernel, by decide +kernel, by decide +kernel⟩ (by decide) hR
theorem abs_n {A : Nat} (h : A < 2 ^ 31) : (if 0 ≤ nI A then nI A else 0 - nI A) = nI A := if_pos (nI_pos' h)
def aClu (n : Nat) (f : Nat → Nat) (x p : Int32) : Int32 := bif isN n x then (bif isP p then shr (nI (e1 n f (f x.toNatClampNeg))) (e1 n f (f x.toNatClampNeg)) (prs (pop (f x.toNatClampNeg))) p else -2) else -1
def tC_cluster : mT := fun as h k => ∃ n f x p, hC h n f ∧ as = [.inr 0, .inl x, .inl p] ∧ k (some (aClu n f x p)) h
set_option maxHeartbeats 4000000 in
set_option maxRecDepth 20000 in
theorem c_C_cluster : m_Con cls 0 TB y_C_cluster b_C_cluster 3 (some .int) 0 4 tC_cluster := by
  refine m_con (code := k_C_cluster) (fld := f_C) (fpt := p_C) (kon := []) (call := [(39, false, 2, tC_isNode), (101, true, 1, tC_isPart), (104, false, 2, tC_trianglesAt), (107, false, 2, tC_pairsAt), (110, true, 3, tC_share)]) (C := R_C) (T := T_C) (N := 7) (by decide) (Or.inl ⟨rfl, rfl⟩) ok_C_cluster tb_C (fun l D cA ad => m_calls ?_) ?_ ?_
  · exact List.forall_mem_cons.mpr ⟨o_C39 ⟨Nat.le_of_ble_eq_true rfl, Nat.le_of_ble_eq_true rfl⟩, List.forall_mem_cons.mpr ⟨o_C101 ⟨Nat.le_of_ble_eq_true rfl, Nat.le_of_ble_eq_true rfl⟩, List.forall_mem_cons.mpr ⟨o_C104 ⟨Nat.le_of_ble_eq_true rfl, Nat.le_of_ble_eq_true rfl⟩, List.forall_mem_cons.mpr ⟨o_C107 ⟨Nat.le_of_ble_eq_true rfl, Nat.le_of_ble_eq_true rfl⟩, List.forall_mem_cons.mpr ⟨o_C110 ⟨Nat.le_of_ble_eq_true rfl, Nat.le_of_ble_eq_true rfl⟩, fun _ h => absurd h List.not_mem_nil⟩⟩⟩⟩⟩
  · rintro as h k ⟨n, f, x, p, ⟨j, r, q, t, d, w, rfl, hj, hG⟩, rfl, hk⟩
    exact Nat.le_of_ble_eq_true rfl
  · rintro as h k ⟨n, f, x, p, ⟨j, r, q, t, d, w, rfl, hj, hG⟩, rfl, hk⟩ V hV
    have hh : hC (mkC j (nI n) r q t d w) n f := ⟨j, r, q, t, d, w, rfl, hj, hG⟩
    have hn := hG.1
    refine hV 60 0 _ _ _ ⟨n, f, x, hh, rfl, br_ne (fun c => ⟨p, rfl, br_ne (fun c2 => ?_) (fun c2 => ?_)⟩) (fun c => ?_)⟩
    · obtain ⟨v, hv, rfl⟩ := isN_t hn c
      rw [aClu, c, c2, clamp12 hv hn] at hk
      have h1 := e1_72 hG (f v)
      have h2 := prs_66 (pop (f v)) (by have := pop_le (hG.2.1 v hv) hn; omega)
      exact ⟨n, f, v, hh, rfl, hv, ⟨n, f, v, hh, rfl, hv, ⟨_, _, _, p, rfl, abs_n (by omega), by omega, by omega, hk⟩⟩⟩
    · rw [aClu, c, c2] at hk; exact hk
    · rw [aClu, c] at hk; exact hk
def pth (n : Nat) (f : Nat → Nat) : Nat := sm (fun v => prs (pop (f v))) n
theorem pth_le {n m : Nat} {f : Nat → Nat} (hG : Gr n f) (hm : m ≤ n) : pth m f ≤ 792 := by
  have hn := hG.1
  have := sm_bound (g := fun v => prs (pop (f v))) (n := m) (c := 66) (fun v hv => prs_66 _ (by have := pop_le (hG.2.1 v (by omega)) hn; omega))
  have h2 : m * 66 ≤ 792 := by omega
  exact Nat.le_trans this h2
def aClo (n : Nat) (f : Nat → Nat) (p : Int32) : Int32 := bif isP p then shr (nI (3 * tc n f)) (3 * tc n f) (pth n f) p else -2
def tC_closed : mT := fun as h k => ∃ n f p, hC h n f ∧ as = [.inr 0, .inl p] ∧ k (some (aClo n f p)) h
set_option maxHeartbeats 4000000 in
set_option maxRecDepth 20000 in
theorem c_C_closed : m_Con cls 0 TB y_C_closed b_C_closed 4 (some .int) 0 5 tC_closed := by
  refine m_con (code := k_C_closed) (fld := f_C) (fpt := p_C) (kon := []) (call := [(101, true, 1, tC_isPart), (107, false, 2, tC_pairsAt), (77, false, 1, tC_triangleCorners), (110, true, 3, tC_share)]) (C := R_C) (T := T_C) (N := 7) (by decide) (Or.inl ⟨rfl, rfl⟩) ok_C_closed tb_C (fun l D cA ad => m_calls ?_) ?_ ?_
  · exact List.forall_mem_cons.mpr ⟨o_C101 ⟨Nat.le_of_ble_eq_true rfl, Nat.le_of_ble_eq_true rfl⟩, List.forall_mem_cons.mpr ⟨o_C107 ⟨Nat.le_of_ble_eq_true rfl, Nat.le_of_ble_eq_true rfl⟩, List.forall_mem_cons.mpr ⟨o_C77 ⟨Nat.le_of_ble_eq_true rfl, Nat.le_of_ble_eq_true rfl⟩, List.forall_mem_cons.mpr ⟨o_C110 ⟨Nat.le_of_ble_eq_true rfl, Nat.le_of_ble_eq_true rfl⟩, fun _ h => absurd h List.not_mem_nil⟩⟩⟩⟩
  · rintro as h k ⟨n, f, p, ⟨j, r, q, t, d, w, rfl, hj, hG⟩, rfl, hk⟩
    exact Nat.le_of_ble_eq_true rfl
  · rintro as h k ⟨n, f, p, ⟨j, r, q, t, d, w, rfl, hj, hG⟩, rfl, hk⟩ V hV
    have hh : hC (mkC j (nI n) r q t d w) n f := ⟨j, r, q, t, d, w, rfl, hj, hG⟩
    have hn := hG.1
    refine hV 60 0 _ _ _ ⟨p, rfl, br_ne (fun c => ?_) (fun c => ?_)⟩
    · rw [aClo, c] at hk
      have loop : ∀ m v acc, v + m = n → acc = pth v f → V (14, [some (.inr 0), some (.inl p), some (.inl (nI acc)), some (.inl (nI v))], [], mkC j (nI n) r q t d w) := by
        intro m
        induction m with
        | zero =>
          intro v acc hv hacc
          have hvn : v = n := by omega
          subst hvn
          have h1 := tc_le hG
          have h2 := pth_le hG (Nat.le_refl v)
          refine hV 60 14 _ _ _ (br_ge (a := v) (b := v) (by omega) (by omega) (fun _ => ⟨v, f, hh, rfl, ⟨_, _, acc, p, rfl, abs_n (by omega), by omega, by omega, ?_⟩⟩) (fun c => absurd c (by omega)))
          rw [hacc]
          exact hk
        | succ m ih =>
          intro v acc hv hacc
          refine hV 60 14 _ _ _ (br_ge (a := v) (b := n) (by omega) (by omega) (fun c => absurd c (by omega)) (fun _ => ⟨n, f, v, hh, rfl, by omega, nm_r (nI_add _ _) (nm_r (nI_1 v) ?_)⟩))
          exact ih (v + 1) _ (by omega) (by rw [hacc]; rfl)
      exact loop n 0 0 (by omega) rfl
    · rw [aClo, c] at hk; exact hk
end
section
/-! the triangles in their order; trusses of the object -/
def crn (a b c x : Int32) : Int32 := if x = 0 then a else if x = 1 then b else if x = 2 then c else -2
def tC_corner : mT := fun as h k => ∃ a b c x, as = [.inl a, .inl b, .inl c, .inl x] ∧ k (some (crn a b c x)) h
set_option maxHeartbeats 4000000 in
theorem c_C_corner : m_Con cls 0 TB y_C_corner b_C_corner 4 (some .int) 0 0 tC_corner := by
  rintro l D cA ad sz as h k ⟨a, b, c, x, rfl, hk⟩
  refine Met.ofW (cc := b_C_corner) (maxL := 4) (ret := some .int) (by decide) rfl ?_
  intro p e s m args below meth cd s₁ B hml hv
  obtain ⟨rfl, hsz, hP, hK, hD0⟩ := hv
  have hx := B.exec
  have hb := B.bytes
  have hr := B.returns
  have hlocks := B.notSynchronized
  subst hsz
  have hD := hD0.self (sz := s.heap.size)
  generalize hAe : va_A (m_w 0 cA ad h) s.heap.size = A at hD ⊢
  have hS : va_S A s.heap s.heap [] := va_S.rf
  have hl := lv_entry ([.int a, .int b, .int c, .int x]) (n := 4) (Nat.le_of_ble_eq_true rfl)
  show W p l e _ s m _ below meth cd s.heap [] 0 0 _ (entryFrame m ([.int a, .int b, .int c, .int x] : List Value).toArray 4)
  rw [lg_entry_eq]
  generalize (lg_sl ([.int a, .int b, .int c, .int x]) ++ List.replicate (4 - (lg_sl ([.int a, .int b, .int c, .int x])).length) Slot.unset).toArray = ls at hl ⊢
  have hl : lv_has ls 4 [(0, .int a), (1, .int b), (2, .int c), (3, .int x)] := hl
  have fin : ∀ v : Int32, crn a b c x = v → ∀ pc, decode b_C_corner pc = .ok (.ireturn, 1) → W p l e (headSpec (Cond.code y_C_corner b_C_corner 4 (some .int) :: TB) (m_rm 0)).room s m (List.map (m_v ad) [Sum.inl a, Sum.inl b, Sum.inl c, Sum.inl x]).toArray below meth cd s.heap [] 0 0 (MQ below (m_Q D cls cA 0 ad 0 k A) (List.map (m_v ad) [Sum.inl a, Sum.inl b, Sum.inl c, Sum.inl x]).toArray s 0 0 A) (F0 m pc ls [.int v]) := by
    intro v hv pc hdg
    subst hv
    exact W.iret hx hb hr (fun t ht hW => ⟨⟨_, h, rfl, hk, by rw [ht]; exact hP, va_K.moved hW.alike hK, hD⟩, hS.F ht⟩) hS.2.2 hdg
  refine lv_iload_n hx hb (show decode b_C_corner 0 = .ok (.iload_n 3, 1) by decide +kernel) rfl (lv_at hl 3 rfl) ?_
  have hsw : decode b_C_corner 1 = .ok (.tableswitch 33 0 2 #[27, 29, 31], 27) := by decide +kernel
  have i0 : (0 : Int32).toInt = 0 := by decide
  have i1 : (1 : Int32).toInt = 1 := by decide
  have i2 : (2 : Int32).toInt = 2 := by decide
  by_cases h0 : x = 0
  · refine lv_tableIn (tgt := 28) hx hb hsw (by rw [h0, i0]; decide) (by rw [h0, i0]; decide) (off := 27) (by rw [h0, i0]; rfl) (by decide) ?_
    refine lv_iload_n hx hb (show decode b_C_corner 28 = .ok (.iload_n 0, 1) by decide +kernel) rfl (lv_at hl 0 rfl) ?_
    exact fin a (by rw [crn, if_pos h0]) 29 (by decide +kernel)
  · by_cases h1 : x = 1
    · refine lv_tableIn (tgt := 30) hx hb hsw (by rw [h1, i1]; decide) (by rw [h1, i1]; decide) (off := 29) (by rw [h1, i1]; rfl) (by decide) ?_
      refine lv_iload_n hx hb (show decode b_C_corner 30 = .ok (.iload_n 1, 1) by decide +kernel) rfl (lv_at hl 1 rfl) ?_
      exact fin b (by rw [crn, if_neg h0, if_pos h1]) 31 (by decide +kernel)
    · by_cases h2 : x = 2
      · refine lv_tableIn (tgt := 32) hx hb hsw (by rw [h2, i2]; decide) (by rw [h2, i2]; decide) (off := 31) (by rw [h2, i2]; rfl) (by decide) ?_
        refine lv_iload_n hx hb (show decode b_C_corner 32 = .ok (.iload_n 2, 1) by decide +kernel) rfl (lv_at hl 2 rfl) ?_
        exact fin c (by rw [crn, if_neg h0, if_neg h1, if_pos h2]) 33 (by decide +kernel)
      · refine lv_tableOut (tgt := 34) hx hb hsw ?_ (by decide) ?_
        · have z0 : x.toInt ≠ 0 := fun z => h0 (Int32.toInt_inj.mp (z.trans i0.symm))
          have z1 : x.toInt ≠ 1 := fun z => h1 (Int32.toInt_inj.mp (z.trans i1.symm))
          have z2 : x.toInt ≠ 2 := fun z => h2 (Int32.toInt_inj.mp (z.trans i2.symm))
          omega
        · refine lv_bipush (v := -2) hx hb (show decode b_C_corner 34 = .ok (.bipush (-2), 2) by decide +kernel) (by decide) ?_
          exact fin (-2) (by rw [crn, if_neg h0, if_neg h1, if_neg h2]) 36 (by decide +kernel)
theorem o_C84 {D : va_G} {cA : ClassId} {ad : Nat → Nat} {l : Launch} {R : Room} (hR : 0 + 1 ≤ R.frames ∧ 32 * (0 + 1) ≤ R.locals) : m_OK D cls cA 0 ad TB l "DegreeCores" R 84 true 4 tC_corner :=
  m_okS c_C_corner (by decide) tb_good w_C84 ⟨by decide +kernel, by decide +kernel, by decide +kernel⟩ (by decide) hR
-- the list of triangles
def tl3 (f : Nat → Nat) (a b : Nat) : Nat → Nat → List (Nat × Nat × Nat)
  | 0, _ => []
  | m + 1, c => bif tri f a b c then (a, b, c) :: tl3 f a b m (c + 1) else tl3 f a b m (c + 1)
def tl2 (f : Nat → Nat) (n a : Nat) : Nat → Nat → List (Nat × Nat × Nat)
  | 0, _ => []
  | m + 1, b => tl3 f a b (n - (b + 1)) (b + 1) ++ tl2 f n a m (b + 1)
def tl1 (f : Nat → Nat) (n : Nat) : Nat → Nat → List (Nat × Nat × Nat)
  | 0, _ => []
  | m + 1, a => tl2 f n a (n - (a + 1)) (a + 1) ++ tl1 f n m (a + 1)
def tls (n : Nat) (f : Nat → Nat) : List (Nat × Nat × Nat) := tl1 f n n 0
def fnd (x p : Int32) : Nat → List (Nat × Nat × Nat) → Int32
  | _, [] => -1
  | b, q :: t => if nI b = x then crn (nI q.1) (nI q.2.1) (nI q.2.2) p else fnd x p (b + 1) t
def tC_triangle : mT := fun as h k => ∃ n f x p, hC h n f ∧ as = [.inr 0, .inl x, .inl p] ∧ k (some (fnd x p 0 (tls n f))) h
set_option maxHeartbeats 4000000 in
set_option maxRecDepth 20000 in
theorem c_C_triangle : m_Con cls 0 TB y_C_triangle b_C_triangle 7 (some .int) 0 2 tC_triangle := by
  refine m_con (code := k_C_triangle) (fld := f_C) (fpt := p_C) (kon := []) (call := [(80, false, 4, tC_isTriangle), (84, true, 4, tC_corner)]) (C := R_C) (T := T_C) (N := 7) (by decide) (Or.inl ⟨rfl, rfl⟩) ok_C_triangle tb_C (fun l D cA ad => m_calls ?_) ?_ ?_
  · exact List.forall_mem_cons.mpr ⟨o_C80 ⟨Nat.le_of_ble_eq_true rfl, Nat.le_of_ble_eq_true rfl⟩, List.forall_mem_cons.mpr ⟨o_C84 ⟨Nat.le_of_ble_eq_true rfl, Nat.le_of_ble_eq_true rfl⟩, fun _ h => absurd h List.not_mem_nil⟩⟩
  · rintro as h k ⟨n, f, x, p, ⟨j, r, q, t, d, w, rfl, hj, hG⟩, rfl, hk⟩
    exact Nat.le_of_ble_eq_true rfl
  · rintro as h k ⟨n, f, x, p, ⟨j, r, q, t, d, w, rfl, hj, hG⟩, rfl, hk⟩ V hV
    have hh : hC (mkC j (nI n) r q t d w) n f := ⟨j, r, q, t, d, w, rfl, hj, hG⟩
    have hn := hG.1
    generalize hans : fnd x p 0 (tls n f) = ans at hk
    have l3 : ∀ m a b c bef rest, a < n → b < n → c + m = n → (∀ bef' (z : Option mV), fnd x p bef' rest = ans → V (20, [some (.inr 0), some (.inl x), some (.inl p), some (.inl (nI bef')), some (.inl (nI a)), some (.inl (nI (b + 1))), z], [], mkC j (nI n) r q t d w)) → fnd x p bef (tl3 f a b m c ++ rest) = ans → V (35, [some (.inr 0), some (.inl x), some (.inl p), some (.inl (nI bef)), some (.inl (nI a)), some (.inl (nI b)), some (.inl (nI c))], [], mkC j (nI n) r q t d w) := by
      intro m
      induction m with
      | zero =>
        intro a b c bef rest ha hb hc hcont he
        exact hV 60 35 _ _ _ (br_ge (a := c) (b := n) (by omega) (by omega) (fun _ => nm_r (nI_1 b) (hcont bef _ he)) (fun c => absurd c (by omega)))
      | succ m ih =>
        intro a b c bef rest ha hb hc hcont he
        refine hV 60 35 _ _ _ (br_ge (a := c) (b := n) (by omega) (by omega) (fun c => absurd c (by omega)) (fun _ => ⟨n, f, a, b, c, hh, rfl, ha, hb, by omega, br_ne (fun c1 => ?_) (fun c1 => nm_r (nI_1 c) ?_)⟩))
        · rw [tl3, c1] at he
          have he : (if nI bef = x then crn (nI a) (nI b) (nI c) p else fnd x p (bef + 1) (tl3 f a b m (c + 1) ++ rest)) = ans := he
          refine And.intro (fun c2 => nm_r (nI_1 bef) (nm_r (nI_1 c) ?_)) (fun c2 => ?_)
          · have c2 : ¬ nI bef = x := c2
            rw [if_neg c2] at he
            exact ih a b (c + 1) (bef + 1) rest ha hb (by omega) hcont he
          · have c2 : nI bef = x := c2
            rw [if_pos c2] at he
            rw [← he] at hk
            exact ⟨_, _, _, _, rfl, hk⟩
        · rw [tl3, c1] at he
          exact ih a b (c + 1) bef rest ha hb (by omega) hcont he
    have l2 : ∀ m a b bef rest (z : Option mV), a < n → b + m = n → (∀ bef' (y z : Option mV), fnd x p bef' rest = ans → V (5, [some (.inr 0), some (.inl x), some (.inl p), some (.inl (nI bef')), some (.inl (nI (a + 1))), y, z], [], mkC j (nI n) r q t d w)) → fnd x p bef (tl2 f n a m b ++ rest) = ans → V (20, [some (.inr 0), some (.inl x), some (.inl p), some (.inl (nI bef)), some (.inl (nI a)), some (.inl (nI b)), z], [], mkC j (nI n) r q t d w) := by
      intro m
      induction m with
      | zero =>
        intro a b bef rest z ha hb hcont he
        exact hV 60 20 _ _ _ (br_ge (a := b) (b := n) (by omega) (by omega) (fun _ => nm_r (nI_1 a) (hcont bef _ _ he)) (fun c => absurd c (by omega)))
      | succ m ih =>
        intro a b bef rest z ha hb hcont he
        refine hV 60 20 _ _ _ (br_ge (a := b) (b := n) (by omega) (by omega) (fun c => absurd c (by omega)) (fun _ => nm_r (nI_1 b) ?_))
        rw [tl2, List.append_assoc] at he
        exact l3 (n - (b + 1)) a b (b + 1) bef _ ha (by omega) (by omega) (fun bef' z' he' => ih a (b + 1) bef' rest z' ha (by omega) hcont he') he
    have l1 : ∀ m a bef (y z : Option mV), a + m = n → fnd x p bef (tl1 f n m a) = ans → V (5, [some (.inr 0), some (.inl x), some (.inl p), some (.inl (nI bef)), some (.inl (nI a)), y, z], [], mkC j (nI n) r q t d w) := by
      intro m
      induction m with
      | zero =>
        intro a bef y z ha he
        have he : (-1 : Int32) = ans := he
        refine hV 60 5 _ _ _ (br_ge (a := a) (b := n) (by omega) (by omega) (fun _ => ?_) (fun c => absurd c (by omega)))
        rw [← he] at hk
        exact hk
      | succ m ih =>
        intro a bef y z ha he
        refine hV 60 5 _ _ _ (br_ge (a := a) (b := n) (by omega) (by omega) (fun c => absurd c (by omega)) (fun _ => nm_r (nI_1 a) ?_))
        rw [tl1] at he
        exact l2 (n - (a + 1)) a (a + 1) bef _ z (by omega) (by omega) (fun bef' y' z' he' => ih (a + 1) bef' y' z' (by omega) he') he
    exact hV 60 0 _ _ _ (l1 n 0 0 none none (by omega) hans)
/-- of the rows that the object shrinks -/
def hT (h : mH) (j : Nat → Int32) (n : Nat) (r : Nat → Int32) (q : Int32) (d w : Nat → Int32) (τ : Nat → Nat) : Prop := ∃ t, h = mkC j (nI n) r q t d w ∧ ∀ v, v < n → t v = nI (τ v)
def tC_dropEdgesBelow : mT := fun as h k => ∃ j n f r q t d w τ s, h = mkC j (nI n) r q t d w ∧ (∀ v, v < n → t v = nI (τ v)) ∧ Gr n f ∧ topT n f s τ ∧ s ≤ 12 ∧ as = [.inr 0, .inl (nI s)] ∧
  ∀ h' τ' b, hT h' j n r q d w τ' → topT n f s τ' → (b = false → clT n s τ') → (b = true → mt n τ' + 2 ≤ mt n τ) → k (some (b2i b)) h'
theorem rmE_upd {t : Nat → Int32} {τ : Nat → Nat} {n a b : Nat} (ht : ∀ v, v < n → t v = nI (τ v)) (hab : a ≠ b) : ∀ v, v < n → upd (upd t a (nI (sd (τ a) (2 ^ b)))) b (nI (sd (τ b) (2 ^ a))) v = nI (rmE τ a b v) := by
  intro v hv
  unfold rmE
  by_cases h1 : v = a
  · subst h1
    rw [upd_n hab, upd_u, if_pos rfl]
  · rw [if_neg h1]
    by_cases h2 : v = b
    · subst h2
      rw [upd_u, if_pos rfl]
    · rw [upd_n h2, upd_n h1, if_neg h2, ht v hv]
set_option maxHeartbeats 4000000 in
set_option maxRecDepth 20000 in
theorem c_C_dropEdgesBelow : m_Con cls 0 TB y_C_dropEdgesBelow b_C_dropEdgesBelow 5 (some .boolean) 1 1 tC_dropEdgesBelow := by
  refine m_con (code := k_C_dropEdgesBelow) (fld := f_C) (fpt := p_C) (kon := []) (call := [(36, true, 2, tC_has), (43, true, 1, t_bitCount)]) (C := R_C) (T := T_C) (N := 7) (by decide) (Or.inr (Or.inl ⟨rfl, rfl⟩)) ok_C_dropEdgesBelow tb_C (fun l D cA ad => m_calls ?_) ?_ ?_
  · exact List.forall_mem_cons.mpr ⟨o_C36 ⟨Nat.le_of_ble_eq_true rfl, Nat.le_of_ble_eq_true rfl⟩, List.forall_mem_cons.mpr ⟨o_C43 ⟨Nat.le_of_ble_eq_true rfl, Nat.le_of_ble_eq_true rfl⟩, fun _ h => absurd h List.not_mem_nil⟩⟩
  · rintro as h k ⟨j, n, f, r, q, t, d, w, τ0, s, rfl, ht, hG, htop, hs12, rfl, hk⟩
    exact Nat.le_of_ble_eq_true rfl
  · rintro as h k ⟨j, n, f, r, q, t, d, w, τ0, s, rfl, ht, hG, htop, hs12, rfl, hk⟩ V hV
    have hn := hG.1
    have fl : ∀ (τ : Nat → Nat), Fam n f τ → ∀ v, v < n → τ v < 4096 := fun τ hF v hv => Nat.lt_of_lt_of_le (fam_lt hG hF hv) (p12 hn)
    have inner : ∀ m a b t τ dr, a < n → a < b → b + m = n → (∀ v, v < n → t v = nI (τ v)) → topT n f s τ →
        (dr = false → mt n τ = mt n τ0 ∧ ∀ a' b', a' < b' → b' < n → (a' < a ∨ (a' = a ∧ b' < b)) → (τ a').testBit b' = true → s ≤ pop (τ a' &&& τ b')) → (dr = true → mt n τ + 2 ≤ mt n τ0) →
        (∀ t τ dr (z : Option mV), (∀ v, v < n → t v = nI (τ v)) → topT n f s τ → (dr = false → mt n τ = mt n τ0 ∧ ∀ a' b', a' < b' → b' < n → a' < a + 1 → (τ a').testBit b' = true → s ≤ pop (τ a' &&& τ b')) → (dr = true → mt n τ + 2 ≤ mt n τ0) → V (4, [some (.inr 0), some (.inl (nI s)), some (.inl (b2i dr)), some (.inl (nI (a + 1))), z], [], mkC j (nI n) r q t d w)) →
        V (17, [some (.inr 0), some (.inl (nI s)), some (.inl (b2i dr)), some (.inl (nI a)), some (.inl (nI b))], [], mkC j (nI n) r q t d w) := by
      intro m
      induction m with
      | zero =>
        intro a b t τ dr ha hab hb ht htop h1 h2 hcont
        refine hV 80 17 _ _ _ (br_ge (a := b) (b := n) (by omega) (by omega) (fun _ => nm_r (nI_1 a) (hcont t τ dr _ ht htop (fun e => ⟨(h1 e).1, fun a' b' x1 x2 x3 => (h1 e).2 a' b' x1 x2 (by omega)⟩) h2)) (fun c => absurd c (by omega)))
      | succ m ih =>
        intro a b t τ dr ha hab hb ht htop h1 h2 hcont
        have ga := fl τ htop.1 a ha
        have gb := fl τ htop.1 b (by omega)
        have ea := clamp12 ha hn
        have eb := clamp12 (v := b) (n := n) (by omega) hn
        refine hV 80 17 _ _ _ (br_ge (a := b) (b := n) (by omega) (by omega) (fun c => absurd c (by omega)) (fun _ => And.intro (vp_in_nI (by omega) (by omega)) (nm_r (e' := nI (τ a)) (by rw [ea, ht a ha]) ⟨τ a, b, rfl, by omega, by omega, br_eq (fun c => nm_r (nI_1 b) ?_) (fun c => ?_)⟩)))
        · exact ih a (b + 1) t τ dr ha (by omega) (by omega) ht htop (fun e => ⟨(h1 e).1, fun a' b' x1 x2 x3 hz => by
            by_cases hq : a' = a ∧ b' = b
            · rw [hq.1, hq.2, c] at hz; cases hz
            · exact (h1 e).2 a' b' x1 x2 (by omega) hz⟩) h2 hcont
        · refine And.intro (vp_in_nI (by omega) (by omega)) (nm_r (e' := nI (τ a)) (by rw [ea, ht a ha]) (And.intro (vp_in_nI (by omega) (by omega)) (nm_r (e' := nI (τ b)) (by rw [eb, ht b (by omega)]) (nm_r (nx_and _ _) ⟨_, rfl, ?_⟩))))
          have hlt : τ a &&& τ b < 4096 := Nat.lt_of_le_of_lt Nat.and_le_left ga
          have hp12 : pop (τ a &&& τ b) ≤ 12 := pop_le (n := 12) hlt (by omega)
          rw [bc_n hlt]
          refine br_ge (a := pop (τ a &&& τ b)) (b := s) (by omega) (by omega) (fun c2 => nm_r (nI_1 b) ?_) (fun c2 => ?_)
          · exact ih a (b + 1) t τ dr ha (by omega) (by omega) ht htop (fun e => ⟨(h1 e).1, fun a' b' x1 x2 x3 hz => by
              by_cases hq : a' = a ∧ b' = b
              · rw [hq.1, hq.2]; exact c2
              · exact (h1 e).2 a' b' x1 x2 (by omega) hz⟩) h2 hcont
          · have hne : a ≠ b := by omega
            refine And.intro (vp_in_nI (by omega) (by omega)) (nm_r (e' := nI (τ a)) (by rw [ea, ht a ha]) (nm_r (nx_shl b (by omega)) (nm_e (nm_r (nx_sd _ _) (And.intro (vp_in_nI (by omega) (by omega)) ?_)))))
            refine And.intro (vp_in_nI (by omega) (by omega)) (nm_r (e' := nI (τ b)) (by rw [ea, eb, upd_n (fun z => hne z.symm), ht b (by omega)]) (nm_r (nx_shl a (by omega)) (nm_e (nm_r (nx_sd _ _) (And.intro (vp_in_nI (by omega) (by omega)) (nm_r (nI_1 b) ?_))))))
            have hmt := mt_rm hG htop.1 ha (by omega : b < n) hne c
            have hle : mt n τ ≤ mt n τ0 := by
              cases dr with
              | false => exact Nat.le_of_eq (h1 rfl).1
              | true => have := h2 rfl; omega
            have := ih a (b + 1) _ (rmE τ a b) true ha (by omega) (by omega) (rmE_upd ht hne) (top_rm hG htop ha (by omega) hne c2) (fun e => by cases e) (fun _ => by omega) hcont
            rw [← ea, ← eb] at this
            rw [ea, eb] at this
            show V (17, [some (.inr 0), some (.inl (nI s)), some (.inl (b2i true)), some (.inl (nI a)), some (.inl (nI (b + 1)))], [], mkC j (nI n) r q (upd (upd t (nI a).toNatClampNeg (nI (sd (τ a) (2 ^ b)))) (nI b).toNatClampNeg (nI (sd (τ b) (2 ^ a)))) d w)
            rw [ea, eb]
            exact this
    have outer : ∀ m a t τ dr (z : Option mV), a + m = n → (∀ v, v < n → t v = nI (τ v)) → topT n f s τ → (dr = false → mt n τ = mt n τ0 ∧ ∀ a' b', a' < b' → b' < n → a' < a → (τ a').testBit b' = true → s ≤ pop (τ a' &&& τ b')) → (dr = true → mt n τ + 2 ≤ mt n τ0) →
        V (4, [some (.inr 0), some (.inl (nI s)), some (.inl (b2i dr)), some (.inl (nI a)), z], [], mkC j (nI n) r q t d w) := by
      intro m
      induction m with
      | zero =>
        intro a t τ dr z ha ht htop h1 h2
        refine hV 80 4 _ _ _ (br_ge (a := a) (b := n) (by omega) (by omega) (fun _ => And.intro (b2i_01 dr) ?_) (fun c => absurd c (by omega)))
        refine hk _ τ dr ⟨t, rfl, ht⟩ htop (fun e => ?_) h2
        intro a' b' ha' hb' hz
        rcases Nat.lt_trichotomy a' b' with hl | hl | hl
        · exact (h1 e).2 a' b' hl hb' (by omega) hz
        · subst hl
          have := htop.1.1 a' ha' a' hz
          rw [hG.2.2.1 a' ha'] at this
          cases this
        · have h3 := (h1 e).2 b' a' hl ha' (by omega) (by rw [htop.1.2 b' a' hb' ha']; exact hz)
          rw [Nat.and_comm]
          exact h3
      | succ m ih =>
        intro a t τ dr z ha ht htop h1 h2
        refine hV 80 4 _ _ _ (br_ge (a := a) (b := n) (by omega) (by omega) (fun c => absurd c (by omega)) (fun _ => nm_r (nI_1 a) ?_))
        exact inner (n - (a + 1)) a (a + 1) t τ dr (by omega) (by omega) (by omega) ht htop (fun e => ⟨(h1 e).1, fun a' b' x1 x2 x3 => (h1 e).2 a' b' x1 x2 (by omega)⟩) h2 (fun t τ dr z ht htop h1 h2 => ih (a + 1) t τ dr z (by omega) ht htop h1 h2)
    exact hV 80 0 _ _ _ (outer n 0 t τ0 false none (by omega) ht htop (fun _ => ⟨rfl, fun a' b' _ _ x => by omega⟩) (fun e => by cases e))
theorem o_C120 {D : va_G} {cA : ClassId} {ad : Nat → Nat} {l : Launch} {R : Room} (hR : 1 + 1 ≤ R.frames ∧ 32 * (1 + 1) ≤ R.locals) : m_OK D cls cA 0 ad TB l "DegreeCores" R 120 false (1 + 1) tC_dropEdgesBelow :=
  m_okV (C := R_C) (Tu := T_C) (N := 7) rfl c_C_dropEdgesBelow (by decide) tb_good w_C120 ⟨rfl, by decide +kernel, by decide +kernel, by decide +kernel⟩ (by decide) hR (by rintro as h k ⟨j, n, f, r, q, t, d, w, τ0, s, rfl, ht, hG, htop, hs12, rfl, hk⟩; exact ⟨0, _, _, rfl, rfl⟩)
def tC_shrinkToTruss : mT := fun as h k => ∃ j n f r q t d w τ s, h = mkC j (nI n) r q t d w ∧ (∀ v, v < n → t v = nI (τ v)) ∧ Gr n f ∧ topT n f s τ ∧ s ≤ 12 ∧ as = [.inr 0, .inl (nI (s + 2))] ∧
  ∀ h' τ', hT h' j n r q d w τ' → isTr n f s τ' → k none h'
theorem nn_132 : ∀ n, n ≤ 12 → n * (n - 1) ≤ 132 := by decide
set_option maxHeartbeats 4000000 in
set_option maxRecDepth 20000 in
theorem c_C_shrinkToTruss : m_Con cls 0 TB y_C_shrinkToTruss b_C_shrinkToTruss 4 (none) 2 2 tC_shrinkToTruss := by
  refine m_con (code := k_C_shrinkToTruss) (fld := f_C) (fpt := p_C) (kon := []) (call := [(120, false, 2, tC_dropEdgesBelow)]) (C := R_C) (T := T_C) (N := 7) (by decide) (Or.inr (Or.inr ⟨rfl, rfl⟩)) ok_C_shrinkToTruss tb_C (fun l D cA ad => m_calls ?_) ?_ ?_
  · exact List.forall_mem_cons.mpr ⟨o_C120 ⟨Nat.le_of_ble_eq_true rfl, Nat.le_of_ble_eq_true rfl⟩, fun _ h => absurd h List.not_mem_nil⟩
  · rintro as h k ⟨j, n, f, r, q, t, d, w, τ0, s, rfl, ht, hG, htop, hs12, rfl, hk⟩
    exact Nat.le_of_ble_eq_true rfl
  · rintro as h k ⟨j, n, f, r, q, t, d, w, τ0, s, rfl, ht, hG, htop, hs12, rfl, hk⟩ V hV
    have hn := hG.1
    have h132 := nn_132 n hn
    have loop : ∀ m i t τ dr, i + m = 66 → (∀ v, v < n → t v = nI (τ v)) → topT n f s τ → (dr = false → clT n s τ) → (dr = true → mt n τ + 2 * i ≤ 132) → V (4, [some (.inr 0), some (.inl (nI (s + 2))), some (.inl (b2i dr)), some (.inl (nI i))], [], mkC j (nI n) r q t d w) := by
      intro m
      induction m with
      | zero =>
        intro i t τ dr hi ht htop h1 h2
        refine hV 80 4 _ _ _ (br_eq (fun c => hk _ τ ⟨t, rfl, ht⟩ ⟨htop, h1 c⟩) (fun c => br_ge (a := i) (b := 66) (by omega) (by omega) (fun _ => ?_) (fun c => absurd c (by omega))))
        have := h2 c
        exact hk _ τ ⟨t, rfl, ht⟩ ⟨htop, mt_0 hG htop.1 (by omega) s⟩
      | succ m ih =>
        intro i t τ dr hi ht htop h1 h2
        refine hV 80 4 _ _ _ (br_eq (fun c => hk _ τ ⟨t, rfl, ht⟩ ⟨htop, h1 c⟩) (fun c => br_ge (a := i) (b := 66) (by omega) (by omega) (fun c => absurd c (by omega)) (fun _ => nm_r (e' := nI s) ?_ ⟨j, n, f, r, q, t, d, w, τ, s, rfl, ht, hG, htop, hs12, rfl, ?_⟩)))
        · have := pk_sub (a := s + 2) (b := 2) (by omega)
          exact this
        · rintro h' τ' b ⟨t', rfl, ht'⟩ htop' g1 g2
          refine nm_r (nI_1 i) ?_
          exact ih (i + 1) t' τ' b (by omega) ht' htop' g1 (fun e => by have := g2 e; have := h2 c; omega)
    exact hV 80 0 _ _ _ (loop 66 0 t τ0 true (by omega) ht htop (fun e => by cases e) (fun _ => by have := mt_le hG htop.1; omega))
theorem o_C97 {D : va_G} {cA : ClassId} {ad : Nat → Nat} {l : Launch} {R : Room} (hR : 2 + 1 ≤ R.frames ∧ 32 * (2 + 1) ≤ R.locals) : m_OK D cls cA 0 ad TB l "DegreeCores" R 97 false (1 + 1) tC_shrinkToTruss :=
  m_okV (C := R_C) (Tu := T_C) (N := 7) rfl c_C_shrinkToTruss (by decide) tb_good w_C97 ⟨rfl, by decide +kernel, by decide +kernel, by decide +kernel⟩ (by decide) hR (by rintro as h k ⟨j, n, f, r, q, t, d, w, τ0, s, rfl, ht, hG, htop, hs12, rfl, hk⟩; exact ⟨0, _, _, rfl, rfl⟩)
def aTr (n : Nat) (f : Nat → Nat) (x y r : Int32) : Prop := (edg n f x y = false ∧ r = -1) ∨ ∃ u v c, u < n ∧ v < n ∧ x = nI u ∧ y = nI v ∧ edg n f x y = true ∧ isTN n f u v c ∧ r = nI c
def tC_truss : mT := fun as h k => ∃ j n f r q t d w x y, h = mkC j (nI n) r q t d w ∧ (∀ v, v < n → j v = nI (f v)) ∧ Gr n f ∧ as = [.inr 0, .inl x, .inl y] ∧ ∀ t' rr, aTr n f x y rr → k (some rr) (mkC j (nI n) r q t' d w)
set_option maxHeartbeats 4000000 in
set_option maxRecDepth 20000 in
theorem c_C_truss : m_Con cls 0 TB y_C_truss b_C_truss 5 (some .int) 0 3 tC_truss := by
  refine m_con (code := k_C_truss) (fld := f_C) (fpt := p_C) (kon := []) (call := [(88, false, 3, tC_isEdge), (91, true, 5, t_copy), (97, false, 2, tC_shrinkToTruss), (36, true, 2, tC_has)]) (C := R_C) (T := T_C) (N := 7) (by decide) (Or.inl ⟨rfl, rfl⟩) ok_C_truss tb_C (fun l D cA ad => m_calls ?_) ?_ ?_
  · exact List.forall_mem_cons.mpr ⟨o_C88 ⟨Nat.le_of_ble_eq_true rfl, Nat.le_of_ble_eq_true rfl⟩, List.forall_mem_cons.mpr ⟨o_C91 ⟨Nat.le_of_ble_eq_true rfl, Nat.le_of_ble_eq_true rfl⟩, List.forall_mem_cons.mpr ⟨o_C97 ⟨Nat.le_of_ble_eq_true rfl, Nat.le_of_ble_eq_true rfl⟩, List.forall_mem_cons.mpr ⟨o_C36 ⟨Nat.le_of_ble_eq_true rfl, Nat.le_of_ble_eq_true rfl⟩, fun _ h => absurd h List.not_mem_nil⟩⟩⟩⟩
  · rintro as h k ⟨j, n, f, r, q, t, d, w, x, y, rfl, hj, hG, rfl, hk⟩
    exact Nat.le_of_ble_eq_true rfl
  · rintro as h k ⟨j, n, f, r, q, t, d, w, x, y, rfl, hj, hG, rfl, hk⟩ V hV
    have hh : hC (mkC j (nI n) r q t d w) n f := ⟨j, r, q, t, d, w, rfl, hj, hG⟩
    have hn := hG.1
    refine hV 80 0 _ _ _ ⟨n, f, x, y, hh, rfl, br_ne (fun c => ?_) (fun c => hk t _ (Or.inl ⟨c, rfl⟩))⟩
    obtain ⟨u, v, hu, hv, huv, rfl, rfl, hb⟩ := edg_t hn c
    have loop : ∀ m s t τ, s + 2 + m = n → (∀ v, v < n → t v = nI (τ v)) → topT n f (s + 1) τ → (0 < s → mem n f s u v) → V (33, [some (.inr 0), some (.inl (nI u)), some (.inl (nI v)), some (.inl (nI (s + 2))), some (.inl (nI (s + 3)))], [], mkC j (nI n) r q t d w) := by
      intro m
      induction m with
      | zero =>
        intro s t τ hs ht htop hm
        refine hV 80 33 _ _ _ (br_gt (a := s + 3) (b := n) (by omega) (by omega) (fun _ => ?_) (fun c => absurd c (by omega)))
        refine hk t _ (Or.inr ⟨u, v, s + 2, hu, hv, rfl, rfl, c, ⟨by omega, fun h => hm (by omega), fun h => ?_⟩, rfl⟩)
        have := mem_n hG hu hv h
        omega
      | succ m ih =>
        intro s t τ hs ht htop hm
        refine hV 80 33 _ _ _ (br_gt (a := s + 3) (b := n) (by omega) (by omega) (fun c => absurd c (by omega)) (fun _ => ⟨j, n, f, r, q, t, d, w, τ, s + 1, rfl, ht, hG, htop, by omega, rfl, ?_⟩))
        rintro h' τ' ⟨t', rfl, ht'⟩ htr
        have gu : τ' u < 4096 := Nat.lt_of_lt_of_le (fam_lt hG htr.1.1 hu) (p12 hn)
        refine And.intro (vp_in_nI (by omega) (by omega)) (nm_r (e' := nI (τ' u)) (by rw [clamp12 hu hn, ht' u hu]) ⟨τ' u, v, rfl, by omega, by omega, br_ne (fun c2 => nm_r (nI_1 (s + 3)) ?_) (fun c2 => ?_)⟩)
        · exact ih (s + 1) t' τ' (by omega) ht' (top_s htr.1) (fun _ => (tr_mem htr hu).mp c2)
        · refine hk t' _ (Or.inr ⟨u, v, s + 2, hu, hv, rfl, rfl, c, ⟨by omega, fun h => hm (by omega), fun h => ?_⟩, rfl⟩)
          rw [(tr_mem htr hu).mpr h] at c2
          cases c2
    refine ⟨1, 3, 12, 12, n, j, t, rfl, rfl, rfl, by omega, by omega, by omega, ?_⟩
    refine loop (n - 2) 0 _ f (by omega) (fun v hv => ?_) (top_f hG 1) (fun h => by omega)
    rw [pk_cpy_in (Nat.zero_le v) (by omega), Nat.zero_add, Nat.sub_zero, hj v hv]
end
section
/-! the densest, firmness, the sets that few edges can't part: of the object -/
theorem nI_addneg (a d : Nat) : nI (a + d) + -(nI d) = nI a := by
  rw [← Int32.sub_eq_add_neg, pk_sub (by omega)]
  congr 1
  omega
theorem nI_mix {a b c d : Nat} (h : a + b = d + c) : nI a + (nI b - nI c) = nI d := by
  have e : nI a + (nI b - nI c) = nI a + nI b - nI c := by
    rw [Int32.sub_eq_add_neg, Int32.sub_eq_add_neg, Int32.add_assoc]
  rw [e, nI_add, h, pk_sub (by omega)]
  congr 1
  omega
def dn (e s oe os : Nat) : Bool := decide (oe * s < e * os) || (decide (e * os = oe * s) && decide (os < s))
def tC_isDenser : mT := fun as h k => ∃ e s oe os, as = [.inl (nI e), .inl (nI s), .inl (nI oe), .inl (nI os)] ∧ e ≤ 100 ∧ s ≤ 100 ∧ oe ≤ 100 ∧ os ≤ 100 ∧ k (some (b2i (dn e s oe os))) h
theorem mul_100 {a b : Nat} (ha : a ≤ 100) (hb : b ≤ 100) : a * b ≤ 10000 := Nat.mul_le_mul ha hb
set_option maxHeartbeats 4000000 in
set_option maxRecDepth 20000 in
theorem c_C_isDenser : m_Con cls 0 TB y_C_isDenser b_C_isDenser 6 (some .boolean) 1 0 tC_isDenser := by
  refine m_con (code := k_C_isDenser) (fld := f_C) (fpt := p_C) (kon := []) (call := []) (C := R_C) (T := T_C) (N := 7) (by decide) (Or.inr (Or.inl ⟨rfl, rfl⟩)) ok_C_isDenser tb_C (fun l D cA ad => m_calls ?_) ?_ ?_
  · exact fun _ h => absurd h List.not_mem_nil
  · rintro as h k ⟨e, s, oe, os, rfl, h1, h2, h3, h4, hk⟩
    exact Nat.le_of_ble_eq_true rfl
  · rintro as h k ⟨e, s, oe, os, rfl, h1, h2, h3, h4, hk⟩ V hV
    have m1 := mul_100 h1 h4
    have m2 := mul_100 h3 h2
    refine hV 60 0 _ _ _ (nm_r (pk_mul _ _) (nm_r (pk_mul _ _) (br_gt (a := e * os) (b := oe * s) (by omega) (by omega) (fun c => And.intro (Or.inr rfl) ?_) (fun c => br_n (a := e * os) (b := oe * s) (by omega) (by omega) (fun c2 => And.intro (Or.inl rfl) ?_) (fun c2 => br_le (a := s) (b := os) (by omega) (by omega) (fun c3 => And.intro (Or.inl rfl) ?_) (fun c3 => And.intro (Or.inr rfl) ?_))))))
    · have e : dn e s oe os = true := by simp [dn, c]
      rw [e] at hk; exact hk
    · have e : dn e s oe os = false := by simp [dn, Nat.not_lt.mpr c, c2]
      rw [e] at hk; exact hk
    · have e : dn e s oe os = false := by simp [dn, Nat.not_lt.mpr c, Nat.not_lt.mpr c3]
      rw [e] at hk; exact hk
    · have e : dn e s oe os = true := by simp [dn, c2, c3]
      rw [e] at hk; exact hk
theorem o_C135 {D : va_G} {cA : ClassId} {ad : Nat → Nat} {l : Launch} {R : Room} (hR : 0 + 1 ≤ R.frames ∧ 32 * (0 + 1) ≤ R.locals) : m_OK D cls cA 0 ad TB l "DegreeCores" R 135 true 4 tC_isDenser :=
  m_okS c_C_isDenser (by decide) tb_good w_C135 ⟨by decide +kernel, by decide +kernel, by decide +kernel⟩ (by decide) hR
def tC_densestBits : mT := fun as h k => ∃ n f, hC h n f ∧ as = [.inr 0] ∧ ∀ S, (n = 0 → S = 0) → (0 < n → isDen n f S) → k (some (nI S)) h
theorem gray_s {s : Nat} (h : s + 1 < 4096) : gray (s + 1) = tg (gray s) (lsb (s + 1)) := by
  rcases (gray_at h).1 with h1 | ⟨h1, -⟩
  · omega
  · exact h1
theorem tb_of_lt {S n i : Nat} (h : S < 2 ^ n) (hb : S.testBit i = true) : i < n := by
  rcases Nat.lt_or_ge i n with h1 | h1
  · exact h1
  · rw [tb_hi h h1] at hb; cases hb
def k2_C_densestBits : List (Nat × mE) := [(0, .iconst 0, 1, 0, 0, false), (1, .istore_n 1, 2, 0, 0, false), (2, .iconst 0, 3, 0, 0, false), (3, .istore_n 2, 4, 0, 0, false), (4, .iconst 0, 5, 0, 0, false), (5, .istore_n 3, 6, 0, 0, false), (6, .iconst 0, 7, 0, 0, false), (7, .istore 4, 9, 0, 0, false), (9, .iconst 1, 10, 0, 1, false), (10, .aload_n 0, 11, 0, 0, false), (11, .getfield 25, 14, 0, 0, false), (14, .ishl, 15, 0, 0, false), (15, .istore 5, 17, 0, 0, false), (17, .iconst 1, 18, 0, 1, false), (18, .istore 6, 20, 0, 0, false), (20, .iload 6, 22, 0, 0, true), (22, .iload 5, 24, 0, 0, false), (24, .if_icmp .ge 77, 27, 101, 0, false), (27, .iload 6, 29, 0, 0, false), (29, .invokestatic 66, 32, 0, 0, false), (32, .istore 7, 34, 0, 0, false), (34, .iload 4, 36, 0, 0, false), (36, .iload_n 3, 37, 0, 0, false), (37, .iload 7, 39, 0, 0, false), (39, .invokestatic 36, 42, 0, 0, false), (42, .ifCond .eq 14, 45, 56, 0, false), (45, .aload_n 0, 46, 0, 0, false), (46, .iload_n 3, 47, 0, 0, false), (47, .iload 7, 49, 0, 0, false), (49, .invokevirtual 49, 52, 0, 0, false), (52, .ineg, 53, 0, 0, false), (53, .goto 10, 56, 63, 0, false), (56, .aload_n 0, 57, 0, 0, false), (57, .iload_n 3, 58, 0, 0, false), (58, .iload 7, 60, 0, 0, false), (60, .invokevirtual 49, 63, 0, 0, false), (63, .iadd, 64, 0, 0, false), (64, .istore 4, 66, 0, 0, false), (66, .iload_n 3, 67, 0, 0, true), (67, .iconst 1, 68, 0, 1, false), (68, .iload 7, 70, 0, 0, false), (70, .ishl, 71, 0, 0, false), (71, .ixor, 72, 0, 0, false), (72, .istore_n 3, 73, 0, 0, false), (73, .iload 4, 75, 0, 0, false), (75, .iload_n 3, 76, 0, 0, false), (76, .invokestatic 43, 79, 0, 0, false), (79, .iload_n 2, 80, 0, 0, false), (80, .iload_n 1, 81, 0, 0, false), (81, .invokestatic 43, 84, 0, 0, false), (84, .invokestatic 135, 87, 0, 0, false), (87, .ifCond .eq 8, 90, 95, 0, false), (90, .iload_n 3, 91, 0, 0, false), (91, .istore_n 1, 92, 0, 0, false), (92, .iload 4, 94, 0, 0, false), (94, .istore_n 2, 95, 0, 0, false), (95, .iinc 6 1, 98, 0, 1, false), (98, .goto (-78), 101, 20, 0, false), (101, .iload_n 1, 102, 0, 0, false), (102, .ireturn, 103, 0, 0, false)]
theorem ok2_C_densestBits : k2_C_densestBits.all (m_ok b_C_densestBits 8) = true := by decide +kernel
set_option maxHeartbeats 4000000 in
set_option maxRecDepth 20000 in
theorem c_C_densestBits : m_Con cls 0 TB y_C_densestBits b_C_densestBits 8 (some .int) 0 2 tC_densestBits := by
  refine m_con (code := k2_C_densestBits) (fld := f_C) (fpt := p_C) (kon := []) (call := [(66, true, 1, tC_leastOf), (36, true, 2, tC_has), (49, false, 3, tC_degreeWithin), (43, true, 1, t_bitCount), (135, true, 4, tC_isDenser)]) (C := R_C) (T := T_C) (N := 7) (by decide) (Or.inl ⟨rfl, rfl⟩) ok2_C_densestBits tb_C (fun l D cA ad => m_calls ?_) ?_ ?_
  · exact List.forall_mem_cons.mpr ⟨o_C66 ⟨Nat.le_of_ble_eq_true rfl, Nat.le_of_ble_eq_true rfl⟩, List.forall_mem_cons.mpr ⟨o_C36 ⟨Nat.le_of_ble_eq_true rfl, Nat.le_of_ble_eq_true rfl⟩, List.forall_mem_cons.mpr ⟨o_C49 ⟨Nat.le_of_ble_eq_true rfl, Nat.le_of_ble_eq_true rfl⟩, List.forall_mem_cons.mpr ⟨o_C43 ⟨Nat.le_of_ble_eq_true rfl, Nat.le_of_ble_eq_true rfl⟩, List.forall_mem_cons.mpr ⟨o_C135 ⟨Nat.le_of_ble_eq_true rfl, Nat.le_of_ble_eq_true rfl⟩, fun _ h => absurd h List.not_mem_nil⟩⟩⟩⟩⟩
  · rintro as h k ⟨n, f, ⟨j, r, q, t, d, w, rfl, hj, hG⟩, rfl, hk⟩
    exact Nat.le_of_ble_eq_true rfl
  · rintro as h k ⟨n, f, ⟨j, r, q, t, d, w, rfl, hj, hG⟩, rfl, hk⟩ V hV
    have hh : hC (mkC j (nI n) r q t d w) n f := ⟨j, r, q, t, d, w, rfl, hj, hG⟩
    have hn := hG.1
    have h12 := p12 hn
    have pl : ∀ S, S < 2 ^ n → pop S ≤ 12 := fun S hS => by have := pop_le hS hn; omega
    have loop : ∀ m s b (z : Option mV), s + 1 + m = 2 ^ n → (s = 0 → b = 0) → (0 < s → dcI n f s b) → V (20, [some (.inr 0), some (.inl (nI b)), some (.inl (nI (e1 n f b))), some (.inl (nI (gray s))), some (.inl (nI (e1 n f (gray s)))), some (.inl (nI (2 ^ n))), some (.inl (nI (s + 1))), z], [], mkC j (nI n) r q t d w) := by
      intro m
      induction m with
      | zero =>
        intro s b z hs h0 h1
        refine hV 80 20 _ _ _ (br_ge (a := s + 1) (b := 2 ^ n) (by omega) (by omega) (fun _ => ?_) (fun c => absurd c (by omega)))
        refine hk b (fun hn0 => ?_) (fun hn0 => ?_)
        · rw [hn0] at hs
          exact h0 (by omega)
        · have h2 : 1 < 2 ^ n := Nat.one_lt_two_pow (by omega)
          have e : s = 2 ^ n - 1 := by omega
          have := h1 (by omega)
          rw [e] at this
          exact dc_end hn this
      | succ m ih =>
        intro s b z hs h0 h1
        have hsl : s + 1 < 2 ^ n := by omega
        have hv := lsb_lt hsl (by omega) hn
        have hg := gray_lt (n := n) (s := s) (by omega)
        have hg1 := gray_lt hsl
        have hgs := gray_s (s := s) (by omega)
        have hb : b < 2 ^ n := by
          rcases Nat.eq_zero_or_pos s with e | e
          · rw [h0 e]; omega
          · exact (h1 e).1
        have x1 := e1_72 hG (gray s)
        have x2 := e1_72 hG (gray (s + 1))
        have x3 := e1_72 hG b
        have x4 := pl _ hg1
        have x5 := pl _ hb
        have fin : V (20, [some (.inr 0), some (.inl (nI (bif dn (e1 n f (gray (s + 1))) (pop (gray (s + 1))) (e1 n f b) (pop b) then gray (s + 1) else b))), some (.inl (nI (e1 n f (bif dn (e1 n f (gray (s + 1))) (pop (gray (s + 1))) (e1 n f b) (pop b) then gray (s + 1) else b)))), some (.inl (nI (gray (s + 1)))), some (.inl (nI (e1 n f (gray (s + 1))))), some (.inl (nI (2 ^ n))), some (.inl (nI (s + 1 + 1))), some (.inl (nI (lsb (s + 1))))], [], mkC j (nI n) r q t d w) := by
          refine ih (s + 1) _ _ (by omega) (fun e => by omega) (fun _ => ?_)
          rcases Nat.eq_zero_or_pos s with e | e
          · have e0 := h0 e
            subst e; subst e0
            have pg : 0 < pop (gray (0 + 1)) := pop_pos hg1 hn (by decide)
            have : dn (e1 n f (gray (0 + 1))) (pop (gray (0 + 1))) (e1 n f 0) (pop 0) = true := by
              rw [e1_0, pop_0]
              simp [dn, pg]
            rw [this]
            exact dc_first hn hsl
          · cases hd : dn (e1 n f (gray (s + 1))) (pop (gray (s + 1))) (e1 n f b) (pop b) with
            | true =>
              simp only [dn, Bool.or_eq_true, Bool.and_eq_true, decide_eq_true_eq] at hd
              exact dc_new hn (h1 e) hsl hd
            | false =>
              refine dc_old (h1 e) (fun hd2 => ?_)
              have : dn (e1 n f (gray (s + 1))) (pop (gray (s + 1))) (e1 n f b) (pop b) = true := by
                simp only [dn, Bool.or_eq_true, Bool.and_eq_true, decide_eq_true_eq]
                exact hd2
              rw [this] at hd
              cases hd
        have tail : V (66, [some (.inr 0), some (.inl (nI b)), some (.inl (nI (e1 n f b))), some (.inl (nI (gray s))), some (.inl (nI (e1 n f (gray (s + 1))))), some (.inl (nI (2 ^ n))), some (.inl (nI (s + 1))), some (.inl (nI (lsb (s + 1))))], [], mkC j (nI n) r q t d w) := by
          refine hV 60 66 _ _ _ (nm_r (nx_shl _ (by omega)) (nm_r (e' := nI (gray (s + 1))) (by rw [nx_xor, hgs]; rfl) ⟨_, rfl, ?_⟩))
          rw [bc_n (by omega)]
          refine ⟨_, rfl, ?_⟩
          rw [bc_n (by omega)]
          refine ⟨_, _, _, _, rfl, by omega, by omega, by omega, by omega, br_eq (fun c => nm_r (nI_1 _) ?_) (fun c => nm_r (nI_1 _) ?_)⟩
          · rw [c] at fin
            exact fin
          · rw [c] at fin
            exact fin
        refine hV 60 20 _ _ _ (br_ge (a := s + 1) (b := 2 ^ n) (by omega) (by omega) (fun c => absurd c (by omega)) (fun _ => ⟨_, rfl, by omega, by omega, ⟨_, _, rfl, by omega, by omega, br_eq (fun c => ?_) (fun c => ?_)⟩⟩))
        · refine ⟨n, f, _, _, hh, rfl, hv, nm_r (e' := nI (e1 n f (gray (s + 1)))) ?_ tail⟩
          rw [nI_add, hgs, e1_in hG hv c]
        · refine ⟨n, f, _, _, hh, rfl, hv, nm_e (nm_r (e' := nI (e1 n f (gray (s + 1)))) ?_ tail)⟩
          have e := e1_out hG hv c
          rw [e, nI_addneg, hgs]
    have h0 : e1 n f 0 = 0 := e1_0
    have start := loop (2 ^ n - 1) 0 0 none (by have : 0 < 2 ^ n := Nat.pow_pos (by decide); omega) (fun _ => rfl) (fun h => by omega)
    rw [gray_0, h0] at start
    exact hV 60 0 _ _ _ (nm_r (nx_shl n (by omega)) start)
theorem o_C123 {D : va_G} {cA : ClassId} {ad : Nat → Nat} {l : Launch} {R : Room} (hR : 2 + 1 ≤ R.frames ∧ 32 * (2 + 1) ≤ R.locals) : m_OK D cls cA 0 ad TB l "DegreeCores" R 123 false (0 + 1) tC_densestBits :=
  m_okV (C := R_C) (Tu := T_C) (N := 7) rfl c_C_densestBits (by decide) tb_good w_C123 ⟨rfl, by decide +kernel, by decide +kernel, by decide +kernel⟩ (by decide) hR (by rintro as h k ⟨n, f, ⟨j, r, q, t, d, w, rfl, hj, hG⟩, rfl, hk⟩; exact ⟨0, _, _, rfl, rfl⟩)
end
section
/-! firmness: pure, then of the object -/
section FM
variable {n : Nat} {f : Nat → Nat}
def isFirm (n : Nat) (f : Nat → Nat) (a b r : Nat) : Prop := (∃ S, S < 2 ^ n ∧ S.testBit a = true ∧ S.testBit b = false ∧ ct n f S = r) ∧ ∀ S, S < 2 ^ n → S.testBit a = true → S.testBit b = false → r ≤ ct n f S
theorem firm_one {a b r r' : Nat} (h : isFirm n f a b r) (h' : isFirm n f a b r') : r = r' := by
  obtain ⟨⟨S, s1, s2, s3, s4⟩, h2⟩ := h
  obtain ⟨⟨T, t1, t2, t3, t4⟩, h4⟩ := h'
  have x := h2 T t1 t2 t3
  have y := h4 S s1 s2 s3
  omega
theorem firm_ex (a b : Nat) (ha : a < n) (hab : a ≠ b) : ∃ r, isFirm n f a b r := by
  have hp : (2 ^ a).testBit a = true := by rw [tb_pow]; simp
  have hb : (2 ^ a).testBit b = false := by rw [tb_pow]; simp [hab]
  obtain ⟨r, ⟨S, s1, s2, s3, s4⟩, h2⟩ := pk_least (fun r => ∃ S, S < 2 ^ n ∧ S.testBit a = true ∧ S.testBit b = false ∧ ct n f S = r) ⟨_, 2 ^ a, Nat.pow_lt_pow_right (by decide) ha, hp, hb, rfl⟩
  refine ⟨r, ⟨S, s1, s2, s3, s4⟩, fun T t1 t2 t3 => ?_⟩
  apply Nat.le_of_not_lt
  intro hlt
  exact h2 _ hlt ⟨T, t1, t2, t3, rfl⟩
/-- every cut is one that the walk over the sets without the last node comes to -/
theorem cut_seen (hG : Gr n f) (h0 : 0 < n) {S a b : Nat} (ha : a < n) (hb : b < n) (hS : S < 2 ^ n) (h1 : S.testBit a ≠ S.testBit b) : ∃ i, 0 < i ∧ i < 2 ^ (n - 1) ∧ ct n f (gray i) = ct n f S ∧ (∀ u v, u < n → v < n → ((gray i).testBit u ≠ (gray i).testBit v ↔ S.testBit u ≠ S.testBit v)) := by
  have hn := hG.1
  have h12 := p12 hn
  have key : ∀ X, X < 2 ^ n → X.testBit (n - 1) = false → X ≠ 0 → ∃ i, 0 < i ∧ i < 2 ^ (n - 1) ∧ gray i = X := by
    intro X hX hb hX0
    have hX2 : X < 2 ^ (n - 1) := by
      apply Nat.lt_pow_two_of_testBit
      intro i hi
      rcases Nat.lt_or_ge i n with h | h
      · have : i = n - 1 := by omega
        rw [this]; exact hb
      · exact tb_hi hX h
    obtain ⟨-, g1, g2, g3⟩ := gray_at (s := X) (by omega)
    exact ⟨ginv X, by omega, g3 (n - 1) (by omega) hX2, g1⟩
  cases hl : S.testBit (n - 1) with
  | false =>
    have hne : S ≠ 0 := fun z => h1 (by rw [z]; simp)
    obtain ⟨i, i1, i2, i3⟩ := key S hS hl hne
    exact ⟨i, i1, i2, by rw [i3], fun u v _ _ => by rw [i3]⟩
  | true =>
    have tb : ∀ u, u < n → (sd (2 ^ n - 1) S).testBit u = !S.testBit u := fun u hu => by rw [tb_sd, tb_all]; simp [hu]
    have hne : sd (2 ^ n - 1) S ≠ 0 := fun z => by
      have e1 := tb a ha
      have e2 := tb b hb
      rw [z] at e1 e2
      simp at e1 e2
      exact h1 (by rw [e1, e2])
    obtain ⟨i, i1, i2, i3⟩ := key (sd (2 ^ n - 1) S) (sd_lt (pw_pos n)) (by rw [tb _ (by omega), hl]; rfl) hne
    refine ⟨i, i1, i2, by rw [i3, ct_not hG hS], fun u v hu hv => ?_⟩
    rw [i3, tb u hu, tb v hv]
    cases S.testBit u <;> cases S.testBit v <;> simp
theorem sep_ge (hG : Gr n f) {S a b r : Nat} (hF : isFirm n f a b r) (ha : a < n) (hb : b < n) (hS : S < 2 ^ n) (h1 : S.testBit a ≠ S.testBit b) : r ≤ ct n f S := by
  cases hsa : S.testBit a with
  | true =>
    cases hsb : S.testBit b with
    | true => rw [hsa, hsb] at h1; exact absurd rfl h1
    | false => exact hF.2 S hS hsa hsb
  | false =>
    cases hsb : S.testBit b with
    | false => rw [hsa, hsb] at h1; exact absurd rfl h1
    | true =>
      rw [← ct_not hG hS]
      refine hF.2 _ (sd_lt (pw_pos n)) ?_ ?_
      · rw [tb_sd, tb_all]; simp [ha, hsa]
      · rw [tb_sd, tb_all]; simp [hsb]
/-- the least of the cuts seen -/
def fmI (n : Nat) (f : Nat → Nat) (a b s r : Nat) : Prop := (∃ S, S < 2 ^ n ∧ S.testBit a ≠ S.testBit b ∧ ct n f S = r) ∧ ∀ i, 0 < i → i ≤ s → (gray i).testBit a ≠ (gray i).testBit b → r ≤ ct n f (gray i)
theorem fm_end (hG : Gr n f) {a b r : Nat} (ha : a < n) (hb : b < n) (hab : a ≠ b) (h : fmI n f a b (2 ^ (n - 1) - 1) r) : isFirm n f a b r := by
  obtain ⟨⟨S, s1, s2, s3⟩, h2⟩ := h
  obtain ⟨r0, hr0⟩ := firm_ex (n := n) (f := f) a b ha hab
  have h3 := sep_ge hG hr0 ha hb s1 s2
  obtain ⟨⟨T, t1, t2, t3, t4⟩, -⟩ := id hr0
  obtain ⟨i, i1, i2, i3, i4⟩ := cut_seen hG (by omega) ha hb t1 (by rw [t2, t3]; simp)
  have h5 := h2 i i1 (by omega) ((i4 a b ha hb).mpr (by rw [t2, t3]; simp))
  have e : r = r0 := by omega
  rw [e]; exact hr0
theorem ct_one (hG : Gr n f) {a : Nat} (ha : a < n) : ct n f (2 ^ a) = pop (f a) := by
  have h := ct_in hG (S := 0) ha (by simp)
  have e : tg 0 a = 2 ^ a := by simp [tg]
  have e2 : dg f 0 a = 0 := by simp [dg, pop_0]
  rw [e, e2, ct_0] at h
  omega
theorem fm_start (hG : Gr n f) {a b : Nat} (ha : a < n) (hab : a ≠ b) : fmI n f a b 0 (pop (f a)) :=
  ⟨⟨2 ^ a, Nat.pow_lt_pow_right (by decide) ha, by rw [tb_pow, tb_pow]; simp [hab], ct_one hG ha⟩, fun i h1 h2 => by omega⟩
theorem ct_lt (hG : Gr n f) {S : Nat} (hS : S < 2 ^ n) : ct n f S ≤ 144 := by
  have hn := hG.1
  have h := sm_bound (g := fun v => bif S.testBit v then pop (sd (f v) S) else 0) (n := n) (c := 12) (fun u hu => by
    have := pop_le (sd_lt (T := S) (hG.2.1 u hu)) hn
    cases S.testBit u with
    | true => show pop (sd (f u) S) ≤ 12; omega
    | false => exact Nat.zero_le _)
  have h2 : n * 12 ≤ 144 := by omega
  exact Nat.le_trans h h2
end FM
def tC_cutChange : mT := fun as h k => ∃ n f S v, hC h n f ∧ as = [.inr 0, .inl (nI S), .inl (nI v)] ∧ v < n ∧ S < 4096 ∧ ∀ x, nI (ct n f S) + x = nI (ct n f (tg S v)) → k (some x) h
set_option maxHeartbeats 4000000 in
set_option maxRecDepth 20000 in
theorem c_C_cutChange : m_Con cls 0 TB y_C_cutChange b_C_cutChange 5 (some .int) 0 2 tC_cutChange := by
  refine m_con (code := k_C_cutChange) (fld := f_C) (fpt := p_C) (kon := []) (call := [(49, false, 3, tC_degreeWithin), (43, true, 1, t_bitCount), (36, true, 2, tC_has)]) (C := R_C) (T := T_C) (N := 7) (by decide) (Or.inl ⟨rfl, rfl⟩) ok_C_cutChange tb_C (fun l D cA ad => m_calls ?_) ?_ ?_
  · exact List.forall_mem_cons.mpr ⟨o_C49 ⟨Nat.le_of_ble_eq_true rfl, Nat.le_of_ble_eq_true rfl⟩, List.forall_mem_cons.mpr ⟨o_C43 ⟨Nat.le_of_ble_eq_true rfl, Nat.le_of_ble_eq_true rfl⟩, List.forall_mem_cons.mpr ⟨o_C36 ⟨Nat.le_of_ble_eq_true rfl, Nat.le_of_ble_eq_true rfl⟩, fun _ h => absurd h List.not_mem_nil⟩⟩⟩
  · rintro as h k ⟨n, f, S, v, ⟨j, r, q, t, d, w, rfl, hj, hG⟩, rfl, hv, hS, hk⟩
    exact Nat.le_of_ble_eq_true rfl
  · rintro as h k ⟨n, f, S, v, ⟨j, r, q, t, d, w, rfl, hj, hG⟩, rfl, hv, hS, hk⟩ V hV
    have hh : hC (mkC j (nI n) r q t d w) n f := ⟨j, r, q, t, d, w, rfl, hj, hG⟩
    have hn := hG.1
    have hd := dg_out hG hv (S := S)
    refine hV 60 0 _ _ _ ⟨n, f, S, v, hh, rfl, hv, And.intro (vp_in_nI (by omega) (by omega)) (nm_r (by rw [clamp12 hv hn, hj v hv]) ⟨_, rfl, ?_⟩)⟩
    rw [bc_n (g31 hG hv)]
    refine nm_r (pk_sub (by omega)) ⟨S, v, rfl, by omega, by omega, br_eq (fun c => nm_e (hk _ ?_)) (fun c => nm_e (hk _ ?_))⟩
    · have := ct_in hG hv c
      exact nI_mix (by omega)
    · have := ct_out hG hv c
      exact nI_mix (by omega)
theorem o_C129 {D : va_G} {cA : ClassId} {ad : Nat → Nat} {l : Launch} {R : Room} (hR : 2 + 1 ≤ R.frames ∧ 32 * (2 + 1) ≤ R.locals) : m_OK D cls cA 0 ad TB l "DegreeCores" R 129 false (2 + 1) tC_cutChange :=
  m_okV (C := R_C) (Tu := T_C) (N := 7) rfl c_C_cutChange (by decide) tb_good w_C129 ⟨rfl, by decide +kernel, by decide +kernel, by decide +kernel⟩ (by decide) hR (by rintro as h k ⟨n, f, S, v, ⟨j, r, q, t, d, w, rfl, hj, hG⟩, rfl, hv, hS, hk⟩; exact ⟨0, _, _, rfl, rfl⟩)
def tC_cutSteps : mT := fun as h k => ∃ n f, hC h n f ∧ as = [.inr 0] ∧ 0 < n ∧ k (some (nI (2 ^ (n - 1)))) h
set_option maxHeartbeats 4000000 in
set_option maxRecDepth 20000 in
theorem c_C_cutSteps : m_Con cls 0 TB y_C_cutSteps b_C_cutSteps 1 (some .int) 0 0 tC_cutSteps := by
  refine m_con (code := k_C_cutSteps) (fld := f_C) (fpt := p_C) (kon := []) (call := []) (C := R_C) (T := T_C) (N := 7) (by decide) (Or.inl ⟨rfl, rfl⟩) ok_C_cutSteps tb_C (fun l D cA ad => m_calls ?_) ?_ ?_
  · exact fun _ h => absurd h List.not_mem_nil
  · rintro as h k ⟨n, f, ⟨j, r, q, t, d, w, rfl, hj, hG⟩, rfl, h0, hk⟩
    exact Nat.le_of_ble_eq_true rfl
  · rintro as h k ⟨n, f, ⟨j, r, q, t, d, w, rfl, hj, hG⟩, rfl, h0, hk⟩ V hV
    have hn := hG.1
    refine hV 60 0 _ _ _ (br_n (a := n) (b := 0) (by omega) (by omega) (fun c => nm_r (pk_sub (b := 1) (by omega)) (nm_r (nx_shl (n - 1) (by omega)) hk)) (fun c => absurd c (by omega)))
theorem o_C126 {D : va_G} {cA : ClassId} {ad : Nat → Nat} {l : Launch} {R : Room} (hR : 0 + 1 ≤ R.frames ∧ 32 * (0 + 1) ≤ R.locals) : m_OK D cls cA 0 ad TB l "DegreeCores" R 126 false (0 + 1) tC_cutSteps :=
  m_okV (C := R_C) (Tu := T_C) (N := 7) rfl c_C_cutSteps (by decide) tb_good w_C126 ⟨rfl, by decide +kernel, by decide +kernel, by decide +kernel⟩ (by decide) hR (by rintro as h k ⟨n, f, ⟨j, r, q, t, d, w, rfl, hj, hG⟩, rfl, h0, hk⟩; exact ⟨0, _, _, rfl, rfl⟩)
def aFirm (n : Nat) (f : Nat → Nat) (x y r : Int32) : Prop := (two n x y = false ∧ r = -1) ∨ ∃ u v c, u < n ∧ v < n ∧ u ≠ v ∧ x = nI u ∧ y = nI v ∧ two n x y = true ∧ isFirm n f u v c ∧ r = nI c
theorem half_lt {n s : Nat} (h : s < 2 ^ (n - 1)) (h0 : 0 < n) : s < 2 ^ n := Nat.lt_of_lt_of_le h (Nat.pow_le_pow_right (by decide) (by omega))
def tC_firm : mT := fun as h k => ∃ n f x y, hC h n f ∧ as = [.inr 0, .inl x, .inl y] ∧ ∀ r, aFirm n f x y r → k (some r) h
set_option maxHeartbeats 4000000 in
set_option maxRecDepth 20000 in
theorem c_C_firm : m_Con cls 0 TB y_C_firm b_C_firm 9 (some .int) 0 3 tC_firm := by
  refine m_con (code := k_C_firm) (fld := f_C) (fpt := p_C) (kon := []) (call := [(32, false, 3, tC_areTwoNodes), (43, true, 1, t_bitCount), (126, false, 1, tC_cutSteps), (66, true, 1, tC_leastOf), (129, false, 3, tC_cutChange), (36, true, 2, tC_has), (74, true, 2, t_min)]) (C := R_C) (T := T_C) (N := 7) (by decide) (Or.inl ⟨rfl, rfl⟩) ok_C_firm tb_C (fun l D cA ad => m_calls ?_) ?_ ?_
  · exact List.forall_mem_cons.mpr ⟨o_C32 ⟨Nat.le_of_ble_eq_true rfl, Nat.le_of_ble_eq_true rfl⟩, List.forall_mem_cons.mpr ⟨o_C43 ⟨Nat.le_of_ble_eq_true rfl, Nat.le_of_ble_eq_true rfl⟩, List.forall_mem_cons.mpr ⟨o_C126 ⟨Nat.le_of_ble_eq_true rfl, Nat.le_of_ble_eq_true rfl⟩, List.forall_mem_cons.mpr ⟨o_C66 ⟨Nat.le_of_ble_eq_true rfl, Nat.le_of_ble_eq_true rfl⟩, List.forall_mem_cons.mpr ⟨o_C129 ⟨Nat.le_of_ble_eq_true rfl, Nat.le_of_ble_eq_true rfl⟩, List.forall_mem_cons.mpr ⟨o_C36 ⟨Nat.le_of_ble_eq_true rfl, Nat.le_of_ble_eq_true rfl⟩, List.forall_mem_cons.mpr ⟨o_C74 ⟨Nat.le_of_ble_eq_true rfl, Nat.le_of_ble_eq_true rfl⟩, fun _ h => absurd h List.not_mem_nil⟩⟩⟩⟩⟩⟩⟩
  · rintro as h k ⟨n, f, x, y, ⟨j, r, q, t, d, w, rfl, hj, hG⟩, rfl, hk⟩
    exact Nat.le_of_ble_eq_true rfl
  · rintro as h k ⟨n, f, x, y, ⟨j, r, q, t, d, w, rfl, hj, hG⟩, rfl, hk⟩ V hV
    have hh : hC (mkC j (nI n) r q t d w) n f := ⟨j, r, q, t, d, w, rfl, hj, hG⟩
    have hn := hG.1
    have h12 := p12 hn
    refine hV 60 0 _ _ _ ⟨n, f, x, y, hh, rfl, br_ne (fun c => ?_) (fun c => hk _ (Or.inl ⟨c, rfl⟩))⟩
    obtain ⟨a, b, ha, hb, hab, rfl, rfl⟩ := two_t hn c
    have hp0 : 0 < 2 ^ (n - 1) := Nat.pow_pos (by decide)
    have hpn : 2 ^ (n - 1) ≤ 2 ^ n := Nat.pow_le_pow_right (by decide) (by omega)
    have loop : ∀ m s le (z : Option mV), s + 1 + m = 2 ^ (n - 1) → le ≤ 200 → fmI n f a b s le → V (36, [some (.inr 0), some (.inl (nI a)), some (.inl (nI b)), some (.inl (nI le)), some (.inl (nI (gray s))), some (.inl (nI (ct n f (gray s)))), some (.inl (nI (2 ^ (n - 1)))), some (.inl (nI (s + 1))), z], [], mkC j (nI n) r q t d w) := by
      intro m
      induction m with
      | zero =>
        intro s le z hs hle hI
        refine hV 80 36 _ _ _ (br_ge (a := s + 1) (b := 2 ^ (n - 1)) (by omega) (by omega) (fun _ => ?_) (fun c => absurd c (by omega)))
        have e : s = 2 ^ (n - 1) - 1 := by omega
        rw [e] at hI
        exact hk _ (Or.inr ⟨a, b, le, ha, hb, hab, rfl, rfl, c, fm_end hG ha hb hab hI, rfl⟩)
      | succ m ih =>
        intro s le z hs hle hI
        have hsl : s + 1 < 2 ^ n := by omega
        have hv := lsb_lt hsl (by omega) hn
        have hg := gray_lt (n := n) (s := s) (by omega)
        have hg1 := gray_lt hsl
        have hgs := gray_s (s := s) (by omega)
        have hc1 := ct_lt hG hg1
        refine hV 80 36 _ _ _ (br_ge (a := s + 1) (b := 2 ^ (n - 1)) (by omega) (by omega) (fun c => absurd c (by omega)) (fun _ => ⟨_, rfl, by omega, by omega, ⟨n, f, _, _, hh, rfl, hv, by omega, fun x hx => ?_⟩⟩))
        rw [← hgs] at hx
        refine nm_r hx (nm_r (nx_shl _ (by omega)) (nm_r (e' := nI (gray (s + 1))) (by rw [nx_xor, hgs]; rfl) ⟨_, _, rfl, by omega, by omega, ⟨_, _, rfl, by omega, by omega, And.intro (fun c2 => nm_r (nI_1 _) ?_) (fun c2 => ⟨_, _, rfl, nm_r (nI_1 _) ?_⟩)⟩⟩))
        · have c2 := b2i_in c2
          refine ih (s + 1) le _ (by omega) hle ⟨hI.1, fun i i1 i2 i3 => ?_⟩
          by_cases hi : i = s + 1
          · rw [hi] at i3; exact absurd c2 i3
          · exact hI.2 i i1 (by omega) i3
        · have c2 : ¬ b2i ((gray (s + 1)).testBit a) = b2i ((gray (s + 1)).testBit b) := c2
          have c3 : (gray (s + 1)).testBit a ≠ (gray (s + 1)).testBit b := fun z => c2 (by rw [z])
          by_cases hlt : ct n f (gray (s + 1)) < le
          · have hle2 : nI (ct n f (gray (s + 1))) < nI le := nI_lt hlt (by omega)
            rw [if_pos hle2]
            refine ih (s + 1) _ _ (by omega) (by omega) ⟨⟨_, hg1, c3, rfl⟩, fun i i1 i2 i3 => ?_⟩
            by_cases hi : i = s + 1
            · rw [hi]; exact Nat.le_refl _
            · have := hI.2 i i1 (by omega) i3
              omega
          · have hle2 : ¬ nI (ct n f (gray (s + 1))) < nI le := nI_nlt (by omega) (by omega)
            rw [if_neg hle2]
            refine ih (s + 1) _ _ (by omega) hle ⟨hI.1, fun i i1 i2 i3 => ?_⟩
            by_cases hi : i = s + 1
            · rw [hi]; omega
            · exact hI.2 i i1 (by omega) i3
    have hpa := pop_le (hG.2.1 a ha) hn
    have start := loop (2 ^ (n - 1) - 1) 0 (pop (f a)) none (by omega) (by omega) (fm_start hG ha hab)
    rw [gray_0, ct_0] at start
    refine And.intro (vp_in_nI (by omega) (by omega)) (nm_r (by rw [clamp12 ha hn, hj a ha]) ⟨_, rfl, ?_⟩)
    rw [bc_n (g31 hG ha)]
    exact ⟨n, f, hh, rfl, by omega, start⟩
/-- who stays together with v -/
def tgI (n : Nat) (f : Nat → Nat) (v K s C : Nat) : Prop := C < 2 ^ n ∧ ∀ u, u < n → (C.testBit u = true ↔ ∀ i, 0 < i → i ≤ s → ct n f (gray i) < K → (gray i).testBit u = (gray i).testBit v)
def tC_classBits : mT := fun as h k => ∃ n f v K, hC h n f ∧ as = [.inr 0, .inl (nI v), .inl (nI K)] ∧ v < n ∧ K < 2 ^ 31 ∧ ∀ C, tgI n f v K (2 ^ (n - 1) - 1) C → k (some (nI C)) h
set_option maxHeartbeats 4000000 in
set_option maxRecDepth 20000 in
theorem c_C_classBits : m_Con cls 0 TB y_C_classBits b_C_classBits 9 (some .int) 0 3 tC_classBits := by
  refine m_con (code := k_C_classBits) (fld := f_C) (fpt := p_C) (kon := []) (call := [(56, false, 1, tC_allNodes), (126, false, 1, tC_cutSteps), (66, true, 1, tC_leastOf), (129, false, 3, tC_cutChange), (36, true, 2, tC_has)]) (C := R_C) (T := T_C) (N := 7) (by decide) (Or.inl ⟨rfl, rfl⟩) ok_C_classBits tb_C (fun l D cA ad => m_calls ?_) ?_ ?_
  · exact List.forall_mem_cons.mpr ⟨o_C56 ⟨Nat.le_of_ble_eq_true rfl, Nat.le_of_ble_eq_true rfl⟩, List.forall_mem_cons.mpr ⟨o_C126 ⟨Nat.le_of_ble_eq_true rfl, Nat.le_of_ble_eq_true rfl⟩, List.forall_mem_cons.mpr ⟨o_C66 ⟨Nat.le_of_ble_eq_true rfl, Nat.le_of_ble_eq_true rfl⟩, List.forall_mem_cons.mpr ⟨o_C129 ⟨Nat.le_of_ble_eq_true rfl, Nat.le_of_ble_eq_true rfl⟩, List.forall_mem_cons.mpr ⟨o_C36 ⟨Nat.le_of_ble_eq_true rfl, Nat.le_of_ble_eq_true rfl⟩, fun _ h => absurd h List.not_mem_nil⟩⟩⟩⟩⟩
  · rintro as h k ⟨n, f, v, K, ⟨j, r, q, t, d, w, rfl, hj, hG⟩, rfl, hv, hK, hk⟩
    exact Nat.le_of_ble_eq_true rfl
  · rintro as h k ⟨n, f, v, K, ⟨j, r, q, t, d, w, rfl, hj, hG⟩, rfl, hv, hK, hk⟩ V hV
    have hh : hC (mkC j (nI n) r q t d w) n f := ⟨j, r, q, t, d, w, rfl, hj, hG⟩
    have hn := hG.1
    have h12 := p12 hn
    have hp0 : 0 < 2 ^ (n - 1) := Nat.pow_pos (by decide)
    have hpn : 2 ^ (n - 1) ≤ 2 ^ n := Nat.pow_le_pow_right (by decide) (by omega)
    have loop : ∀ m s C (z : Option mV), s + 1 + m = 2 ^ (n - 1) → tgI n f v K s C → V (20, [some (.inr 0), some (.inl (nI v)), some (.inl (nI K)), some (.inl (nI C)), some (.inl (nI (gray s))), some (.inl (nI (ct n f (gray s)))), some (.inl (nI (2 ^ (n - 1)))), some (.inl (nI (s + 1))), z], [], mkC j (nI n) r q t d w) := by
      intro m
      induction m with
      | zero =>
        intro s C z hs hI
        refine hV 80 20 _ _ _ (br_ge (a := s + 1) (b := 2 ^ (n - 1)) (by omega) (by omega) (fun _ => ?_) (fun c => absurd c (by omega)))
        have e : s = 2 ^ (n - 1) - 1 := by omega
        rw [e] at hI
        exact hk _ hI
      | succ m ih =>
        intro s C z hs hI
        have hsl : s + 1 < 2 ^ n := by omega
        have hl := lsb_lt hsl (by omega) hn
        have hg := gray_lt (n := n) (s := s) (by omega)
        have hg1 := gray_lt hsl
        have hgs := gray_s (s := s) (by omega)
        have hc1 := ct_lt hG hg1
        have stay : K ≤ ct n f (gray (s + 1)) → tgI n f v K (s + 1) C := fun hle => ⟨hI.1, fun u hu => (hI.2 u hu).trans ⟨fun H i i1 i2 i3 => by
          by_cases hi : i = s + 1
          · rw [hi] at i3; omega
          · exact H i i1 (by omega) i3, fun H i i1 i2 i3 => H i i1 (by omega) i3⟩⟩
        have cut : ∀ C', C' < 2 ^ n → (∀ u, u < n → C'.testBit u = (C.testBit u && ((gray (s + 1)).testBit u == (gray (s + 1)).testBit v))) → ct n f (gray (s + 1)) < K → tgI n f v K (s + 1) C' := fun C' hC' hb hlt => ⟨hC', fun u hu => by
          rw [hb u hu, Bool.and_eq_true, hI.2 u hu, beq_iff_eq]
          constructor
          · rintro ⟨H, e⟩ i i1 i2 i3
            by_cases hi : i = s + 1
            · rw [hi]; exact e
            · exact H i i1 (by omega) i3
          · intro H
            exact ⟨fun i i1 i2 i3 => H i i1 (by omega) i3, H (s + 1) (by omega) (Nat.le_refl _) hlt⟩⟩
        refine hV 80 20 _ _ _ (br_ge (a := s + 1) (b := 2 ^ (n - 1)) (by omega) (by omega) (fun c => absurd c (by omega)) (fun _ => ⟨_, rfl, by omega, by omega, ⟨n, f, _, _, hh, rfl, hl, by omega, fun x hx => ?_⟩⟩))
        rw [← hgs] at hx
        refine nm_r hx (nm_r (nx_shl _ (by omega)) (nm_r (e' := nI (gray (s + 1))) (by rw [nx_xor, hgs]; rfl) (br_ge (a := ct n f (gray (s + 1))) (b := K) (by omega) hK (fun c => nm_r (nI_1 _) ?_) (fun c => ⟨_, _, rfl, by omega, by omega, br_eq (fun c2 => nm_e (nm_r (nx_sd _ _) (nm_r (nI_1 _) ?_))) (fun c2 => nm_r (nx_and _ _) (nm_r (nI_1 _) ?_))⟩))))
        · exact ih (s + 1) C _ (by omega) (stay c)
        · exact ih (s + 1) _ _ (by omega) (cut _ (sd_lt hI.1) (fun u hu => by rw [tb_sd, c2]; cases (gray (s + 1)).testBit u <;> rfl) c)
        · exact ih (s + 1) _ _ (by omega) (cut _ (and_lt hI.1) (fun u hu => by rw [Nat.testBit_and, c2]; cases (gray (s + 1)).testBit u <;> rfl) c)
    have start := loop (2 ^ (n - 1) - 1) 0 (2 ^ n - 1) none (by omega) ⟨pw_pos n, fun u hu => ⟨fun _ i i1 i2 => by omega, fun _ => by rw [tb_all]; simp [hu]⟩⟩
    rw [gray_0, ct_0] at start
    exact hV 60 0 _ _ _ ⟨n, f, hh, rfl, ⟨n, f, hh, rfl, by omega, start⟩⟩
theorem o_C132 {D : va_G} {cA : ClassId} {ad : Nat → Nat} {l : Launch} {R : Room} (hR : 3 + 1 ≤ R.frames ∧ 32 * (3 + 1) ≤ R.locals) : m_OK D cls cA 0 ad TB l "DegreeCores" R 132 false (2 + 1) tC_classBits :=
  m_okV (C := R_C) (Tu := T_C) (N := 7) rfl c_C_classBits (by decide) tb_good w_C132 ⟨rfl, by decide +kernel, by decide +kernel, by decide +kernel⟩ (by decide) hR (by rintro as h k ⟨n, f, v, K, ⟨j, r, q, t, d, w, rfl, hj, hG⟩, rfl, hv, hK, hk⟩; exact ⟨0, _, _, rfl, rfl⟩)
/-- the least of a node's part -/
def isCl (n : Nat) (f : Nat → Nat) (v K u : Nat) : Prop := u ≤ v ∧ (u ≠ v → ∃ r, isFirm n f u v r ∧ K ≤ r) ∧ ∀ x, x < u → ∃ r, isFirm n f x v r ∧ r < K
theorem cl_one {n : Nat} {f : Nat → Nat} {v K u u' : Nat} (h : isCl n f v K u) (h' : isCl n f v K u') : u = u' := by
  have key : ∀ a b, isCl n f v K a → isCl n f v K b → ¬ a < b := by
    intro a b ha hb hlt
    obtain ⟨r, hr, hr2⟩ := hb.2.2 a hlt
    obtain ⟨r', hr', hr2'⟩ := ha.2.1 (by have := hb.1; omega)
    have := firm_one hr hr'
    omega
  have k1 := key u u' h h'
  have k2 := key u' u h' h
  omega
theorem cl_of {n : Nat} {f : Nat → Nat} (hG : Gr n f) {v K C : Nat} (hv : v < n) (h : tgI n f v K (2 ^ (n - 1) - 1) C) : C ≠ 0 ∧ isCl n f v K (lsb C) := by
  have hn := hG.1
  have h12 := p12 hn
  have hvC : C.testBit v = true := (h.2 v hv).mpr (fun i _ _ _ => rfl)
  have hne := ne_of_tb hvC
  have hC := h.1
  obtain ⟨l1, l2⟩ := lsb_in (s := C) (by omega) hne
  have hln := lsb_lt hC hne hn
  refine ⟨hne, ?_, fun hne2 => ?_, fun x hx => ?_⟩
  · apply Nat.le_of_not_lt
    intro hlt
    rw [l2 v hlt] at hvC
    cases hvC
  · obtain ⟨r, hr⟩ := firm_ex (n := n) (f := f) (lsb C) v hln hne2
    refine ⟨r, hr, Nat.le_of_not_lt (fun hlt => ?_)⟩
    obtain ⟨⟨S, s1, s2, s3, s4⟩, -⟩ := id hr
    obtain ⟨i, i1, i2, i3, i4⟩ := cut_seen hG (by omega) hln hv s1 (by rw [s2, s3]; simp)
    have e := (h.2 _ hln).mp l1 i i1 (by omega) (by omega)
    exact (i4 _ _ hln hv).mpr (by rw [s2, s3]; simp) e
  · have hxn : x < n := by omega
    have hxv : x ≠ v := fun z => by rw [← z, l2 x hx] at hvC; cases hvC
    obtain ⟨r, hr⟩ := firm_ex (n := n) (f := f) x v hxn hxv
    refine ⟨r, hr, ?_⟩
    have hnot : ¬ ∀ i, 0 < i → i ≤ 2 ^ (n - 1) - 1 → ct n f (gray i) < K → (gray i).testBit x = (gray i).testBit v := fun H => by
      have := (h.2 x hxn).mpr H
      rw [l2 x hx] at this
      cases this
    apply Classical.byContradiction
    intro hge
    apply hnot
    intro i i1 i2 i3
    apply Classical.byContradiction
    intro hsep
    have hp0 : 0 < 2 ^ (n - 1) := Nat.pow_pos (by decide)
    have := sep_ge hG hr hxn hv (gray_lt (half_lt (by omega) (by omega))) hsep
    omega
def aCls (n : Nat) (f : Nat → Nat) (x y r : Int32) : Prop := (isN n x = false ∧ r = -1) ∨ (isN n x = true ∧ y < 0 ∧ r = -2) ∨ ∃ v K u, v < n ∧ K < 2 ^ 31 ∧ x = nI v ∧ y = nI K ∧ isCl n f v K u ∧ r = nI u
def tC_classOf : mT := fun as h k => ∃ n f x y, hC h n f ∧ as = [.inr 0, .inl x, .inl y] ∧ ∀ r, aCls n f x y r → k (some r) h
set_option maxHeartbeats 4000000 in
set_option maxRecDepth 20000 in
theorem c_C_classOf : m_Con cls 0 TB y_C_classOf b_C_classOf 3 (some .int) 0 4 tC_classOf := by
  refine m_con (code := k_C_classOf) (fld := f_C) (fpt := p_C) (kon := []) (call := [(39, false, 2, tC_isNode), (132, false, 3, tC_classBits), (66, true, 1, tC_leastOf)]) (C := R_C) (T := T_C) (N := 7) (by decide) (Or.inl ⟨rfl, rfl⟩) ok_C_classOf tb_C (fun l D cA ad => m_calls ?_) ?_ ?_
  · exact List.forall_mem_cons.mpr ⟨o_C39 ⟨Nat.le_of_ble_eq_true rfl, Nat.le_of_ble_eq_true rfl⟩, List.forall_mem_cons.mpr ⟨o_C132 ⟨Nat.le_of_ble_eq_true rfl, Nat.le_of_ble_eq_true rfl⟩, List.forall_mem_cons.mpr ⟨o_C66 ⟨Nat.le_of_ble_eq_true rfl, Nat.le_of_ble_eq_true rfl⟩, fun _ h => absurd h List.not_mem_nil⟩⟩⟩
  · rintro as h k ⟨n, f, x, y, ⟨j, r, q, t, d, w, rfl, hj, hG⟩, rfl, hk⟩
    exact Nat.le_of_ble_eq_true rfl
  · rintro as h k ⟨n, f, x, y, ⟨j, r, q, t, d, w, rfl, hj, hG⟩, rfl, hk⟩ V hV
    have hh : hC (mkC j (nI n) r q t d w) n f := ⟨j, r, q, t, d, w, rfl, hj, hG⟩
    have hn := hG.1
    have h12 := p12 hn
    refine hV 60 0 _ _ _ ⟨n, f, x, hh, rfl, br_ne (fun c => And.intro (fun c2 => ?_) (fun c2 => hk _ (Or.inr (Or.inl ⟨c, Int32.not_le.mp c2, rfl⟩)))) (fun c => hk _ (Or.inl ⟨c, rfl⟩))⟩
    have c2 : 0 ≤ y := c2
    obtain ⟨K, hK, rfl⟩ := nI_of (Int32.not_lt.mpr c2)
    obtain ⟨v, hv, rfl⟩ := isN_t hn c
    refine ⟨n, f, v, K, hh, rfl, hv, hK, fun C hC => ?_⟩
    obtain ⟨h1, h2⟩ := cl_of hG hv hC
    have hlt := hC.1
    exact ⟨C, rfl, by omega, h1, hk _ (Or.inr (Or.inr ⟨v, K, _, hv, hK, rfl, rfl, h2, rfl⟩))⟩
def aDst (n : Nat) (f : Nat → Nat) (r : Int32) : Prop := (n = 0 ∧ r = -3) ∨ (0 < n ∧ ∃ S, isDen n f S ∧ r = nI S)
def tC_densest : mT := fun as h k => ∃ n f, hC h n f ∧ as = [.inr 0] ∧ ∀ r, aDst n f r → k (some r) h
set_option maxHeartbeats 4000000 in
set_option maxRecDepth 20000 in
theorem c_C_densest : m_Con cls 0 TB y_C_densest b_C_densest 1 (some .int) 0 3 tC_densest := by
  refine m_con (code := k_C_densest) (fld := f_C) (fpt := p_C) (kon := []) (call := [(123, false, 1, tC_densestBits)]) (C := R_C) (T := T_C) (N := 7) (by decide) (Or.inl ⟨rfl, rfl⟩) ok_C_densest tb_C (fun l D cA ad => m_calls ?_) ?_ ?_
  · exact List.forall_mem_cons.mpr ⟨o_C123 ⟨Nat.le_of_ble_eq_true rfl, Nat.le_of_ble_eq_true rfl⟩, fun _ h => absurd h List.not_mem_nil⟩
  · rintro as h k ⟨n, f, ⟨j, r, q, t, d, w, rfl, hj, hG⟩, rfl, hk⟩
    exact Nat.le_of_ble_eq_true rfl
  · rintro as h k ⟨n, f, ⟨j, r, q, t, d, w, rfl, hj, hG⟩, rfl, hk⟩ V hV
    have hh : hC (mkC j (nI n) r q t d w) n f := ⟨j, r, q, t, d, w, rfl, hj, hG⟩
    have hn := hG.1
    exact hV 60 0 _ _ _ (br_n (a := n) (b := 0) (by omega) (by omega) (fun c => ⟨n, f, hh, rfl, fun S h0 h1 => hk _ (Or.inr ⟨by omega, S, h1 (by omega), rfl⟩)⟩) (fun c => hk _ (Or.inl ⟨c, rfl⟩)))
def aDen (n : Nat) (f : Nat → Nat) (p r : Int32) : Prop := (isP p = false ∧ r = -2) ∨ (isP p = true ∧ n = 0 ∧ r = -3) ∨ (isP p = true ∧ 0 < n ∧ ∃ S, isDen n f S ∧ r = shr (nI (e1 n f S)) (e1 n f S) (pop S) p)
def tC_density : mT := fun as h k => ∃ n f p, hC h n f ∧ as = [.inr 0, .inl p] ∧ ∀ r, aDen n f p r → k (some r) h
set_option maxHeartbeats 4000000 in
set_option maxRecDepth 20000 in
theorem c_C_density : m_Con cls 0 TB y_C_density b_C_density 3 (some .int) 0 3 tC_density := by
  refine m_con (code := k_C_density) (fld := f_C) (fpt := p_C) (kon := []) (call := [(101, true, 1, tC_isPart), (123, false, 1, tC_densestBits), (114, false, 2, tC_edgesWithin), (43, true, 1, t_bitCount), (110, true, 3, tC_share)]) (C := R_C) (T := T_C) (N := 7) (by decide) (Or.inl ⟨rfl, rfl⟩) ok_C_density tb_C (fun l D cA ad => m_calls ?_) ?_ ?_
  · exact List.forall_mem_cons.mpr ⟨o_C101 ⟨Nat.le_of_ble_eq_true rfl, Nat.le_of_ble_eq_true rfl⟩, List.forall_mem_cons.mpr ⟨o_C123 ⟨Nat.le_of_ble_eq_true rfl, Nat.le_of_ble_eq_true rfl⟩, List.forall_mem_cons.mpr ⟨o_C114 ⟨Nat.le_of_ble_eq_true rfl, Nat.le_of_ble_eq_true rfl⟩, List.forall_mem_cons.mpr ⟨o_C43 ⟨Nat.le_of_ble_eq_true rfl, Nat.le_of_ble_eq_true rfl⟩, List.forall_mem_cons.mpr ⟨o_C110 ⟨Nat.le_of_ble_eq_true rfl, Nat.le_of_ble_eq_true rfl⟩, fun _ h => absurd h List.not_mem_nil⟩⟩⟩⟩⟩
  · rintro as h k ⟨n, f, p, ⟨j, r, q, t, d, w, rfl, hj, hG⟩, rfl, hk⟩
    exact Nat.le_of_ble_eq_true rfl
  · rintro as h k ⟨n, f, p, ⟨j, r, q, t, d, w, rfl, hj, hG⟩, rfl, hk⟩ V hV
    have hh : hC (mkC j (nI n) r q t d w) n f := ⟨j, r, q, t, d, w, rfl, hj, hG⟩
    have hn := hG.1
    have h12 := p12 hn
    refine hV 60 0 _ _ _ ⟨p, rfl, br_ne (fun c => ⟨n, f, hh, rfl, fun S h0 h1 => ?_⟩) (fun c => hk _ (Or.inl ⟨c, rfl⟩))⟩
    have hS : S < 2 ^ n := by
      rcases Nat.eq_zero_or_pos n with e | e
      · rw [h0 e]; exact Nat.pow_pos (by decide)
      · exact (h1 e).1
    have x1 := e1_72 hG S
    have x2 := pop_le hS hn
    refine ⟨n, f, S, hh, rfl, by omega, ⟨_, rfl, ?_⟩⟩
    rw [bc_n (by omega)]
    refine ⟨_, _, _, p, rfl, abs_n (by omega), by omega, by omega, hk _ ?_⟩
    rcases Nat.eq_zero_or_pos n with e | e
    · refine Or.inr (Or.inl ⟨c, e, ?_⟩)
      rw [h0 e, pop_0]
      rfl
    · exact Or.inr (Or.inr ⟨c, e, S, h1 e, rfl⟩)
end
section
/-! likeness and the rich: pure, then of the object -/
theorem cs_step (α β q s m x y : Int) : α * α * (q + (x * x + y * y)) - 2 * (α * β) * (s + (x + y)) + 2 * (m + 1) * (β * β) = (α * α * q - 2 * (α * β) * s + 2 * m * (β * β)) + (α * x - β) * (α * x - β) + (α * y - β) * (α * y - β) := by grind
theorem sq_nn (a : Int) : 0 ≤ a * a := by
  rcases Int.le_total 0 a with h | h
  · exact Int.mul_nonneg h h
  · exact Int.mul_nonneg_of_nonpos_of_nonpos h h
abbrev Lk : Type := Nat × Nat × Nat × Nat
def lks (f : Nat → Nat) (a b : Nat) (c : Lk) : Lk := bif (f a).testBit b then (c.1 + 1, c.2.1 + pop (f a) * pop (f b), c.2.2.1 + (pop (f a) + pop (f b)), c.2.2.2 + (pop (f a) * pop (f a) + pop (f b) * pop (f b))) else c
def lk2 (f : Nat → Nat) (a : Nat) : Nat → Nat → Lk → Lk
  | 0, _, c => c
  | m + 1, b, c => lk2 f a m (b + 1) (lks f a b c)
def lk1 (f : Nat → Nat) (n : Nat) : Nat → Nat → Lk → Lk
  | 0, _, c => c
  | m + 1, a, c => lk1 f n m (a + 1) (lk2 f a (n - (a + 1)) (a + 1) c)
def LK (n : Nat) (f : Nat → Nat) : Lk := lk1 f n n 0 (0, 0, 0, 0)
def okL (t : Nat) (c : Lk) : Prop := c.1 ≤ t ∧ c.2.1 ≤ 144 * c.1 ∧ c.2.2.1 ≤ 24 * c.1 ∧ c.2.2.2 ≤ 288 * c.1 ∧ ∀ α β : Int, 0 ≤ α * α * (c.2.2.2 : Int) - 2 * (α * β) * (c.2.2.1 : Int) + 2 * (c.1 : Int) * (β * β)
theorem lks_ok {f : Nat → Nat} {a b t : Nat} {c : Lk} (ha : pop (f a) ≤ 12) (hb : pop (f b) ≤ 12) (h : okL t c) : okL (t + 1) (lks f a b c) := by
  unfold lks
  cases (f a).testBit b with
  | false => exact ⟨Nat.le_succ_of_le h.1, h.2⟩
  | true =>
    obtain ⟨h1, h2, h3, h4, h5⟩ := h
    have x1 : pop (f a) * pop (f b) ≤ 12 * 12 := Nat.mul_le_mul ha hb
    have x2 : pop (f a) * pop (f a) ≤ 12 * 12 := Nat.mul_le_mul ha ha
    have x3 : pop (f b) * pop (f b) ≤ 12 * 12 := Nat.mul_le_mul hb hb
    refine ⟨by show c.1 + 1 ≤ t + 1; omega, by show c.2.1 + _ ≤ 144 * (c.1 + 1); omega, by show c.2.2.1 + _ ≤ 24 * (c.1 + 1); omega, by show c.2.2.2 + _ ≤ 288 * (c.1 + 1); omega, fun α β => ?_⟩
    show 0 ≤ α * α * ((c.2.2.2 + (pop (f a) * pop (f a) + pop (f b) * pop (f b)) : Nat) : Int) - 2 * (α * β) * ((c.2.2.1 + (pop (f a) + pop (f b)) : Nat) : Int) + 2 * ((c.1 + 1 : Nat) : Int) * (β * β)
    push_cast
    rw [cs_step]
    have y1 := h5 α β
    have y2 := sq_nn (α * (pop (f a) : Int) - β)
    have y3 := sq_nn (α * (pop (f b) : Int) - β)
    omega
theorem lk2_ok {f : Nat → Nat} {n a : Nat} (hp : ∀ v, v < n → pop (f v) ≤ 12) (ha : a < n) (m : Nat) : ∀ b t c, b + m = n → okL t c → okL (t + m) (lk2 f a m b c) := by
  induction m with
  | zero => intro b t c _ h; exact h
  | succ m ih =>
    intro b t c hb h
    have := ih (b + 1) (t + 1) (lks f a b c) (by omega) (lks_ok (hp a ha) (hp b (by omega)) h)
    rw [show t + (m + 1) = t + 1 + m by omega]
    exact this
theorem okL_mono {t t' : Nat} {c : Lk} (h : okL t c) (ht : t ≤ t') : okL t' c := ⟨Nat.le_trans h.1 ht, h.2⟩
theorem lk1_ok {f : Nat → Nat} {n : Nat} (hp : ∀ v, v < n → pop (f v) ≤ 12) (m : Nat) : ∀ a t c, a + m = n → okL t c → okL (t + m * n) (lk1 f n m a c) := by
  induction m with
  | zero => intro a t c _ h; rw [Nat.zero_mul]; exact h
  | succ m ih =>
    intro a t c ha h
    have h1 := lk2_ok hp (by omega : a < n) (n - (a + 1)) (a + 1) t c (by omega) h
    have h2 := ih (a + 1) _ _ (by omega) h1
    refine okL_mono h2 ?_
    rw [Nat.succ_mul]
    omega
theorem LK_ok {n : Nat} {f : Nat → Nat} (hG : Gr n f) : okL 144 (LK n f) := by
  have hn := hG.1
  have := lk1_ok (f := f) (n := n) (fun v hv => by have := pop_le (hG.2.1 v hv) hn; omega) n 0 0 (0, 0, 0, 0) (by omega) ⟨Nat.le_refl _, Nat.zero_le _, Nat.zero_le _, Nat.zero_le _, fun α β => by simp⟩
  refine okL_mono this ?_
  have : n * n ≤ 12 * 12 := Nat.mul_le_mul hn hn
  omega
theorem LK_cs {t : Nat} {c : Lk} (h : okL t c) : c.2.2.1 * c.2.2.1 ≤ 2 * c.1 * c.2.2.2 := by
  obtain ⟨-, -, h3, -, h5⟩ := h
  rcases Nat.eq_zero_or_pos c.1 with h0 | h0
  · have : c.2.2.1 = 0 := by omega
    rw [this, Nat.zero_mul]
    exact Nat.zero_le _
  · have h6 := h5 (2 * (c.1 : Int)) (c.2.2.1 : Int)
    have h7 : (2 * (c.1 : Int)) * (2 * (c.1 : Int)) * (c.2.2.2 : Int) - 2 * ((2 * (c.1 : Int)) * (c.2.2.1 : Int)) * (c.2.2.1 : Int) + 2 * (c.1 : Int) * ((c.2.2.1 : Int) * (c.2.2.1 : Int)) = (2 * (c.1 : Int)) * (2 * (c.1 : Int) * (c.2.2.2 : Int) - (c.2.2.1 : Int) * (c.2.2.1 : Int)) := by grind
    rw [h7] at h6
    have h8 : 0 ≤ 2 * (c.1 : Int) * (c.2.2.2 : Int) - (c.2.2.1 : Int) * (c.2.2.1 : Int) := Int.nonneg_of_mul_nonneg_right h6 (by omega)
    have h9 : ((c.2.2.1 * c.2.2.1 : Nat) : Int) ≤ ((2 * c.1 * c.2.2.2 : Nat) : Int) := by push_cast; omega
    exact Int.ofNat_le.mp h9
theorem LK_b {c : Lk} (h : okL 144 c) : 4 * c.1 * c.2.1 < 2 ^ 25 ∧ c.2.2.1 * c.2.2.1 < 2 ^ 25 ∧ 2 * c.1 * c.2.2.2 < 2 ^ 25 := by
  obtain ⟨h1, h2, h3, h4, -⟩ := h
  have a1 : 4 * c.1 ≤ 576 := by omega
  have a2 : c.2.1 ≤ 20736 := by omega
  have a3 : c.2.2.1 ≤ 3456 := by omega
  have a4 : c.2.2.2 ≤ 41472 := by omega
  have a5 : 2 * c.1 ≤ 288 := by omega
  have b1 := Nat.mul_le_mul a1 a2
  have b2 := Nat.mul_le_mul a3 a3
  have b3 := Nat.mul_le_mul a5 a4
  omega
theorem abs_d {a b : Nat} (ha : a < 2 ^ 25) (hb : b < 2 ^ 25) : (if 0 ≤ nI a - nI b then nI a - nI b else 0 - (nI a - nI b)) = nI ((a - b) + (b - a)) := by
  rcases Nat.lt_or_ge a b with h | h
  · have h1 : ¬ 0 ≤ nI a - nI b := Int32.not_le.mpr (pk_sneg (by omega) h)
    rw [if_neg h1]
    have e : 0 - (nI a - nI b) = nI b - nI a := by
      rw [Int32.sub_eq_add_neg, Int32.zero_add, Int32.neg_sub]
    rw [e, pk_sub (by omega)]
    congr 1
    omega
  · rw [pk_sub h, if_pos (nI_pos' (by omega))]
    congr 1
    omega
def aLik (n : Nat) (f : Nat → Nat) (p : Int32) : Int32 := bif isP p then shr (nI (4 * (LK n f).1 * (LK n f).2.1) - nI ((LK n f).2.2.1 * (LK n f).2.2.1)) ((4 * (LK n f).1 * (LK n f).2.1 - (LK n f).2.2.1 * (LK n f).2.2.1) + ((LK n f).2.2.1 * (LK n f).2.2.1 - 4 * (LK n f).1 * (LK n f).2.1)) (2 * (LK n f).1 * (LK n f).2.2.2 - (LK n f).2.2.1 * (LK n f).2.2.1) p else -2
def tC_likeness : mT := fun as h k => ∃ n f p, hC h n f ∧ as = [.inr 0, .inl p] ∧ k (some (aLik n f p)) h
set_option maxHeartbeats 4000000 in
set_option maxRecDepth 20000 in
theorem c_C_likeness : m_Con cls 0 TB y_C_likeness b_C_likeness 10 (some .int) 0 2 tC_likeness := by
  refine m_con (code := k_C_likeness) (fld := f_C) (fpt := p_C) (kon := []) (call := [(101, true, 1, tC_isPart), (36, true, 2, tC_has), (43, true, 1, t_bitCount), (110, true, 3, tC_share)]) (C := R_C) (T := T_C) (N := 7) (by decide) (Or.inl ⟨rfl, rfl⟩) ok_C_likeness tb_C (fun l D cA ad => m_calls ?_) ?_ ?_
  · exact List.forall_mem_cons.mpr ⟨o_C101 ⟨Nat.le_of_ble_eq_true rfl, Nat.le_of_ble_eq_true rfl⟩, List.forall_mem_cons.mpr ⟨o_C36 ⟨Nat.le_of_ble_eq_true rfl, Nat.le_of_ble_eq_true rfl⟩, List.forall_mem_cons.mpr ⟨o_C43 ⟨Nat.le_of_ble_eq_true rfl, Nat.le_of_ble_eq_true rfl⟩, List.forall_mem_cons.mpr ⟨o_C110 ⟨Nat.le_of_ble_eq_true rfl, Nat.le_of_ble_eq_true rfl⟩, fun _ h => absurd h List.not_mem_nil⟩⟩⟩⟩
  · rintro as h k ⟨n, f, p, ⟨j, r, q, t, d, w, rfl, hj, hG⟩, rfl, hk⟩
    exact Nat.le_of_ble_eq_true rfl
  · rintro as h k ⟨n, f, p, ⟨j, r, q, t, d, w, rfl, hj, hG⟩, rfl, hk⟩ V hV
    have hn := hG.1
    refine hV 60 0 _ _ _ ⟨p, rfl, br_ne (fun c => ?_) (fun c => ?_)⟩
    · rw [aLik, c] at hk
      generalize hans : LK n f = R at hk
      have hR : okL 144 R := by rw [← hans]; exact LK_ok hG
      have inner : ∀ m a b (c : Lk) (y8 y9 : Option mV), a < n → b + m = n →
          (∀ (c' : Lk) (y7 y8 y9 : Option mV), c' = lk2 f a m b c → V (23, [some (.inr 0), some (.inl p), some (.inl (nI c'.1)), some (.inl (nI c'.2.1)), some (.inl (nI c'.2.2.1)), some (.inl (nI c'.2.2.2)), some (.inl (nI (a + 1))), y7, y8, y9], [], mkC j (nI n) r q t d w)) →
          V (38, [some (.inr 0), some (.inl p), some (.inl (nI c.1)), some (.inl (nI c.2.1)), some (.inl (nI c.2.2.1)), some (.inl (nI c.2.2.2)), some (.inl (nI a)), some (.inl (nI b)), y8, y9], [], mkC j (nI n) r q t d w) := by
        intro m
        induction m with
        | zero =>
          intro a b c y8 y9 ha hb hcont
          exact hV 80 38 _ _ _ (br_ge (a := b) (b := n) (by omega) (by omega) (fun _ => nm_r (nI_1 a) (hcont c _ _ _ rfl)) (fun c => absurd c (by omega)))
        | succ m ih =>
          intro a b c y8 y9 ha hb hcont
          have ga := g31 hG ha
          have gb := g31 hG (v := b) (by omega)
          refine hV 80 38 _ _ _ (br_ge (a := b) (b := n) (by omega) (by omega) (fun c => absurd c (by omega)) (fun _ => And.intro (vp_in_nI (by omega) (by omega)) (nm_r (by rw [clamp12 ha hn, hj a ha]) ⟨f a, b, rfl, by omega, by omega, br_eq (fun c1 => nm_r (nI_1 b) ?_) (fun c1 => ?_)⟩)))
          · refine ih a (b + 1) c _ _ ha (by omega) (fun c' y7 y8 y9 hc' => hcont c' y7 y8 y9 ?_)
            rw [hc', lk2, lks, c1]
            rfl
          · refine And.intro (vp_in_nI (by omega) (by omega)) (nm_r (by rw [clamp12 ha hn, hj a ha]) ⟨_, rfl, ?_⟩)
            rw [bc_n ga]
            refine And.intro (vp_in_nI (by omega) (by omega)) (nm_r (by rw [clamp12 (v := b) (n := n) (by omega) hn, hj b (by omega)]) ⟨_, rfl, ?_⟩)
            rw [bc_n gb]
            refine nm_r (nI_1 _) (nm_r (pk_mul _ _) (nm_r (nI_add _ _) (nm_r (nI_add _ _) (nm_r (nI_add _ _) (nm_r (pk_mul _ _) (nm_r (pk_mul _ _) (nm_r (nI_add _ _) (nm_r (nI_add _ _) (nm_r (nI_1 b) ?_)))))))))
            refine ih a (b + 1) (c.1 + 1, c.2.1 + pop (f a) * pop (f b), c.2.2.1 + (pop (f a) + pop (f b)), c.2.2.2 + (pop (f a) * pop (f a) + pop (f b) * pop (f b))) _ _ ha (by omega) (fun c' y7 y8 y9 hc' => hcont c' y7 y8 y9 ?_)
            rw [hc', lk2, lks, c1]
            rfl
      have outer : ∀ m a (c : Lk) (y7 y8 y9 : Option mV), a + m = n → lk1 f n m a c = R → V (23, [some (.inr 0), some (.inl p), some (.inl (nI c.1)), some (.inl (nI c.2.1)), some (.inl (nI c.2.2.1)), some (.inl (nI c.2.2.2)), some (.inl (nI a)), y7, y8, y9], [], mkC j (nI n) r q t d w) := by
        intro m
        induction m with
        | zero =>
          intro a c y7 y8 y9 ha he
          have he : c = R := he
          subst he
          obtain ⟨b1, b2, b3⟩ := LK_b hR
          have hcs := LK_cs hR
          refine hV 80 23 _ _ _ (br_ge (a := a) (b := n) (by omega) (by omega) (fun _ => nm_r (pk_mul 4 c.1) (nm_r (pk_mul _ _) (nm_r (pk_mul _ _) (nm_e (nm_r (pk_mul 2 c.1) (nm_r (pk_mul _ _) (nm_r (pk_mul _ _) (nm_r (pk_sub hcs) ⟨_, _, _, p, rfl, abs_d b1 b2, by omega, by omega, hk⟩)))))))) (fun c => absurd c (by omega)))
        | succ m ih =>
          intro a c y7 y8 y9 ha he
          refine hV 80 23 _ _ _ (br_ge (a := a) (b := n) (by omega) (by omega) (fun c => absurd c (by omega)) (fun _ => nm_r (nI_1 a) ?_))
          refine inner (n - (a + 1)) a (a + 1) c _ _ (by omega) (by omega) (fun c' y7 y8 y9 hc' => ih (a + 1) c' y7 y8 y9 (by omega) ?_)
          rw [hc']
          exact he
      exact outer n 0 (0, 0, 0, 0) none none none (by omega) hans
    · rw [aLik, c] at hk; exact hk
def rS (n : Nat) (f : Nat → Nat) (x : Int32) : Nat := mk (fun v => decide (x < nI (pop (f v)))) n
def aRich (n : Nat) (f : Nat → Nat) (x p : Int32) : Int32 := bif isP p && decide (0 ≤ x) then shr (nI (e1 n f (rS n f x))) (e1 n f (rS n f x)) (prs (pop (rS n f x))) p else -2
theorem rS_eq {n : Nat} {f : Nat → Nat} (hG : Gr n f) (x : Int32) : sd (2 ^ n - 1) (lo n f (2 ^ n - 1) (fun d => decide (nI d ≤ x))) = rS n f x := by
  refine tb_ext (sd_lt (pw_pos n)) (mk_lt _ _) (fun i hi => ?_)
  have e : dg f (2 ^ n - 1) i = pop (f i) := by
    rw [dg_n hG hi, pop_n (hG.2.1 i hi) hG.1]
    exact cn_congr (fun u hu => by rw [tb_all]; simp [hu])
  rw [tb_sd, tb_lo, rS, tb_mk, tb_all, e]
  by_cases h : nI (pop (f i)) ≤ x
  · simp [hi, h, Int32.not_lt.mpr h]
  · simp [hi, h, Int32.not_le.mp h]
def tC_rich : mT := fun as h k => ∃ n f x p, hC h n f ∧ as = [.inr 0, .inl x, .inl p] ∧ k (some (aRich n f x p)) h
set_option maxHeartbeats 4000000 in
set_option maxRecDepth 20000 in
theorem c_C_rich : m_Con cls 0 TB y_C_rich b_C_rich 4 (some .int) 0 3 tC_rich := by
  refine m_con (code := k_C_rich) (fld := f_C) (fpt := p_C) (kon := []) (call := [(101, true, 1, tC_isPart), (56, false, 1, tC_allNodes), (63, false, 3, tC_looseIn), (114, false, 2, tC_edgesWithin), (43, true, 1, t_bitCount), (117, true, 1, tC_pairsOf), (110, true, 3, tC_share)]) (C := R_C) (T := T_C) (N := 7) (by decide) (Or.inl ⟨rfl, rfl⟩) ok_C_rich tb_C (fun l D cA ad => m_calls ?_) ?_ ?_
  · exact List.forall_mem_cons.mpr ⟨o_C101 ⟨Nat.le_of_ble_eq_true rfl, Nat.le_of_ble_eq_true rfl⟩, List.forall_mem_cons.mpr ⟨o_C56 ⟨Nat.le_of_ble_eq_true rfl, Nat.le_of_ble_eq_true rfl⟩, List.forall_mem_cons.mpr ⟨o_C63 ⟨Nat.le_of_ble_eq_true rfl, Nat.le_of_ble_eq_true rfl⟩, List.forall_mem_cons.mpr ⟨o_C114 ⟨Nat.le_of_ble_eq_true rfl, Nat.le_of_ble_eq_true rfl⟩, List.forall_mem_cons.mpr ⟨o_C43 ⟨Nat.le_of_ble_eq_true rfl, Nat.le_of_ble_eq_true rfl⟩, List.forall_mem_cons.mpr ⟨o_C117 ⟨Nat.le_of_ble_eq_true rfl, Nat.le_of_ble_eq_true rfl⟩, List.forall_mem_cons.mpr ⟨o_C110 ⟨Nat.le_of_ble_eq_true rfl, Nat.le_of_ble_eq_true rfl⟩, fun _ h => absurd h List.not_mem_nil⟩⟩⟩⟩⟩⟩⟩
  · rintro as h k ⟨n, f, x, p, ⟨j, r, q, t, d, w, rfl, hj, hG⟩, rfl, hk⟩
    exact Nat.le_of_ble_eq_true rfl
  · rintro as h k ⟨n, f, x, p, ⟨j, r, q, t, d, w, rfl, hj, hG⟩, rfl, hk⟩ V hV
    have hh : hC (mkC j (nI n) r q t d w) n f := ⟨j, r, q, t, d, w, rfl, hj, hG⟩
    have hn := hG.1
    have h12 := p12 hn
    refine hV 60 0 _ _ _ ⟨p, rfl, br_eq (fun c => ?_) (fun c => And.intro (fun c2 => ?_) (fun c2 => ?_))⟩
    · rw [aRich, c] at hk; exact hk
    · have c2 : 0 ≤ x := c2
      rw [aRich, c, decide_eq_true c2] at hk
      have hp := pw_pos n
      refine ⟨n, f, hh, rfl, ⟨n, f, hh, rfl, ⟨n, f, _, _, hh, rfl, by omega, nm_e (nm_r (nx_sd _ _) ?_)⟩⟩⟩
      rw [rS_eq hG]
      have hr : rS n f x < 2 ^ n := mk_lt _ _
      have x1 := e1_72 hG (rS n f x)
      have x2 := pop_le hr hn
      have x3 := prs_66 (pop (rS n f x)) (by omega)
      refine ⟨n, f, _, hh, rfl, by omega, ⟨_, rfl, ?_⟩⟩
      rw [bc_n (by omega)]
      exact ⟨_, rfl, by omega, ⟨_, _, _, p, rfl, abs_n (by omega), by omega, by omega, hk⟩⟩
    · have c2 : ¬ 0 ≤ x := c2
      rw [aRich, decide_eq_false c2, Bool.and_false] at hk
      exact hk
end
section
/-! rows made graphs: pure, then of the object -/
theorem tb_ju {μ : Nat → Nat} {v u : Nat} (huv : u ≠ v) (x i : Nat) : (ju μ v u x).testBit i = ((μ x).testBit i || (decide (x = v) && decide (i = u)) || (decide (x = u) && decide (i = v))) := by
  unfold ju
  by_cases h1 : x = u
  · subst h1
    rw [up_s, up_n _ _ _ huv, Nat.testBit_or, tb_pow]
    simp [huv, eq_comm]
  · rw [up_n _ _ _ h1]
    by_cases h2 : x = v
    · subst h2
      rw [up_s, Nat.testBit_or, tb_pow]
      simp [h1, eq_comm]
    · rw [up_n _ _ _ h2]
      simp [h1, h2]
section MK
variable {q : Nat}
theorem ju_gr {μ : Nat → Nat} {v u : Nat} (hG : Gr q μ) (hv : v < q) (hu : u < q) (huv : u ≠ v) : Gr q (ju μ v u) := by
  obtain ⟨h1, h2, h3, h4⟩ := hG
  have hvu : v ≠ u := fun z => huv z.symm
  refine ⟨h1, fun x hx => ?_, fun x hx => ?_, fun x y hx hy => ?_⟩
  · apply Nat.lt_pow_two_of_testBit
    intro i hi
    rw [tb_ju huv, tb_hi (h2 x hx) hi]
    simp [show ¬ i = u by omega, show ¬ i = v by omega]
  · rw [tb_ju huv, h3 x hx]
    by_cases a : x = v
    · subst a; simp [hvu]
    · simp [a]
  · rw [tb_ju huv, tb_ju huv, h4 x y hx hy]
    rw [Bool.or_assoc, Bool.or_assoc, Bool.or_comm (decide (x = v) && decide (y = u)), Bool.and_comm (decide (x = u)), Bool.and_comm (decide (x = v))]
theorem pop_add {A b m : Nat} (hA : A < 2 ^ m) (hm : m ≤ 12) (hbm : b < m) (hb : A.testBit b = false) : pop (A ||| 2 ^ b) = pop A + 1 := by
  have h1 : A ||| 2 ^ b < 2 ^ m := Nat.or_lt_two_pow hA (Nat.pow_lt_pow_right (by decide) hbm)
  have h2 := pop_rm h1 hm (b := b) (by rw [Nat.testBit_or, tb_pow]; simp)
  have h3 : sd (A ||| 2 ^ b) (2 ^ b) = A := by
    apply Nat.eq_of_testBit_eq
    intro i
    rw [tb_sd, Nat.testBit_or, tb_pow]
    by_cases hi : b = i
    · subst hi; simp [hb]
    · simp [hi]
  rw [h3] at h2
  omega
theorem mt_ju {μ : Nat → Nat} {v u : Nat} (hG : Gr q μ) (hv : v < q) (hu : u < q) (huv : u ≠ v) (hn : (μ v).testBit u = false) : mt q (ju μ v u) = mt q μ + 2 := by
  have hn2 : (μ u).testBit v = false := by rw [hG.2.2.2 u v hu hv]; exact hn
  have e1 := sm_one (g := fun x => pop (ju μ v u x)) (g' := fun x => pop (up μ v (μ v ||| 2 ^ u) x)) hu (fun i _ hi => by simp only [ju, up_n _ _ _ hi])
  have e2 := sm_one (g := fun x => pop (up μ v (μ v ||| 2 ^ u) x)) (g' := fun x => pop (μ x)) hv (fun i _ hi => by simp only [up_n _ _ _ hi])
  have k1 := pop_add (hG.2.1 v hv) hG.1 hu hn
  have k2 := pop_add (hG.2.1 u hu) hG.1 hv hn2
  simp only [ju, up_s, up_n _ _ _ huv] at e1 e2
  show sm (fun x => pop (ju μ v u x)) q = sm (fun x => pop (μ x)) q + 2
  simp only [ju, up_n _ _ _ huv]
  omega
/-- what a round of making keeps -/
def svI (q v P : Nat) (ω μ : Nat → Nat) : Prop := Gr q μ ∧ v < q ∧ P.testBit v = true ∧ ω v = 0 ∧ (∀ u, u < q → ω u ≤ 20) ∧ (∀ x y, x < q → y < q → (μ x).testBit y = true → ω x = 0 ∨ ω y = 0) ∧ ∀ u, u < q → (μ v).testBit u = true → P.testBit u = true ∨ ω u = 0
theorem sv_step {v P u : Nat} {ω μ : Nat → Nat} (h : svI q v P ω μ) (hu : wm ω P q = some u) : u < q ∧ u ≠ v ∧ 0 < ω u ∧ (μ v).testBit u = false ∧ svI q v (P ||| 2 ^ u) (up ω u (ω u - 1)) (ju μ v u) := by
  obtain ⟨h1, h2, h3, h4, h5, h6, h7⟩ := h
  obtain ⟨a1, a2, a3⟩ := wm_in hu
  have huv : u ≠ v := fun z => by rw [z, h3] at a2; cases a2
  have hvu : v ≠ u := fun z => huv z.symm
  have hnb : (μ v).testBit u = false := by
    cases hb : (μ v).testBit u with
    | false => rfl
    | true =>
      rcases h7 u a1 hb with h | h
      · rw [h] at a2; cases a2
      · omega
  have keep : ∀ x, ω x = 0 → up ω u (ω u - 1) x = 0 := fun x hx => by
    by_cases e : x = u
    · rw [e] at hx; omega
    · rw [up_n _ _ _ e]; exact hx
  refine ⟨a1, huv, a3, hnb, ju_gr h1 h2 a1 huv, h2, by rw [Nat.testBit_or, h3]; rfl, keep v h4, fun x hx => ?_, fun x y hx hy hb => ?_, fun x hx hb => ?_⟩
  · by_cases e : x = u
    · rw [e, up_s]; have := h5 u a1; omega
    · rw [up_n _ _ _ e]; exact h5 x hx
  · rw [tb_ju huv] at hb
    simp only [Bool.or_eq_true, Bool.and_eq_true, decide_eq_true_eq] at hb
    rcases hb with (hb | ⟨e, -⟩) | ⟨-, e⟩
    · rcases h6 x y hx hy hb with h | h
      · exact Or.inl (keep x h)
      · exact Or.inr (keep y h)
    · rw [e]; exact Or.inl (keep v h4)
    · rw [e]; exact Or.inr (keep v h4)
  · rw [tb_ju huv] at hb
    simp only [Bool.or_eq_true, Bool.and_eq_true, decide_eq_true_eq] at hb
    rcases hb with (hb | ⟨-, e⟩) | ⟨e, -⟩
    · rcases h7 x hx hb with h | h
      · left; rw [Nat.testBit_or, h]; rfl
      · exact Or.inr (keep x h)
    · left; rw [Nat.testBit_or, tb_pow]; simp [e]
    · exact absurd e hvu
/-- between rounds -/
def mkI (q : Nat) (ω μ : Nat → Nat) : Prop := Gr q μ ∧ (∀ u, u < q → ω u ≤ 20) ∧ ∀ x y, x < q → y < q → (μ x).testBit y = true → ω x = 0 ∨ ω y = 0
theorem sv_begin {v : Nat} {ω μ : Nat → Nat} (h : mkI q ω μ) (hv : wm ω 0 q = some v) : v < q ∧ 0 < ω v ∧ svI q v (2 ^ v) (up ω v 0) μ := by
  obtain ⟨h1, h2, h3⟩ := h
  obtain ⟨a1, -, a3⟩ := wm_in hv
  have keep : ∀ x, ω x = 0 → up ω v 0 x = 0 := fun x hx => by
    by_cases e : x = v
    · rw [e, up_s]
    · rw [up_n _ _ _ e]; exact hx
  refine ⟨a1, a3, h1, a1, by rw [tb_pow]; simp, up_s _ _ _, fun u hu => ?_, fun x y hx hy hb => ?_, fun u hu hb => ?_⟩
  · by_cases e : u = v
    · rw [e, up_s]; omega
    · rw [up_n _ _ _ e]; exact h2 u hu
  · rcases h3 x y hx hy hb with h | h
    · exact Or.inl (keep x h)
    · exact Or.inr (keep y h)
  · rcases h3 v u a1 hu hb with h | h
    · omega
    · exact Or.inr (keep u h)
theorem svI_mk {v P : Nat} {ω μ : Nat → Nat} (h : svI q v P ω μ) : mkI q ω μ := ⟨h.1, h.2.2.2.2.1, h.2.2.2.2.2.1⟩
theorem sv_mk {l v : Nat} : ∀ {P : Nat} {ω μ : Nat → Nat} {s : (Nat → Nat) × (Nat → Nat)}, svI q v P ω μ → sv q l v ω μ P = some s → mkI q s.1 s.2 ∧ mt q s.2 = mt q μ + 2 * l ∧ ∀ x, ω x = 0 → s.1 x = 0 := by
  induction l with
  | zero =>
    intro P ω μ s h e
    rw [sv] at e
    cases e
    exact ⟨svI_mk h, rfl, fun x hx => hx⟩
  | succ l ih =>
    intro P ω μ s h e
    rw [sv] at e
    split at e
    · cases e
    · rename_i u hu
      obtain ⟨b1, b2, b3, b4, b5⟩ := sv_step h hu
      obtain ⟨c1, c2, c3⟩ := ih b5 e
      rw [mt_ju h.1 h.2.1 b1 b2 b4] at c2
      refine ⟨c1, by omega, fun x hx => c3 x ?_⟩
      by_cases e : x = u
      · rw [e] at hx; omega
      · rw [up_n _ _ _ e]; exact hx
theorem mkr_none {r : Nat} {ω μ : Nat → Nat} (h : wm ω 0 q = none) : mkr q r ω μ = some (ω, μ) := by
  cases r with
  | zero => rfl
  | succ r => rw [mkr, h]
theorem mkr_mk (r : Nat) : ∀ {ω μ : Nat → Nat} {s : (Nat → Nat) × (Nat → Nat)}, mkI q ω μ → mkr q r ω μ = some s → mkI q s.1 s.2 := by
  induction r with
  | zero => intro ω μ s h e; rw [mkr] at e; cases e; exact h
  | succ r ih =>
    intro ω μ s h e
    rw [mkr] at e
    split at e
    · cases e; exact h
    · rename_i v hv
      split at e
      · cases e
      · rename_i s1 hs1
        exact ih (sv_mk (sv_begin h hv).2.2 hs1).1 e
theorem gr_z {q : Nat} (hq : q ≤ 12) : Gr q (fun _ => 0) := ⟨hq, fun _ _ => Nat.pow_pos (by decide), fun _ _ => by simp, fun _ _ _ _ => by simp⟩
theorem mk_0 {q : Nat} {g : Nat → Nat} (hq : q ≤ 12) (hg : ∀ u, u < q → g u ≤ 20) : mkI q g (fun _ => 0) := ⟨gr_z hq, hg, fun x y _ _ h => by simp at h⟩
end MK
def tC_want : mT := fun as h k => ∃ j n r q t d w x, h = mkC j n r (nI q) t d w ∧ q ≤ 12 ∧ as = [.inr 0, .inl x] ∧ (¬ (0 ≤ x ∧ x ≤ 20) → k (some (-2)) h) ∧ (0 ≤ x → x ≤ 20 → (q = 12 → k (some (-4)) h) ∧ (q < 12 → k (some (nI (q + 1))) (mkC j n (upd r q x) (nI (q + 1)) t d w)))
set_option maxHeartbeats 4000000 in
set_option maxRecDepth 20000 in
theorem c_C_want : m_Con cls 0 TB y_C_want b_C_want 2 (some .int) 0 0 tC_want := by
  refine m_con (code := k_C_want) (fld := f_C) (fpt := p_C) (kon := []) (call := []) (C := R_C) (T := T_C) (N := 7) (by decide) (Or.inl ⟨rfl, rfl⟩) ok_C_want tb_C (fun l D cA ad => m_calls ?_) ?_ ?_
  · exact fun _ h => absurd h List.not_mem_nil
  · rintro as h k ⟨j, n, r, q, t, d, w, x, rfl, hq, rfl, hk1, hk2⟩
    exact Nat.le_of_ble_eq_true rfl
  · rintro as h k ⟨j, n, r, q, t, d, w, x, rfl, hq, rfl, hk1, hk2⟩ V hV
    refine hV 60 0 _ _ _ (And.intro (fun c => hk1 (fun z => absurd c (Int32.not_lt.mpr z.1))) (fun c => And.intro (fun c2 => ?_) (fun c2 => hk1 (fun z => c2 z.2))))
    have c : ¬ x < 0 := c
    obtain ⟨h1, h2⟩ := hk2 (Int32.not_lt.mp c) c2
    refine br_lt (a := q) (b := 12) (by omega) (by omega) (fun c3 => And.intro (vp_in_nI c3 (by omega)) (nm_r (nI_1 q) ?_)) (fun c3 => h1 (by omega))
    have e : (nI q).toNatClampNeg = q := nI_clamp (by omega)
    show k (some (nI (q + 1))) (mkC j n (upd r (nI q).toNatClampNeg x) (nI (q + 1)) t d w)
    rw [e]
    exact h2 c3
def tC_unwant : mT := fun as h k => ∃ j n r q t d w, h = mkC j n r (nI q) t d w ∧ as = [.inr 0] ∧ k (some (nI q)) (mkC j n r (nI 0) t d w)
set_option maxHeartbeats 4000000 in
set_option maxRecDepth 20000 in
theorem c_C_unwant : m_Con cls 0 TB y_C_unwant b_C_unwant 2 (some .int) 0 0 tC_unwant := by
  refine m_con (code := k_C_unwant) (fld := f_C) (fpt := p_C) (kon := []) (call := []) (C := R_C) (T := T_C) (N := 7) (by decide) (Or.inl ⟨rfl, rfl⟩) ok_C_unwant tb_C (fun l D cA ad => m_calls ?_) ?_ ?_
  · exact fun _ h => absurd h List.not_mem_nil
  · rintro as h k ⟨j, n, r, q, t, d, w, rfl, rfl, hk⟩
    exact Nat.le_of_ble_eq_true rfl
  · rintro as h k ⟨j, n, r, q, t, d, w, rfl, rfl, hk⟩ V hV
    exact hV 60 0 _ _ _ hk
def oI (o : Option Nat) : Int32 := match o with
  | none => -1
  | some u => nI u
def oM (ω : Nat → Nat) (o : Option Nat) : Nat := match o with
  | none => 0
  | some u => ω u
def tC_wantsMost : mT := fun as h k => ∃ j n r q t d w ω P, h = mkC j n r (nI q) t d w ∧ q ≤ 12 ∧ (∀ v, v < q → w v = nI (ω v) ∧ ω v ≤ 20) ∧ as = [.inr 0, .inl (nI P)] ∧ P < 4096 ∧ k (some (oI (wm ω P q))) h
set_option maxHeartbeats 4000000 in
set_option maxRecDepth 20000 in
theorem c_C_wantsMost : m_Con cls 0 TB y_C_wantsMost b_C_wantsMost 5 (some .int) 0 1 tC_wantsMost := by
  refine m_con (code := k_C_wantsMost) (fld := f_C) (fpt := p_C) (kon := []) (call := [(36, true, 2, tC_has)]) (C := R_C) (T := T_C) (N := 7) (by decide) (Or.inl ⟨rfl, rfl⟩) ok_C_wantsMost tb_C (fun l D cA ad => m_calls ?_) ?_ ?_
  · exact List.forall_mem_cons.mpr ⟨o_C36 ⟨Nat.le_of_ble_eq_true rfl, Nat.le_of_ble_eq_true rfl⟩, fun _ h => absurd h List.not_mem_nil⟩
  · rintro as h k ⟨j, n, r, q, t, d, w, ω, P, rfl, hq, hw, rfl, hP, hk⟩
    exact Nat.le_of_ble_eq_true rfl
  · rintro as h k ⟨j, n, r, q, t, d, w, ω, P, rfl, hq, hw, rfl, hP, hk⟩ V hV
    have loop : ∀ m v, v + m = q → V (7, [some (.inr 0), some (.inl (nI P)), some (.inl (oI (wm ω P v))), some (.inl (nI (oM ω (wm ω P v)))), some (.inl (nI v))], [], mkC j n r (nI q) t d w) := by
      intro m
      induction m with
      | zero =>
        intro v hv
        have e : v = q := by omega
        subst e
        exact hV 60 7 _ _ _ (br_ge (a := v) (b := v) (by omega) (by omega) (fun _ => hk) (fun c => absurd c (by omega)))
      | succ m ih =>
        intro v hv
        have hn := ih (v + 1) (by omega)
        have hm : oM ω (wm ω P v) ≤ 20 := by
          cases hb : wm ω P v with
          | none => exact Nat.zero_le _
          | some b => exact (hw b (by have := (wm_in hb).1; omega)).2
        have hv20 := (hw v (by omega)).2
        have ev : w (nI v).toNatClampNeg = nI (ω v) := by rw [nI_clamp (by omega), (hw v (by omega)).1]
        refine hV 60 7 _ _ _ (br_ge (a := v) (b := q) (by omega) (by omega) (fun c => absurd c (by omega)) (fun _ => ⟨P, v, rfl, by omega, by omega, br_ne (fun c => nm_r (nI_1 v) ?_) (fun c => And.intro (vp_in_nI (by omega) (by omega)) (nm_r ev (br_le (a := ω v) (b := oM ω (wm ω P v)) (by omega) (by omega) (fun c2 => nm_r (nI_1 v) ?_) (fun c2 => And.intro (vp_in_nI (by omega) (by omega)) (nm_r ev (nm_r (nI_1 v) ?_))))))⟩))
        · have e : wm ω P (v + 1) = wm ω P v := by
            rw [wm, c]
            cases wm ω P v <;> rfl
          rw [e] at hn
          exact hn
        · have e : wm ω P (v + 1) = wm ω P v := by
            rw [wm, c]
            cases hb : wm ω P v with
            | none =>
              rw [hb] at c2
              have : ¬ 0 < ω v := by have : oM ω none = 0 := rfl; omega
              simp [this]
            | some b =>
              rw [hb] at c2
              have : ¬ ω b < ω v := by have : oM ω (some b) = ω b := rfl; omega
              simp [this]
          rw [e] at hn
          exact hn
        · have e : wm ω P (v + 1) = some v := by
            rw [wm, c]
            cases hb : wm ω P v with
            | none =>
              rw [hb] at c2
              have : 0 < ω v := by have : oM ω none = 0 := rfl; omega
              simp [this]
            | some b =>
              rw [hb] at c2
              have : ω b < ω v := by have : oM ω (some b) = ω b := rfl; omega
              simp [this]
          rw [e] at hn
          exact hn
    exact hV 60 0 _ _ _ (loop q 0 (by omega))
theorem o_C143 {D : va_G} {cA : ClassId} {ad : Nat → Nat} {l : Launch} {R : Room} (hR : 1 + 1 ≤ R.frames ∧ 32 * (1 + 1) ≤ R.locals) : m_OK D cls cA 0 ad TB l "DegreeCores" R 143 false (1 + 1) tC_wantsMost :=
  m_okV (C := R_C) (Tu := T_C) (N := 7) rfl c_C_wantsMost (by decide) tb_good w_C143 ⟨rfl, by decide +kernel, by decide +kernel, by decide +kernel⟩ (by decide) hR (by rintro as h k ⟨j, n, r, q, t, d, w, ω, P, rfl, hq, hw, rfl, hP, hk⟩; exact ⟨0, _, _, rfl, rfl⟩)
/-- rows as the numbers say -/
def hR (q : Nat) (d : Nat → Int32) (μ : Nat → Nat) : Prop := ∀ v, v < q → d v = nI (μ v)
def tC_serve : mT := fun as h k => ∃ j n r q t d w ω μ v, h = mkC j n r (nI q) t d w ∧ q ≤ 12 ∧ hR q w ω ∧ hR q d μ ∧ mkI q ω μ ∧ wm ω 0 q = some v ∧ as = [.inr 0, .inl (nI v)] ∧
  (sv q (ω v) v (up ω v 0) μ (2 ^ v) = none → ∀ d' w', k (some 0) (mkC j n r (nI q) t d' w')) ∧ (∀ s, sv q (ω v) v (up ω v 0) μ (2 ^ v) = some s → ∀ d' w', hR q w' s.1 → hR q d' s.2 → k (some 1) (mkC j n r (nI q) t d' w'))
theorem hR_ju {q : Nat} {d : Nat → Int32} {μ : Nat → Nat} {v u : Nat} (h : hR q d μ) (huv : u ≠ v) : hR q (upd (upd d v (nI (μ v ||| 2 ^ u))) u (nI (μ u ||| 2 ^ v))) (ju μ v u) := by
  intro x hx
  unfold ju
  by_cases h1 : x = u
  · subst h1
    rw [upd_u, up_s, up_n _ _ _ huv]
  · rw [upd_n h1, up_n _ _ _ h1]
    by_cases h2 : x = v
    · subst h2
      rw [upd_u, up_s]
    · rw [upd_n h2, up_n _ _ _ h2, h x hx]
set_option maxHeartbeats 4000000 in
set_option maxRecDepth 20000 in
theorem c_C_serve : m_Con cls 0 TB y_C_serve b_C_serve 5 (some .boolean) 1 2 tC_serve := by
  refine m_con (code := k_C_serve) (fld := f_C) (fpt := p_C) (kon := []) (call := [(143, false, 2, tC_wantsMost)]) (C := R_C) (T := T_C) (N := 7) (by decide) (Or.inr (Or.inl ⟨rfl, rfl⟩)) ok_C_serve tb_C (fun l D cA ad => m_calls ?_) ?_ ?_
  · exact List.forall_mem_cons.mpr ⟨o_C143 ⟨Nat.le_of_ble_eq_true rfl, Nat.le_of_ble_eq_true rfl⟩, fun _ h => absurd h List.not_mem_nil⟩
  · rintro as h k ⟨j, n, r, q, t, d, w, ω0, μ0, v, rfl, hq, hw, hd, hmk, hwm, rfl, hk1, hk2⟩
    exact Nat.le_of_ble_eq_true rfl
  · rintro as h k ⟨j, n, r, q, t, d, w, ω0, μ0, v, rfl, hq, hw, hd, hmk, hwm, rfl, hk1, hk2⟩ V hV
    obtain ⟨hv, hpos, hsv⟩ := sv_begin hmk hwm
    have hv20 := hmk.2.1 v hv
    have hcv : (nI v).toNatClampNeg = v := nI_clamp (by omega)
    have h12 := p12 hq
    have loop : ∀ l P ω μ d w (z : Option mV), P < 2 ^ q → l ≤ 20 → svI q v P ω μ → (∀ u, u < q → u ≠ v → w u = nI (ω u)) → w v = nI (ω0 v) → hR q d μ → sv q l v ω μ P = sv q (ω0 v) v (up ω0 v 0) μ0 (2 ^ v) → V (11, [some (.inr 0), some (.inl (nI v)), some (.inl (nI P)), some (.inl (nI l)), z], [], mkC j n r (nI q) t d w) := by
      intro l
      induction l with
      | zero =>
        intro P ω μ d w z hP hl hI hw1 hw2 hd he
        refine hV 80 11 _ _ _ (br_le (a := 0) (b := 0) (by omega) (by omega) (fun _ => And.intro (vp_in_nI (by omega) (by omega)) (And.intro (Or.inr rfl) ?_)) (fun c => absurd c (by omega)))
        rw [sv] at he
        refine hk2 _ he.symm _ _ (fun u hu => ?_) hd
        show upd w (nI v).toNatClampNeg 0 u = nI (ω u)
        rw [hcv]
        by_cases e : u = v
        · rw [e, upd_u, hI.2.2.2.1]; rfl
        · rw [upd_n e]; exact hw1 u hu e
      | succ l ih =>
        intro P ω μ d w z hP hl hI hw1 hw2 hd he
        refine hV 80 11 _ _ _ (br_le (a := l + 1) (b := 0) (by omega) (by omega) (fun c => absurd c (by omega)) (fun _ => ⟨j, n, r, q, t, d, w, up ω v (ω0 v), P, rfl, hq, fun u hu => ?_, rfl, by omega, ?_⟩))
        · by_cases e : u = v
          · rw [e, up_s]; exact ⟨hw2, hv20⟩
          · rw [up_n _ _ _ e]; exact ⟨hw1 u hu e, hI.2.2.2.2.1 u hu⟩
        · rw [wm_congr (w' := ω) (fun u hu hp => by
            by_cases e : u = v
            · rw [e, hI.2.2.1] at hp; cases hp
            · rw [up_n _ _ _ e])]
          rw [sv] at he
          cases hu : wm ω P q with
          | none =>
            rw [hu] at he
            refine And.intro (fun c => absurd c (by decide)) (fun c => And.intro (Or.inl rfl) (hk1 he.symm _ _))
          | some u =>
            rw [hu] at he
            obtain ⟨b1, b2, b3, b4, b5⟩ := sv_step hI hu
            have hcu : (nI u).toNatClampNeg = u := nI_clamp (by omega)
            rw [show oI (some u) = nI u from rfl]
            have hvu : v ≠ u := fun z => b2 z.symm
            refine And.intro (fun c => ?_) (fun c => absurd (nI_pos' (by omega)) c)
            refine And.intro (vp_in_nI (by omega) (by omega)) (nm_r (e' := nI (μ v)) (by rw [hcv, hd v hv]) (nm_r (nx_shl u (by omega)) (nm_r (nx_or _ _) (And.intro (vp_in_nI (by omega) (by omega)) ?_))))
            refine And.intro (vp_in_nI (by omega) (by omega)) (nm_r (e' := nI (μ u)) (by rw [hcv, hcu, upd_n b2, hd u b1]) (nm_r (nx_shl v (by omega)) (nm_r (nx_or _ _) (And.intro (vp_in_nI (by omega) (by omega)) ?_))))
            refine And.intro (vp_in_nI (by omega) (by omega)) (nm_r (e' := nI (ω u)) (by rw [hcu, hw1 u b1 b2]) (nm_r (pk_sub (b := 1) b3) (And.intro (vp_in_nI (by omega) (by omega)) (nm_r (nx_shl u (by omega)) (nm_r (nx_or _ _) (nm_r (pk_m1 l) ?_))))))
            have := ih (P ||| 2 ^ u) (up ω u (ω u - 1)) (ju μ v u) (upd (upd d v (nI (μ v ||| 2 ^ u))) u (nI (μ u ||| 2 ^ v))) (upd w u (nI (ω u - 1))) (some (.inl (nI u))) (Nat.or_lt_two_pow hP (Nat.pow_lt_pow_right (by decide) b1)) (by omega) b5 (fun x hx hxv => by
              by_cases e : x = u
              · rw [e, upd_u, up_s]
              · rw [upd_n e, up_n _ _ _ e]; exact hw1 x hx hxv) (by rw [upd_n hvu]; exact hw2) (hR_ju hd b2) he
            show V (11, [some (.inr 0), some (.inl (nI v)), some (.inl (nI (P ||| 2 ^ u))), some (.inl (nI l)), some (.inl (nI u))], [], mkC j n r (nI q) t (upd (upd d (nI v).toNatClampNeg (nI (μ v ||| 2 ^ u))) (nI u).toNatClampNeg (nI (μ u ||| 2 ^ v))) (upd w (nI u).toNatClampNeg (nI (ω u - 1))))
            rw [hcv, hcu]
            exact this
    refine hV 80 0 _ _ _ (nm_r (nx_shl v (by omega)) (And.intro (vp_in_nI (by omega) (by omega)) (nm_r (e' := nI (ω0 v)) (by rw [hcv, hw v hv]) ?_)))
    exact loop (ω0 v) (2 ^ v) (up ω0 v 0) μ0 d w none (Nat.pow_lt_pow_right (by decide) hv) hv20 hsv (fun u hu e => by rw [up_n _ _ _ e]; exact hw u hu) (hw v hv) hd rfl
theorem o_C146 {D : va_G} {cA : ClassId} {ad : Nat → Nat} {l : Launch} {R : Room} (hR : 2 + 1 ≤ R.frames ∧ 32 * (2 + 1) ≤ R.locals) : m_OK D cls cA 0 ad TB l "DegreeCores" R 146 false (1 + 1) tC_serve :=
  m_okV (C := R_C) (Tu := T_C) (N := 7) rfl c_C_serve (by decide) tb_good w_C146 ⟨rfl, by decide +kernel, by decide +kernel, by decide +kernel⟩ (by decide) hR (by rintro as h k ⟨j, n, r, q, t, d, w, ω0, μ0, v, rfl, hq, hw, hd, hmk, hwm, rfl, hk1, hk2⟩; exact ⟨0, _, _, rfl, rfl⟩)
def tC_tryMaking : mT := fun as h k => ∃ j n r q t d w g, h = mkC j n r (nI q) t d w ∧ q ≤ 12 ∧ hR q r g ∧ (∀ v, v < q → g v ≤ 20) ∧ as = [.inr 0] ∧
  (mkr q q g (fun _ => 0) = none → ∀ d' w', k (some 0) (mkC j n r (nI q) t d' w')) ∧ (∀ s, mkr q q g (fun _ => 0) = some s → ∀ d' w', hR q d' s.2 → k (some 1) (mkC j n r (nI q) t d' w'))
set_option maxHeartbeats 4000000 in
set_option maxRecDepth 20000 in
theorem c_C_tryMaking : m_Con cls 0 TB y_C_tryMaking b_C_tryMaking 3 (some .boolean) 1 3 tC_tryMaking := by
  refine m_con (code := k_C_tryMaking) (fld := f_C) (fpt := p_C) (kon := []) (call := [(91, true, 5, t_copy), (143, false, 2, tC_wantsMost), (146, false, 2, tC_serve)]) (C := R_C) (T := T_C) (N := 7) (by decide) (Or.inr (Or.inl ⟨rfl, rfl⟩)) ok_C_tryMaking tb_C (fun l D cA ad => m_calls ?_) ?_ ?_
  · exact List.forall_mem_cons.mpr ⟨o_C91 ⟨Nat.le_of_ble_eq_true rfl, Nat.le_of_ble_eq_true rfl⟩, List.forall_mem_cons.mpr ⟨o_C143 ⟨Nat.le_of_ble_eq_true rfl, Nat.le_of_ble_eq_true rfl⟩, List.forall_mem_cons.mpr ⟨o_C146 ⟨Nat.le_of_ble_eq_true rfl, Nat.le_of_ble_eq_true rfl⟩, fun _ h => absurd h List.not_mem_nil⟩⟩⟩
  · rintro as h k ⟨j, n, r, q, t, d, w, g, rfl, hq, hr, hg, rfl, hk1, hk2⟩
    exact Nat.le_of_ble_eq_true rfl
  · rintro as h k ⟨j, n, r, q, t, d, w, g, rfl, hq, hr, hg, rfl, hk1, hk2⟩ V hV
    have loop2 : ∀ m i ω μ d w (z : Option mV), i + m = q → mkI q ω μ → hR q w ω → hR q d μ → mkr q m ω μ = mkr q q g (fun _ => 0) → V (42, [some (.inr 0), some (.inl (nI i)), z], [], mkC j n r (nI q) t d w) := by
      intro m
      induction m with
      | zero =>
        intro i ω μ d w z hi hI hw hd he
        refine hV 80 42 _ _ _ (br_ge (a := i) (b := q) (by omega) (by omega) (fun _ => And.intro (Or.inr rfl) ?_) (fun c => absurd c (by omega)))
        exact hk2 _ he.symm _ _ hd
      | succ m ih =>
        intro i ω μ d w z hi hI hw hd he
        refine hV 80 42 _ _ _ (br_ge (a := i) (b := q) (by omega) (by omega) (fun c => absurd c (by omega)) (fun _ => ⟨j, n, r, q, t, d, w, ω, 0, rfl, hq, fun v hv => ⟨hw v hv, hI.2.1 v hv⟩, rfl, by omega, ?_⟩))
        cases hu : wm ω 0 q with
        | none =>
          refine And.intro (fun c => nm_r (nI_1 i) ?_) (fun c => absurd (show (-1 : Int32) < 0 by decide) c)
          rw [mkr_none hu] at he
          exact ih (i + 1) ω μ d w _ (by omega) hI hw hd (by rw [mkr_none hu]; exact he)
        | some v =>
          rw [mkr, hu] at he
          dsimp only at he
          have hv := (wm_in hu).1
          refine And.intro (fun c => absurd c (nI_pos (by omega))) (fun c => ⟨j, n, r, q, t, d, w, ω, μ, v, rfl, hq, hw, hd, hI, hu, rfl, ?_, ?_⟩)
          · intro hs d' w'
            rw [hs] at he
            exact And.intro (fun c => absurd rfl c) (fun _ => And.intro (Or.inl rfl) (hk1 he.symm d' w'))
          · intro s hs d' w' hw' hd'
            rw [hs] at he
            refine And.intro (fun _ => nm_r (nI_1 i) ?_) (fun c => absurd c (by decide))
            exact ih (i + 1) s.1 s.2 d' w' _ (by omega) (sv_mk (sv_begin hI hu).2.2 hs).1 hw' hd' he
    have loop1 : ∀ m i d w (z : Option mV), i + m = q → hR q w g → hR i d (fun _ => 0) → V (19, [some (.inr 0), some (.inl (nI i)), z], [], mkC j n r (nI q) t d w) := by
      intro m
      induction m with
      | zero =>
        intro i d w z hi hw hd
        have e : i = q := by omega
        subst e
        exact hV 80 19 _ _ _ (br_ge (a := i) (b := i) (by omega) (by omega) (fun _ => loop2 i 0 g (fun _ => 0) d w _ (by omega) (mk_0 hq hg) hw hd rfl) (fun c => absurd c (by omega)))
      | succ m ih =>
        intro i d w z hi hw hd
        refine hV 80 19 _ _ _ (br_ge (a := i) (b := q) (by omega) (by omega) (fun c => absurd c (by omega)) (fun _ => And.intro (vp_in_nI (by omega) (by omega)) (nm_r (nI_1 i) ?_)))
        refine ih (i + 1) _ w _ (by omega) hw (fun v hv => ?_)
        show upd d (nI i).toNatClampNeg 0 v = nI 0
        rw [nI_clamp (by omega)]
        by_cases e : v = i
        · rw [e, upd_u]; rfl
        · rw [upd_n e]; exact hd v (by omega)
    refine hV 80 0 _ _ _ ⟨2, 5, 12, 12, q, r, w, rfl, rfl, rfl, by omega, by omega, by omega, ?_⟩
    refine loop1 q 0 d _ none (by omega) (fun v hv => ?_) (fun v hv => by omega)
    rw [pk_cpy_in (Nat.zero_le v) (by omega), Nat.zero_add, Nat.sub_zero, hr v hv]
theorem o_C139 {D : va_G} {cA : ClassId} {ad : Nat → Nat} {l : Launch} {R : Room} (hR : 3 + 1 ≤ R.frames ∧ 32 * (3 + 1) ≤ R.locals) : m_OK D cls cA 0 ad TB l "DegreeCores" R 139 false (0 + 1) tC_tryMaking :=
  m_okV (C := R_C) (Tu := T_C) (N := 7) rfl c_C_tryMaking (by decide) tb_good w_C139 ⟨rfl, by decide +kernel, by decide +kernel, by decide +kernel⟩ (by decide) hR (by rintro as h k ⟨j, n, r, q, t, d, w, g, rfl, hq, hr, hg, rfl, hk1, hk2⟩; exact ⟨0, _, _, rfl, rfl⟩)
def tC_graphic : mT := fun as h k => ∃ j n r q t d w g, h = mkC j n r (nI q) t d w ∧ q ≤ 12 ∧ hR q r g ∧ (∀ v, v < q → g v ≤ 20) ∧ as = [.inr 0] ∧ ∀ d' w', k (some (b2i (mkr q q g (fun _ => 0)).isSome)) (mkC j n r (nI q) t d' w')
set_option maxHeartbeats 4000000 in
set_option maxRecDepth 20000 in
theorem c_C_graphic : m_Con cls 0 TB y_C_graphic b_C_graphic 1 (some .int) 0 4 tC_graphic := by
  refine m_con (code := k_C_graphic) (fld := f_C) (fpt := p_C) (kon := []) (call := [(139, false, 1, tC_tryMaking)]) (C := R_C) (T := T_C) (N := 7) (by decide) (Or.inl ⟨rfl, rfl⟩) ok_C_graphic tb_C (fun l D cA ad => m_calls ?_) ?_ ?_
  · exact List.forall_mem_cons.mpr ⟨o_C139 ⟨Nat.le_of_ble_eq_true rfl, Nat.le_of_ble_eq_true rfl⟩, fun _ h => absurd h List.not_mem_nil⟩
  · rintro as h k ⟨j, n, r, q, t, d, w, g, rfl, hq, hr, hg, rfl, hk⟩
    exact Nat.le_of_ble_eq_true rfl
  · rintro as h k ⟨j, n, r, q, t, d, w, g, rfl, hq, hr, hg, rfl, hk⟩ V hV
    refine hV 80 0 _ _ _ ⟨j, n, r, q, t, d, w, g, rfl, hq, hr, hg, rfl, fun e d' w' => ?_, fun s e d' w' _ => ?_⟩
    · rw [e] at hk
      exact And.intro (fun _ => hk d' w') (fun c => absurd rfl c)
    · rw [e] at hk
      exact And.intro (fun c => absurd c (by decide)) (fun _ => hk d' w')
def tC_make : mT := fun as h k => ∃ j n r q t d w g, h = mkC j n r (nI q) t d w ∧ q ≤ 12 ∧ hR q r g ∧ (∀ v, v < q → g v ≤ 20) ∧ as = [.inr 0] ∧
  (mkr q q g (fun _ => 0) = none → ∀ d' w', k (some (-3)) (mkC j n r (nI q) t d' w')) ∧ (∀ s, mkr q q g (fun _ => 0) = some s → ∀ j' d' w', hR q j' s.2 → k (some (nI (e1 q s.2 (2 ^ q - 1)))) (mkC j' (nI q) r (nI q) t d' w'))
set_option maxHeartbeats 4000000 in
set_option maxRecDepth 20000 in
theorem c_C_make : m_Con cls 0 TB y_C_make b_C_make 1 (some .int) 0 4 tC_make := by
  refine m_con (code := k_C_make) (fld := f_C) (fpt := p_C) (kon := []) (call := [(139, false, 1, tC_tryMaking), (91, true, 5, t_copy), (56, false, 1, tC_allNodes), (114, false, 2, tC_edgesWithin)]) (C := R_C) (T := T_C) (N := 7) (by decide) (Or.inl ⟨rfl, rfl⟩) ok_C_make tb_C (fun l D cA ad => m_calls ?_) ?_ ?_
  · exact List.forall_mem_cons.mpr ⟨o_C139 ⟨Nat.le_of_ble_eq_true rfl, Nat.le_of_ble_eq_true rfl⟩, List.forall_mem_cons.mpr ⟨o_C91 ⟨Nat.le_of_ble_eq_true rfl, Nat.le_of_ble_eq_true rfl⟩, List.forall_mem_cons.mpr ⟨o_C56 ⟨Nat.le_of_ble_eq_true rfl, Nat.le_of_ble_eq_true rfl⟩, List.forall_mem_cons.mpr ⟨o_C114 ⟨Nat.le_of_ble_eq_true rfl, Nat.le_of_ble_eq_true rfl⟩, fun _ h => absurd h List.not_mem_nil⟩⟩⟩⟩
  · rintro as h k ⟨j, n, r, q, t, d, w, g, rfl, hq, hr, hg, rfl, hk1, hk2⟩
    exact Nat.le_of_ble_eq_true rfl
  · rintro as h k ⟨j, n, r, q, t, d, w, g, rfl, hq, hr, hg, rfl, hk1, hk2⟩ V hV
    have h12 := p12 hq
    refine hV 80 0 _ _ _ ⟨j, n, r, q, t, d, w, g, rfl, hq, hr, hg, rfl, fun e d' w' => ?_, fun s e d' w' hd' => ?_⟩
    · exact And.intro (fun c => absurd rfl c) (fun _ => hk1 e d' w')
    · refine And.intro (fun _ => ?_) (fun c => absurd c (by decide))
      refine ⟨4, 1, 12, 12, q, d', j, rfl, rfl, rfl, by omega, by omega, by omega, ?_⟩
      have hG := (mkr_mk q (mk_0 hq hg) e).1
      have hj : hR q (va_cpy d' j 0 0 q) s.2 := fun v hv => by rw [pk_cpy_in (Nat.zero_le v) (by omega), Nat.zero_add, Nat.sub_zero, hd' v hv]
      have hh : hC (mkC (va_cpy d' j 0 0 q) (nI q) r (nI q) t d' w') q s.2 := ⟨_, r, _, t, d', w', rfl, hj, hG⟩
      have hp := pw_pos q
      exact ⟨q, s.2, hh, rfl, ⟨q, s.2, _, hh, rfl, by omega, hk2 s e _ d' w' hj⟩⟩
end
section
/-! the reference: its cells; nodes, joins, cores, peeling, layers -/
/-- cuts, isNew, wants, want, left, found0, found1, found2, kept, made, making -/
abbrev mZ : Type := (Nat → Int32) × Int32 × Int32 × (Nat → Int32) × (Nat → Int32) × Int32 × Int32 × Int32 × (Nat → Int32) × Int32 × (Nat → Int32)
def mkM (n : Int32) (j : Nat → Int32) (z : mZ) : mH :=
  [.inl [.inl n, .inr 1, .inr 2, .inl z.2.1, .inl z.2.2.1, .inr 3, .inr 4, .inl z.2.2.2.2.2.1, .inl z.2.2.2.2.2.2.1, .inl z.2.2.2.2.2.2.2.1, .inr 5, .inl z.2.2.2.2.2.2.2.2.2.1, .inr 6],
    .inr (12, j), .inr (4096, z.1), .inr (12, z.2.2.2.1), .inr (12, z.2.2.2.2.1), .inr (12, z.2.2.2.2.2.2.2.2.1), .inr (12, z.2.2.2.2.2.2.2.2.2.2)]
def hM (h : mH) (n : Nat) (f : Nat → Nat) : Prop := ∃ j z, h = mkM (nI n) j z ∧ (∀ v, v < n → j v = nI (f v)) ∧ Gr n f
theorem br_bn {b : Bool} {A B : Prop} (f : b = false → A) (g : b = true → B) : (¬ nI b.toNat = 1 → A) ∧ (nI b.toNat = 1 → B) := by
  cases b with
  | false => exact ⟨fun _ => f rfl, fun h => absurd h (by decide)⟩
  | true => exact ⟨fun h => absurd rfl h, fun _ => g rfl⟩
theorem br_bz {b : Bool} {A B : Prop} (f : b = true → A) (g : b = false → B) : (¬ nI b.toNat = 0 → A) ∧ (nI b.toNat = 0 → B) := by
  cases b with
  | false => exact ⟨fun h => absurd rfl h, fun _ => g rfl⟩
  | true => exact ⟨fun _ => f rfl, fun h => absurd h (by decide)⟩
theorem nI_bool (b : Bool) : nI b.toNat = b2i b := by cases b <;> decide
def tM_isNode : mT := fun as h k => ∃ n f x, hM h n f ∧ as = [.inr 0, .inl x] ∧ k (some (b2i (isN n x))) h
set_option maxHeartbeats 4000000 in
set_option maxRecDepth 20000 in
theorem c_M_isNode : m_Con cls 1 TB y_M_isNode b_M_isNode 2 (some .boolean) 1 0 tM_isNode := by
  refine m_con (code := k_M_isNode) (fld := f_M) (fpt := p_M) (kon := []) (call := []) (C := R_M) (T := T_M) (N := 13) (by decide) (Or.inr (Or.inl ⟨rfl, rfl⟩)) ok_M_isNode tb_M (fun l D cA ad => m_calls ?_) ?_ ?_
  · exact fun _ h => absurd h List.not_mem_nil
  · rintro as h k ⟨n, f, x, ⟨j, z, rfl, hj, hG⟩, rfl, hk⟩
    exact Nat.le_of_ble_eq_true rfl
  · rintro as h k ⟨n, f, x, ⟨j, z, rfl, hj, hG⟩, rfl, hk⟩ V hV
    refine hV 60 0 _ _ _ (And.intro (fun c => And.intro (Or.inl rfl) ?_) (fun c => And.intro (fun c2 => And.intro (Or.inl rfl) ?_) (fun c2 => And.intro (Or.inr rfl) ?_)))
    · have e : isN n x = false := decide_eq_false (fun z => absurd c (Int32.not_lt.mpr z.1))
      rw [e] at hk; exact hk
    · have e : isN n x = false := decide_eq_false (fun z => absurd z.2 (Int32.not_lt.mpr c2))
      rw [e] at hk; exact hk
    · have e : isN n x = true := decide_eq_true ⟨Int32.not_lt.mp c, Int32.not_le.mp c2⟩
      rw [e] at hk; exact hk
theorem o_M36 {D : va_G} {cA : ClassId} {ad : Nat → Nat} {l : Launch} {R : Room} (hR : 0 + 1 ≤ R.frames ∧ 32 * (0 + 1) ≤ R.locals) : m_OK D cls cA 1 ad TB l "DegreeCoresModel" R 36 false (1 + 1) tM_isNode :=
  m_okV (C := R_M) (Tu := T_M) (N := 13) rfl c_M_isNode (by decide) tb_good w_M36 ⟨rfl, by decide +kernel, by decide +kernel, by decide +kernel⟩ (by decide) hR (by rintro as h k ⟨n, f, x, ⟨j, z, rfl, hj, hG⟩, rfl, hk⟩; exact ⟨0, _, _, rfl, rfl⟩)
def tM_areTwo : mT := fun as h k => ∃ n f x y, hM h n f ∧ as = [.inr 0, .inl x, .inl y] ∧ k (some (b2i (two n x y))) h
set_option maxHeartbeats 4000000 in
set_option maxRecDepth 20000 in
theorem c_M_areTwo : m_Con cls 1 TB y_M_areTwo b_M_areTwo 3 (some .boolean) 1 1 tM_areTwo := by
  refine m_con (code := k_M_areTwo) (fld := f_M) (fpt := p_M) (kon := []) (call := [(36, false, 2, tM_isNode)]) (C := R_M) (T := T_M) (N := 13) (by decide) (Or.inr (Or.inl ⟨rfl, rfl⟩)) ok_M_areTwo tb_M (fun l D cA ad => m_calls ?_) ?_ ?_
  · exact List.forall_mem_cons.mpr ⟨o_M36 ⟨Nat.le_of_ble_eq_true rfl, Nat.le_of_ble_eq_true rfl⟩, fun _ h => absurd h List.not_mem_nil⟩
  · rintro as h k ⟨n, f, x, y, ⟨j, z, rfl, hj, hG⟩, rfl, hk⟩
    exact Nat.le_of_ble_eq_true rfl
  · rintro as h k ⟨n, f, x, y, ⟨j, z, rfl, hj, hG⟩, rfl, hk⟩ V hV
    have hh : hM (mkM (nI n) j z) n f := ⟨j, z, rfl, hj, hG⟩
    refine hV 60 0 _ _ _ ⟨n, f, x, hh, rfl, br_eq (fun c => And.intro (Or.inl rfl) ?_) (fun c => ⟨n, f, y, hh, rfl, br_eq (fun c2 => And.intro (Or.inl rfl) ?_) (fun c2 => And.intro (fun c3 => And.intro (Or.inl rfl) ?_) (fun c3 => And.intro (Or.inr rfl) ?_))⟩)⟩
    · have e : two n x y = false := by simp [two, c]
      rw [e] at hk; exact hk
    · have e : two n x y = false := by simp [two, c2]
      rw [e] at hk; exact hk
    · have c3 : x = y := c3
      have e : two n x y = false := by simp [two, c3]
      rw [e] at hk; exact hk
    · have c3 : ¬ x = y := c3
      have e : two n x y = true := by simp [two, c, c2, c3]
      rw [e] at hk; exact hk
theorem o_M40 {D : va_G} {cA : ClassId} {ad : Nat → Nat} {l : Launch} {R : Room} (hR : 1 + 1 ≤ R.frames ∧ 32 * (1 + 1) ≤ R.locals) : m_OK D cls cA 1 ad TB l "DegreeCoresModel" R 40 false (2 + 1) tM_areTwo :=
  m_okV (C := R_M) (Tu := T_M) (N := 13) rfl c_M_areTwo (by decide) tb_good w_M40 ⟨rfl, by decide +kernel, by decide +kernel, by decide +kernel⟩ (by decide) hR (by rintro as h k ⟨n, f, x, y, ⟨j, z, rfl, hj, hG⟩, rfl, hk⟩; exact ⟨0, _, _, rfl, rfl⟩)
def tM_count : mT := fun as h k => ∃ S, as = [.inl (nI S)] ∧ S < 4096 ∧ k (some (nI (pop S))) h
set_option maxHeartbeats 4000000 in
set_option maxRecDepth 20000 in
theorem c_M_count : m_Con cls 1 TB y_M_count b_M_count 3 (some .int) 0 0 tM_count := by
  refine m_con (code := k_M_count) (fld := f_M) (fpt := p_M) (kon := []) (call := []) (C := R_M) (T := T_M) (N := 13) (by decide) (Or.inl ⟨rfl, rfl⟩) ok_M_count tb_M (fun l D cA ad => m_calls ?_) ?_ ?_
  · exact fun _ h => absurd h List.not_mem_nil
  · rintro as h k ⟨S, rfl, hS, hk⟩
    exact Nat.le_of_ble_eq_true rfl
  · rintro as h k ⟨S, rfl, hS, hk⟩ V hV
    have loop : ∀ m v acc, v + m = 12 → acc = cn S.testBit v → V (4, [some (.inl (nI S)), some (.inl (nI acc)), some (.inl (nI v))], [], h) := by
      intro m
      induction m with
      | zero =>
        intro v acc hv hacc
        have e : v = 12 := by omega
        subst e
        refine hV 60 4 _ _ _ (br_ge (a := 12) (b := 12) (by omega) (by omega) (fun _ => ?_) (fun c => absurd c (by omega)))
        rw [hacc]
        exact hk
      | succ m ih =>
        intro v acc hv hacc
        refine hV 60 4 _ _ _ (br_ge (a := v) (b := 12) (by omega) (by omega) (fun c => absurd c (by omega)) (fun _ => nm_e (nm_r (nx_bit (by omega) (by omega)) (nm_r (nI_add _ _) (nm_r (nI_1 v) ?_)))))
        exact ih (v + 1) _ (by omega) (by rw [hacc]; rfl)
    exact hV 60 0 _ _ _ (loop 12 0 0 (by omega) rfl)
theorem o_M44 {D : va_G} {cA : ClassId} {ad : Nat → Nat} {l : Launch} {R : Room} (hR : 0 + 1 ≤ R.frames ∧ 32 * (0 + 1) ≤ R.locals) : m_OK D cls cA 1 ad TB l "DegreeCoresModel" R 44 true 1 tM_count :=
  m_okS c_M_count (by decide) tb_good w_M44 ⟨by decide +kernel, by decide +kernel, by decide +kernel⟩ (by decide) hR
def tM_all : mT := fun as h k => ∃ n f, hM h n f ∧ as = [.inr 0] ∧ k (some (nI (2 ^ n - 1))) h
set_option maxHeartbeats 4000000 in
set_option maxRecDepth 20000 in
theorem c_M_all : m_Con cls 1 TB y_M_all b_M_all 1 (some .int) 0 0 tM_all := by
  refine m_con (code := k_M_all) (fld := f_M) (fpt := p_M) (kon := []) (call := []) (C := R_M) (T := T_M) (N := 13) (by decide) (Or.inl ⟨rfl, rfl⟩) ok_M_all tb_M (fun l D cA ad => m_calls ?_) ?_ ?_
  · exact fun _ h => absurd h List.not_mem_nil
  · rintro as h k ⟨n, f, ⟨j, z, rfl, hj, hG⟩, rfl, hk⟩
    exact Nat.le_of_ble_eq_true rfl
  · rintro as h k ⟨n, f, ⟨j, z, rfl, hj, hG⟩, rfl, hk⟩ V hV
    have hn := hG.1
    exact hV 60 0 _ _ _ (nm_r (nx_shl n (by omega)) (nm_r (nx_all n hn) hk))
theorem o_M48 {D : va_G} {cA : ClassId} {ad : Nat → Nat} {l : Launch} {R : Room} (hR : 0 + 1 ≤ R.frames ∧ 32 * (0 + 1) ≤ R.locals) : m_OK D cls cA 1 ad TB l "DegreeCoresModel" R 48 false (0 + 1) tM_all :=
  m_okV (C := R_M) (Tu := T_M) (N := 13) rfl c_M_all (by decide) tb_good w_M48 ⟨rfl, by decide +kernel, by decide +kernel, by decide +kernel⟩ (by decide) hR (by rintro as h k ⟨n, f, ⟨j, z, rfl, hj, hG⟩, rfl, hk⟩; exact ⟨0, _, _, rfl, rfl⟩)
def zNew (z : mZ) : mZ := (z.1, 1, z.2.2)
def tM_node : mT := fun as h k => ∃ j n f z, h = mkM (nI n) j z ∧ (∀ v, v < n → j v = nI (f v)) ∧ Gr n f ∧ as = [.inr 0] ∧ (n = 12 → k (some (-4)) h) ∧ (n < 12 → k (some (nI n)) (mkM (nI (n + 1)) (upd j n 0) (zNew z)))
set_option maxHeartbeats 4000000 in
set_option maxRecDepth 20000 in
theorem c_M_node : m_Con cls 1 TB y_M_node b_M_node 1 (some .int) 0 0 tM_node := by
  refine m_con (code := k_M_node) (fld := f_M) (fpt := p_M) (kon := []) (call := []) (C := R_M) (T := T_M) (N := 13) (by decide) (Or.inl ⟨rfl, rfl⟩) ok_M_node tb_M (fun l D cA ad => m_calls ?_) ?_ ?_
  · exact fun _ h => absurd h List.not_mem_nil
  · rintro as h k ⟨j, n, f, z, rfl, hj, hG, rfl, hk1, hk2⟩
    exact Nat.le_of_ble_eq_true rfl
  · rintro as h k ⟨j, n, f, z, rfl, hj, hG, rfl, hk1, hk2⟩ V hV
    have hn := hG.1
    refine hV 60 0 _ _ _ (br_n (a := n) (b := 12) (by omega) (by omega) (fun c => ?_) (fun c => hk1 c))
    refine And.intro (vp_in_nI (by omega) (by omega)) (nm_r (nI_1 n) (And.intro (Or.inr rfl) (nm_r (nI_pred n) ?_)))
    have e : (nI n).toNatClampNeg = n := nI_clamp (by omega)
    show k (some (nI n)) (mkM (nI (n + 1)) (upd j (nI n).toNatClampNeg 0) (zNew z))
    rw [e]
    exact hk2 (by omega)
def tM_join : mT := fun as h k => ∃ j n f z x y b, h = mkM (nI n) j z ∧ (∀ v, v < n → j v = nI (f v)) ∧ Gr n f ∧ as = [.inr 0, .inl x, .inl y, .inl (b2i b)] ∧ (two n x y = false → k (some (-1)) h) ∧
  ∀ u v, u < n → v < n → u ≠ v → x = nI u → y = nI v → ((f u).testBit v = b → k (some 0) h) ∧ ((f u).testBit v ≠ b → k (some 1) (mkM (nI n) (upd (upd j u (nI (tg (f u) v))) v (nI (tg (f v) u))) (zNew z)))
def k2_M_join : List (Nat × mE) := [(0, .aload_n 0, 1, 0, 0, false), (1, .iload_n 1, 2, 0, 0, false), (2, .iload_n 2, 3, 0, 0, false), (3, .invokevirtual 40, 6, 0, 0, false), (6, .ifCond .ne 5, 9, 11, 0, false), (9, .iconst (-1), 10, 0, (-1), false), (10, .ireturn, 11, 0, 0, false), (11, .aload_n 0, 12, 0, 0, false), (12, .getfield 7, 15, 0, 0, false), (15, .iload_n 1, 16, 0, 0, false), (16, .iaload, 17, 0, 0, false), (17, .iload_n 2, 18, 0, 0, false), (18, .ishr, 19, 0, 0, false), (19, .iconst 1, 20, 0, 1, false), (20, .iand, 21, 0, 0, false), (21, .iconst 1, 22, 0, 1, false), (22, .if_icmp .ne 7, 25, 29, 0, false), (25, .iconst 1, 26, 0, 1, false), (26, .goto 4, 29, 30, 0, false), (29, .iconst 0, 30, 0, 0, false), (30, .istore 4, 32, 0, 0, false), (32, .iload 4, 34, 0, 0, true), (34, .iload_n 3, 35, 0, 0, false), (35, .if_icmp .ne 5, 38, 40, 0, false), (38, .iconst 0, 39, 0, 0, false), (39, .ireturn, 40, 0, 0, false), (40, .aload_n 0, 41, 0, 0, false), (41, .getfield 7, 44, 0, 0, false), (44, .iload_n 1, 45, 0, 0, false), (45, .dup2, 46, 0, 0, false), (46, .iaload, 47, 0, 0, false), (47, .iconst 1, 48, 0, 1, false), (48, .iload_n 2, 49, 0, 0, false), (49, .ishl, 50, 0, 0, false), (50, .ixor, 51, 0, 0, false), (51, .iastore, 52, 0, 0, false), (52, .aload_n 0, 53, 0, 0, false), (53, .getfield 7, 56, 0, 0, false), (56, .iload_n 2, 57, 0, 0, false), (57, .dup2, 58, 0, 0, false), (58, .iaload, 59, 0, 0, false), (59, .iconst 1, 60, 0, 1, false), (60, .iload_n 1, 61, 0, 0, false), (61, .ishl, 62, 0, 0, false), (62, .ixor, 63, 0, 0, false), (63, .iastore, 64, 0, 0, false), (64, .aload_n 0, 65, 0, 0, false), (65, .iconst 1, 66, 0, 1, false), (66, .putfield 16, 69, 0, 0, false), (69, .iconst 1, 70, 0, 1, false), (70, .ireturn, 71, 0, 0, false)]
theorem ok2_M_join : k2_M_join.all (m_ok b_M_join 5) = true := by decide +kernel
set_option maxHeartbeats 4000000 in
set_option maxRecDepth 20000 in
theorem c_M_join : m_Con cls 1 TB y_M_join b_M_join 5 (some .int) 0 2 tM_join := by
  refine m_con (code := k2_M_join) (fld := f_M) (fpt := p_M) (kon := []) (call := [(40, false, 3, tM_areTwo)]) (C := R_M) (T := T_M) (N := 13) (by decide) (Or.inl ⟨rfl, rfl⟩) ok2_M_join tb_M (fun l D cA ad => m_calls ?_) ?_ ?_
  · exact List.forall_mem_cons.mpr ⟨o_M40 ⟨Nat.le_of_ble_eq_true rfl, Nat.le_of_ble_eq_true rfl⟩, fun _ h => absurd h List.not_mem_nil⟩
  · rintro as h k ⟨j, n, f, z, x, y, b, rfl, hj, hG, rfl, hk1, hk2⟩
    exact Nat.le_of_ble_eq_true rfl
  · rintro as h k ⟨j, n, f, z, x, y, b, rfl, hj, hG, rfl, hk1, hk2⟩ V hV
    have hh : hM (mkM (nI n) j z) n f := ⟨j, z, rfl, hj, hG⟩
    have hn := hG.1
    refine hV 60 0 _ _ _ ⟨n, f, x, y, hh, rfl, br_ne (fun c => ?_) (fun c => hk1 c)⟩
    obtain ⟨u, v, hu, hv, huv, rfl, rfl⟩ := two_t hn c
    obtain ⟨h0, h1⟩ := hk2 u v hu hv huv rfl rfl
    have gu := g31 hG hu
    have gv := g31 hG hv
    have eu := clamp12 hu hn
    have ev := clamp12 hv hn
    have tail : V (32, [some (.inr 0), some (.inl (nI u)), some (.inl (nI v)), some (.inl (b2i b)), some (.inl (b2i ((f u).testBit v)))], [], mkM (nI n) j z) := by
      refine hV 60 32 _ _ _ (And.intro (fun c2 => ?_) (fun c2 => h0 (b2i_in c2)))
      have c2 : ¬ b2i ((f u).testBit v) = b2i b := c2
      have h1 := h1 (fun z => c2 (by rw [z]))
      refine And.intro (vp_in_nI (by omega) (by omega)) (nm_r (by rw [eu, hj u hu]) (nm_r (nx_shl v (by omega)) (nm_r (nx_xor _ _) (And.intro (vp_in_nI (by omega) (by omega)) ?_))))
      refine And.intro (vp_in_nI (by omega) (by omega)) (nm_r (e' := nI (f v)) (by rw [eu, ev, upd_n (fun z => huv z.symm), hj v hv]) (nm_r (nx_shl u (by omega)) (nm_r (nx_xor _ _) (And.intro (vp_in_nI (by omega) (by omega)) (And.intro (Or.inr rfl) ?_)))))
      show k (some 1) (mkM (nI n) (upd (upd j (nI u).toNatClampNeg (nI (f u ^^^ 2 ^ v))) (nI v).toNatClampNeg (nI (f v ^^^ 2 ^ u))) (zNew z))
      rw [eu, ev]
      exact h1
    refine And.intro (vp_in_nI (by omega) (by omega)) (nm_r (by rw [eu, hj u hu]) (nm_e (nm_r (nx_bit (by omega) (by omega)) (br_bn (fun c2 => ?_) (fun c2 => ?_)))))
    · rw [c2] at tail; exact tail
    · rw [c2] at tail; exact tail
def tM_joined : mT := fun as h k => ∃ n f x y, hM h n f ∧ as = [.inr 0, .inl x, .inl y] ∧ k (some (aJd n f x y)) h
set_option maxHeartbeats 4000000 in
set_option maxRecDepth 20000 in
theorem c_M_joined : m_Con cls 1 TB y_M_joined b_M_joined 3 (some .int) 0 2 tM_joined := by
  refine m_con (code := k_M_joined) (fld := f_M) (fpt := p_M) (kon := []) (call := [(40, false, 3, tM_areTwo)]) (C := R_M) (T := T_M) (N := 13) (by decide) (Or.inl ⟨rfl, rfl⟩) ok_M_joined tb_M (fun l D cA ad => m_calls ?_) ?_ ?_
  · exact List.forall_mem_cons.mpr ⟨o_M40 ⟨Nat.le_of_ble_eq_true rfl, Nat.le_of_ble_eq_true rfl⟩, fun _ h => absurd h List.not_mem_nil⟩
  · rintro as h k ⟨n, f, x, y, ⟨j, z, rfl, hj, hG⟩, rfl, hk⟩
    exact Nat.le_of_ble_eq_true rfl
  · rintro as h k ⟨n, f, x, y, ⟨j, z, rfl, hj, hG⟩, rfl, hk⟩ V hV
    have hh : hM (mkM (nI n) j z) n f := ⟨j, z, rfl, hj, hG⟩
    have hn := hG.1
    refine hV 60 0 _ _ _ ⟨n, f, x, y, hh, rfl, br_ne (fun c => ?_) (fun c => ?_)⟩
    · obtain ⟨u, v, hu, hv, huv, rfl, rfl⟩ := two_t hn c
      have gu := g31 hG hu
      rw [aJd, c, clamp12 hu hn, clamp12 hv hn] at hk
      exact And.intro (vp_in_nI (by omega) (by omega)) (nm_r (by rw [clamp12 hu hn, hj u hu]) (nm_e (nm_r ((nx_bit (by omega) (by omega)).trans (nI_bool _)) hk)))
    · rw [aJd, c] at hk; exact hk
def tM_clear : mT := fun as h k => ∃ j n f z, h = mkM (nI n) j z ∧ (∀ v, v < n → j v = nI (f v)) ∧ Gr n f ∧ as = [.inr 0] ∧ k (some (nI n)) (mkM (nI 0) j (zNew z))
set_option maxHeartbeats 4000000 in
set_option maxRecDepth 20000 in
theorem c_M_clear : m_Con cls 1 TB y_M_clear b_M_clear 2 (some .int) 0 0 tM_clear := by
  refine m_con (code := k_M_clear) (fld := f_M) (fpt := p_M) (kon := []) (call := []) (C := R_M) (T := T_M) (N := 13) (by decide) (Or.inl ⟨rfl, rfl⟩) ok_M_clear tb_M (fun l D cA ad => m_calls ?_) ?_ ?_
  · exact fun _ h => absurd h List.not_mem_nil
  · rintro as h k ⟨j, n, f, z, rfl, hj, hG, rfl, hk⟩
    exact Nat.le_of_ble_eq_true rfl
  · rintro as h k ⟨j, n, f, z, rfl, hj, hG, rfl, hk⟩ V hV
    exact hV 60 0 _ _ _ (And.intro (Or.inr rfl) hk)
def tM_degree : mT := fun as h k => ∃ n f x, hM h n f ∧ as = [.inr 0, .inl x] ∧ k (some (aDeg n f x)) h
set_option maxHeartbeats 4000000 in
set_option maxRecDepth 20000 in
theorem c_M_degree : m_Con cls 1 TB y_M_degree b_M_degree 2 (some .int) 0 1 tM_degree := by
  refine m_con (code := k_M_degree) (fld := f_M) (fpt := p_M) (kon := []) (call := [(36, false, 2, tM_isNode), (44, true, 1, tM_count)]) (C := R_M) (T := T_M) (N := 13) (by decide) (Or.inl ⟨rfl, rfl⟩) ok_M_degree tb_M (fun l D cA ad => m_calls ?_) ?_ ?_
  · exact List.forall_mem_cons.mpr ⟨o_M36 ⟨Nat.le_of_ble_eq_true rfl, Nat.le_of_ble_eq_true rfl⟩, List.forall_mem_cons.mpr ⟨o_M44 ⟨Nat.le_of_ble_eq_true rfl, Nat.le_of_ble_eq_true rfl⟩, fun _ h => absurd h List.not_mem_nil⟩⟩
  · rintro as h k ⟨n, f, x, ⟨j, z, rfl, hj, hG⟩, rfl, hk⟩
    exact Nat.le_of_ble_eq_true rfl
  · rintro as h k ⟨n, f, x, ⟨j, z, rfl, hj, hG⟩, rfl, hk⟩ V hV
    have hh : hM (mkM (nI n) j z) n f := ⟨j, z, rfl, hj, hG⟩
    have hn := hG.1
    refine hV 60 0 _ _ _ ⟨n, f, x, hh, rfl, br_eq (fun c => ?_) (fun c => ?_)⟩
    · rw [aDeg, c] at hk; exact hk
    · obtain ⟨v, hv, rfl⟩ := isN_t hn c
      rw [aDeg, c, clamp12 hv hn] at hk
      exact And.intro (vp_in_nI (by omega) (by omega)) (nm_r (by rw [clamp12 hv hn, hj v hv]) ⟨_, rfl, g31 hG hv, hk⟩)
def tM_coreOf : mT := fun as h k => ∃ n f K, hM h n f ∧ as = [.inr 0, .inl (nI K)] ∧ K < 2 ^ 31 ∧ k (some (nI (coreC n f K n))) h
set_option maxHeartbeats 4000000 in
set_option maxRecDepth 20000 in
theorem c_M_coreOf : m_Con cls 1 TB y_M_coreOf b_M_coreOf 5 (some .int) 0 1 tM_coreOf := by
  refine m_con (code := k_M_coreOf) (fld := f_M) (fpt := p_M) (kon := []) (call := [(48, false, 1, tM_all), (44, true, 1, tM_count)]) (C := R_M) (T := T_M) (N := 13) (by decide) (Or.inl ⟨rfl, rfl⟩) ok_M_coreOf tb_M (fun l D cA ad => m_calls ?_) ?_ ?_
  · exact List.forall_mem_cons.mpr ⟨o_M48 ⟨Nat.le_of_ble_eq_true rfl, Nat.le_of_ble_eq_true rfl⟩, List.forall_mem_cons.mpr ⟨o_M44 ⟨Nat.le_of_ble_eq_true rfl, Nat.le_of_ble_eq_true rfl⟩, fun _ h => absurd h List.not_mem_nil⟩⟩
  · rintro as h k ⟨n, f, K, ⟨j, z, rfl, hj, hG⟩, rfl, hK, hk⟩
    exact Nat.le_of_ble_eq_true rfl
  · rintro as h k ⟨n, f, K, ⟨j, z, rfl, hj, hG⟩, rfl, hK, hk⟩ V hV
    have hh : hM (mkM (nI n) j z) n f := ⟨j, z, rfl, hj, hG⟩
    have hn := hG.1
    have h12 := p12 hn
    have fin : ∀ S (y : Option mV), S < 2 ^ n → cld n f K S → (∀ X, X < 2 ^ n → cld n f K X → sub X S) → V (7, [some (.inr 0), some (.inl (nI K)), some (.inl (nI S)), some (.inl (b2i false)), y], [], mkM (nI n) j z) := by
      intro S y hS hc ht
      refine hV 60 7 _ _ _ (br_eq (b := false) (fun _ => ?_) (fun c => by cases c))
      rw [core_one ⟨hS, hc, ht⟩ (coreC_is hG K)]
      exact hk
    have outer : ∀ p S (y : Option mV), pop S < p → S < 2 ^ n → (∀ X, X < 2 ^ n → cld n f K X → sub X S) → V (7, [some (.inr 0), some (.inl (nI K)), some (.inl (nI S)), some (.inl (b2i true)), y], [], mkM (nI n) j z) := by
      intro p
      induction p with
      | zero => intro S y hp; omega
      | succ p ih =>
        intro S0 y hp hS0 ht0
        have inner : ∀ m v S mo, v + m = n → S < 2 ^ n → (∀ X, X < 2 ^ n → cld n f K X → sub X S) → (mo = false → ∀ u, u < v → S.testBit u = true → K ≤ dg f S u) → (mo = true → pop S < p) → (mo = false → pop S ≤ p) → V (16, [some (.inr 0), some (.inl (nI K)), some (.inl (nI S)), some (.inl (b2i mo)), some (.inl (nI v))], [], mkM (nI n) j z) := by
          intro m
          induction m with
          | zero =>
            intro v S mo hv hS ht h1 h2 h3
            have e : v = n := by omega
            subst e
            refine hV 60 16 _ _ _ (br_ge (a := v) (b := v) (by omega) (by omega) (fun _ => ?_) (fun c => absurd c (by omega)))
            cases mo with
            | false => exact fin S _ hS (h1 rfl) ht
            | true => exact ih S _ (h2 rfl) hS ht
          | succ m ih2 =>
            intro v S mo hv hS ht h1 h2 h3
            have hd := dg_le hG (S := S) (v := v) (by omega)
            refine hV 60 16 _ _ _ (br_ge (a := v) (b := n) (by omega) (by omega) (fun c => absurd c (by omega)) (fun _ => nm_e (nm_r (nx_bit (by omega) (by omega)) (br_bn (fun c => nm_r (nI_1 v) ?_) (fun c => And.intro (vp_in_nI (by omega) (by omega)) (nm_r (by rw [clamp12 (v := v) (n := n) (by omega) hn, hj v (by omega)]) (nm_r (nx_and _ _) ⟨_, rfl, Nat.lt_of_le_of_lt Nat.and_le_left (g31 hG (by omega)), br_ge (a := dg f S v) (b := K) (by omega) hK (fun c2 => nm_r (nI_1 v) ?_) (fun c2 => nm_r (nx_shl v (by omega)) (nm_e (nm_r (nx_sd _ _) (nm_r (nI_1 v) ?_))))⟩)))))))
            · exact ih2 (v + 1) S mo (by omega) hS ht (fun e u hu hb => by
                by_cases huv : u = v
                · rw [huv, c] at hb; cases hb
                · exact h1 e u (by omega) hb) h2 h3
            · exact ih2 (v + 1) S mo (by omega) hS ht (fun e u hu hb => by
                by_cases huv : u = v
                · rw [huv]; exact c2
                · exact h1 e u (by omega) hb) h2 h3
            · have hr := pop_rm hS hn c
              refine ih2 (v + 1) _ true (by omega) (sd_lt hS) (fun X hX hc i hi => ?_) (fun e => by cases e) (fun _ => ?_) (fun e => by cases e)
              · rw [tb_sd, tb_pow, ht X hX hc i hi]
                by_cases hiv : v = i
                · subst hiv
                  have := cld_keep hG hc (ht X hX hc) (by omega) hi
                  omega
                · simp [hiv]
              · cases mo with
                | true => have := h2 rfl; omega
                | false => have := h3 rfl; omega
        refine hV 60 7 _ _ _ (br_eq (b := true) (fun c => by cases c) (fun _ => ?_))
        exact inner n 0 S0 false (by omega) hS0 ht0 (fun _ u hu => by omega) (fun e => by cases e) (fun _ => by omega)
    exact hV 60 0 _ _ _ ⟨n, f, hh, rfl, outer (pop (2 ^ n - 1) + 1) _ none (by omega) (pw_pos n) (fun X hX hc i hi => by rw [tb_all]; simp; exact tb_of_lt hX hi)⟩
theorem o_M52 {D : va_G} {cA : ClassId} {ad : Nat → Nat} {l : Launch} {R : Room} (hR : 1 + 1 ≤ R.frames ∧ 32 * (1 + 1) ≤ R.locals) : m_OK D cls cA 1 ad TB l "DegreeCoresModel" R 52 false (1 + 1) tM_coreOf :=
  m_okV (C := R_M) (Tu := T_M) (N := 13) rfl c_M_coreOf (by decide) tb_good w_M52 ⟨rfl, by decide +kernel, by decide +kernel, by decide +kernel⟩ (by decide) hR (by rintro as h k ⟨n, f, K, ⟨j, z, rfl, hj, hG⟩, rfl, hK, hk⟩; exact ⟨0, _, _, rfl, rfl⟩)
def tM_core : mT := fun as h k => ∃ n f x, hM h n f ∧ as = [.inr 0, .inl x] ∧ ∀ r, aCore n f x r → k (some r) h
set_option maxHeartbeats 4000000 in
set_option maxRecDepth 20000 in
theorem c_M_core : m_Con cls 1 TB y_M_core b_M_core 3 (some .int) 0 2 tM_core := by
  refine m_con (code := k_M_core) (fld := f_M) (fpt := p_M) (kon := []) (call := [(36, false, 2, tM_isNode), (52, false, 2, tM_coreOf)]) (C := R_M) (T := T_M) (N := 13) (by decide) (Or.inl ⟨rfl, rfl⟩) ok_M_core tb_M (fun l D cA ad => m_calls ?_) ?_ ?_
  · exact List.forall_mem_cons.mpr ⟨o_M36 ⟨Nat.le_of_ble_eq_true rfl, Nat.le_of_ble_eq_true rfl⟩, List.forall_mem_cons.mpr ⟨o_M52 ⟨Nat.le_of_ble_eq_true rfl, Nat.le_of_ble_eq_true rfl⟩, fun _ h => absurd h List.not_mem_nil⟩⟩
  · rintro as h k ⟨n, f, x, ⟨j, z, rfl, hj, hG⟩, rfl, hk⟩
    exact Nat.le_of_ble_eq_true rfl
  · rintro as h k ⟨n, f, x, ⟨j, z, rfl, hj, hG⟩, rfl, hk⟩ V hV
    have hh : hM (mkM (nI n) j z) n f := ⟨j, z, rfl, hj, hG⟩
    have hn := hG.1
    have h12 := p12 hn
    refine hV 60 0 _ _ _ ⟨n, f, x, hh, rfl, br_ne (fun c => ?_) (fun c => hk _ (Or.inl ⟨c, rfl⟩))⟩
    obtain ⟨v, hv, rfl⟩ := isN_t hn c
    have loop : ∀ m c, c + m = n → (c = 0 ∨ (coreC n f c n).testBit v = true) → V (12, [some (.inr 0), some (.inl (nI v)), some (.inl (nI c))], [], mkM (nI n) j z) := by
      intro m
      induction m with
      | zero =>
        intro c hc h1
        have hlt := coreC_lt (n := n) (f := f) (c + 1) n
        refine hV 60 12 _ _ _ (nm_r (nI_1 c) ⟨n, f, c + 1, hh, rfl, by omega, nm_e (nm_r (nx_bit (by omega) (by omega)) (br_bn (fun c2 => ?_) (fun c2 => ?_)))⟩)
        · exact hk _ (Or.inr ⟨v, c, hv, rfl, ⟨h1, c2⟩, rfl⟩)
        · rw [core_big hG (by omega) hv] at c2; cases c2
      | succ m ih =>
        intro c hc h1
        have hlt := coreC_lt (n := n) (f := f) (c + 1) n
        refine hV 60 12 _ _ _ (nm_r (nI_1 c) ⟨n, f, c + 1, hh, rfl, by omega, nm_e (nm_r (nx_bit (by omega) (by omega)) (br_bn (fun c2 => ?_) (fun c2 => nm_r (nI_1 c) ?_)))⟩)
        · exact hk _ (Or.inr ⟨v, c, hv, rfl, ⟨h1, c2⟩, rfl⟩)
        · exact ih (c + 1) (by omega) (Or.inr c2)
    exact loop n 0 (by omega) (Or.inl rfl)
def tM_coreSet : mT := fun as h k => ∃ n f x, hM h n f ∧ as = [.inr 0, .inl x] ∧ k (some (aCSet n f x)) h
set_option maxHeartbeats 4000000 in
set_option maxRecDepth 20000 in
theorem c_M_coreSet : m_Con cls 1 TB y_M_coreSet b_M_coreSet 2 (some .int) 0 2 tM_coreSet := by
  refine m_con (code := k_M_coreSet) (fld := f_M) (fpt := p_M) (kon := []) (call := [(52, false, 2, tM_coreOf)]) (C := R_M) (T := T_M) (N := 13) (by decide) (Or.inl ⟨rfl, rfl⟩) ok_M_coreSet tb_M (fun l D cA ad => m_calls ?_) ?_ ?_
  · exact List.forall_mem_cons.mpr ⟨o_M52 ⟨Nat.le_of_ble_eq_true rfl, Nat.le_of_ble_eq_true rfl⟩, fun _ h => absurd h List.not_mem_nil⟩
  · rintro as h k ⟨n, f, x, ⟨j, z, rfl, hj, hG⟩, rfl, hk⟩
    exact Nat.le_of_ble_eq_true rfl
  · rintro as h k ⟨n, f, x, ⟨j, z, rfl, hj, hG⟩, rfl, hk⟩ V hV
    have hh : hM (mkM (nI n) j z) n f := ⟨j, z, rfl, hj, hG⟩
    refine hV 60 0 _ _ _ (And.intro (fun c => ?_) (fun c => ?_))
    · have c : 0 ≤ x := c
      obtain ⟨K, hK, rfl⟩ := nI_of (Int32.not_lt.mpr c)
      rw [aCSet, if_neg (Int32.not_lt.mpr c), nI_clamp hK] at hk
      exact ⟨n, f, K, hh, rfl, hK, hk⟩
    · have c : ¬ 0 ≤ x := c
      rw [aCSet, if_pos (Int32.not_le.mp c)] at hk
      exact hk
end
section
/-! the reference: the peeling, layers -/
/-- the first of least degree, of those of S below v -/
def am (f : Nat → Nat) (S : Nat) : Nat → Option Nat
  | 0 => none
  | v + 1 => bif S.testBit v then (match am f S v with
    | none => some v
    | some u => if dg f S v < dg f S u then some v else some u) else am f S v
theorem am_none {f : Nat → Nat} {S v : Nat} (h : am f S v = none) : ∀ u, u < v → S.testBit u = false := by
  induction v with
  | zero => intro u hu; omega
  | succ v ih =>
    rw [am] at h
    cases hb : S.testBit v with
    | true =>
      rw [hb] at h
      simp only [cond_true] at h
      split at h
      · cases h
      · split at h <;> cases h
    | false =>
      rw [hb] at h
      intro u hu
      by_cases e : u = v
      · rw [e]; exact hb
      · exact ih h u (by omega)
theorem am_some {f : Nat → Nat} {S v u : Nat} (h : am f S v = some u) : u < v ∧ S.testBit u = true ∧ (∀ x, x < v → S.testBit x = true → dg f S u ≤ dg f S x) ∧ ∀ x, x < u → S.testBit x = true → dg f S u < dg f S x := by
  induction v generalizing u with
  | zero => cases h
  | succ v ih =>
    rw [am] at h
    cases hb : S.testBit v with
    | false =>
      rw [hb] at h
      obtain ⟨h1, h2, h3, h4⟩ := ih h
      refine ⟨by omega, h2, fun x hx hxb => ?_, h4⟩
      by_cases e : x = v
      · rw [e, hb] at hxb; cases hxb
      · exact h3 x (by omega) hxb
    | true =>
      rw [hb] at h
      simp only [cond_true] at h
      split at h
      · rename_i hn
        cases h
        have hz := am_none hn
        refine ⟨by omega, hb, fun x hx hxb => ?_, fun x hx hxb => ?_⟩
        · by_cases e : x = v
          · rw [e]; exact Nat.le_refl _
          · rw [hz x (by omega)] at hxb; cases hxb
        · rw [hz x (by omega)] at hxb; cases hxb
      · rename_i w hw
        obtain ⟨h1, h2, h3, h4⟩ := ih hw
        split at h
        · rename_i hlt
          cases h
          refine ⟨by omega, hb, fun x hx hxb => ?_, fun x hx hxb => ?_⟩
          · by_cases e : x = v
            · rw [e]; exact Nat.le_refl _
            · have := h3 x (by omega) hxb; omega
          · have := h3 x hx hxb; omega
        · rename_i hge
          cases h
          refine ⟨by omega, h2, fun x hx hxb => ?_, h4⟩
          by_cases e : x = v
          · rw [e]; omega
          · exact h3 x (by omega) hxb
def tM_peeled : mT := fun as h k => ∃ n f x, hM h n f ∧ as = [.inr 0, .inl x] ∧ k (some (aPeel n f x)) h
set_option maxHeartbeats 4000000 in
set_option maxRecDepth 20000 in
theorem c_M_peeled : m_Con cls 1 TB y_M_peeled b_M_peeled 6 (some .int) 0 1 tM_peeled := by
  refine m_con (code := k_M_peeled) (fld := f_M) (fpt := p_M) (kon := []) (call := [(36, false, 2, tM_isNode), (48, false, 1, tM_all), (44, true, 1, tM_count)]) (C := R_M) (T := T_M) (N := 13) (by decide) (Or.inl ⟨rfl, rfl⟩) ok_M_peeled tb_M (fun l D cA ad => m_calls ?_) ?_ ?_
  · exact List.forall_mem_cons.mpr ⟨o_M36 ⟨Nat.le_of_ble_eq_true rfl, Nat.le_of_ble_eq_true rfl⟩, List.forall_mem_cons.mpr ⟨o_M48 ⟨Nat.le_of_ble_eq_true rfl, Nat.le_of_ble_eq_true rfl⟩, List.forall_mem_cons.mpr ⟨o_M44 ⟨Nat.le_of_ble_eq_true rfl, Nat.le_of_ble_eq_true rfl⟩, fun _ h => absurd h List.not_mem_nil⟩⟩⟩
  · rintro as h k ⟨n, f, x, ⟨j, z, rfl, hj, hG⟩, rfl, hk⟩
    exact Nat.le_of_ble_eq_true rfl
  · rintro as h k ⟨n, f, x, ⟨j, z, rfl, hj, hG⟩, rfl, hk⟩ V hV
    have hh : hM (mkM (nI n) j z) n f := ⟨j, z, rfl, hj, hG⟩
    have hn := hG.1
    have h12 := p12 hn
    refine hV 60 0 _ _ _ ⟨n, f, x, hh, rfl, br_ne (fun c => ?_) (fun c => ?_)⟩
    · obtain ⟨v, hv, rfl⟩ := isN_t hn c
      rw [aPeel, c, clamp12 hv hn] at hk
      have loop : ∀ m u tk (y : Option mV), u + m = v + 1 → (0 < u → tk = nI (tkS n f (pS n f (u - 1)))) → V (20, [some (.inr 0), some (.inl (nI v)), some (.inl (nI (pS n f u))), some (.inl tk), some (.inl (nI u)), y], [], mkM (nI n) j z) := by
        intro m
        induction m with
        | zero =>
          intro u tk y hu htk
          refine hV 60 20 _ _ _ (br_gt (a := u) (b := v) (by omega) (by omega) (fun _ => ?_) (fun c => absurd c (by omega)))
          have e := htk (by omega)
          have e2 : u - 1 = v := by omega
          rw [e2] at e
          subst e
          exact hk
        | succ m ih =>
          intro u tk y hu htk
          have hlt := pS_lt (n := n) (f := f) u
          have hne := pS_ne hG (t := u) (by omega)
          have inner : ∀ m' i, i + m' = n → V (31, [some (.inr 0), some (.inl (nI v)), some (.inl (nI (pS n f u))), some (.inl (oI (am f (pS n f u) i))), some (.inl (nI u)), some (.inl (nI i))], [], mkM (nI n) j z) := by
            intro m'
            induction m' with
            | zero =>
              intro i hi
              have e : i = n := by omega
              subst e
              refine hV 60 31 _ _ _ (br_ge (a := i) (b := i) (by omega) (by omega) (fun _ => ?_) (fun c => absurd c (by omega)))
              cases ha : am f (pS i f u) i with
              | none =>
                exfalso
                have hz := am_none ha
                have htk := tk_is hG hlt hne
                have hbt := htk.2.1
                rw [hz _ htk.1] at hbt
                cases hbt
              | some g =>
                obtain ⟨a1, a2, a3, a4⟩ := am_some ha
                have e : g = tkS i f (pS i f u) := pk_one ⟨a1, a2, a3, a4⟩ (tk_is hG hlt hne)
                rw [show oI (some g) = nI g from rfl]
                refine nm_r (nx_shl g (by omega)) (nm_e (nm_r (nx_sd _ _) (nm_r (nI_1 u) ?_)))
                have := ih (u + 1) (nI g) (some (.inl (nI i))) (by omega) (fun _ => by rw [e]; rfl)
                rw [e]
                rw [e] at this
                exact this
            | succ m' ih2 =>
              intro i hi
              have hnx := ih2 (i + 1) (by omega)
              refine hV 60 31 _ _ _ (br_ge (a := i) (b := n) (by omega) (by omega) (fun c => absurd c (by omega)) (fun _ => nm_e (nm_r (nx_bit (by omega) (by omega)) (br_bn (fun c => nm_r (nI_1 i) ?_) (fun c => ?_)))))
              · rw [am, c] at hnx
                exact hnx
              · rw [am, c] at hnx
                simp only [cond_true] at hnx
                cases ha : am f (pS n f u) i with
                | none =>
                  rw [ha] at hnx
                  exact And.intro (fun _ => nm_r (nI_1 i) hnx) (fun c => absurd (show (-1 : Int32) < 0 by decide) c)
                | some g =>
                  rw [ha] at hnx
                  dsimp only at hnx
                  obtain ⟨a1, a2, a3, a4⟩ := am_some ha
                  have d1 := dg_le hG (S := pS n f u) (v := i) (by omega)
                  have d2 := dg_le hG (S := pS n f u) (v := g) (by omega)
                  rw [show oI (some g) = nI g from rfl]
                  refine And.intro (fun c => absurd c (nI_pos (by omega))) (fun _ => And.intro (vp_in_nI (by omega) (by omega)) (nm_r (by rw [clamp12 (v := i) (n := n) (by omega) hn, hj i (by omega)]) (nm_r (nx_and _ _) ⟨_, rfl, Nat.lt_of_le_of_lt Nat.and_le_left (g31 hG (by omega)), And.intro (vp_in_nI (by omega) (by omega)) (nm_r (by rw [clamp12 (v := g) (n := n) (by omega) hn, hj g (by omega)]) (nm_r (nx_and _ _) ⟨_, rfl, Nat.lt_of_le_of_lt Nat.and_le_left (g31 hG (by omega)), br_ge (a := dg f (pS n f u) i) (b := dg f (pS n f u) g) (by omega) (by omega) (fun c2 => nm_r (nI_1 i) ?_) (fun c2 => nm_r (nI_1 i) ?_)⟩))⟩)))
                  · rw [if_neg (by omega)] at hnx
                    exact hnx
                  · rw [if_pos c2] at hnx
                    exact hnx
          refine hV 60 20 _ _ _ (br_gt (a := u) (b := v) (by omega) (by omega) (fun c => absurd c (by omega)) (fun _ => ?_))
          exact inner n 0 (by omega)
      exact ⟨n, f, hh, rfl, loop (v + 1) 0 (-1) none (by omega) (fun h => by omega)⟩
    · rw [aPeel, c] at hk; exact hk
def tM_layer : mT := fun as h k => ∃ n f x, hM h n f ∧ as = [.inr 0, .inl x] ∧ ∀ r, aLay n f x r → k (some r) h
set_option maxHeartbeats 4000000 in
set_option maxRecDepth 20000 in
theorem c_M_layer : m_Con cls 1 TB y_M_layer b_M_layer 8 (some .int) 0 1 tM_layer := by
  refine m_con (code := k_M_layer) (fld := f_M) (fpt := p_M) (kon := []) (call := [(36, false, 2, tM_isNode), (48, false, 1, tM_all), (44, true, 1, tM_count)]) (C := R_M) (T := T_M) (N := 13) (by decide) (Or.inl ⟨rfl, rfl⟩) ok_M_layer tb_M (fun l D cA ad => m_calls ?_) ?_ ?_
  · exact List.forall_mem_cons.mpr ⟨o_M36 ⟨Nat.le_of_ble_eq_true rfl, Nat.le_of_ble_eq_true rfl⟩, List.forall_mem_cons.mpr ⟨o_M48 ⟨Nat.le_of_ble_eq_true rfl, Nat.le_of_ble_eq_true rfl⟩, List.forall_mem_cons.mpr ⟨o_M44 ⟨Nat.le_of_ble_eq_true rfl, Nat.le_of_ble_eq_true rfl⟩, fun _ h => absurd h List.not_mem_nil⟩⟩⟩
  · rintro as h k ⟨n, f, x, ⟨j, z, rfl, hj, hG⟩, rfl, hk⟩
    exact Nat.le_of_ble_eq_true rfl
  · rintro as h k ⟨n, f, x, ⟨j, z, rfl, hj, hG⟩, rfl, hk⟩ V hV
    have hh : hM (mkM (nI n) j z) n f := ⟨j, z, rfl, hj, hG⟩
    have hn := hG.1
    have h12 := p12 hn
    refine hV 60 0 _ _ _ ⟨n, f, x, hh, rfl, br_ne (fun c => ?_) (fun c => hk _ (Or.inl ⟨c, rfl⟩))⟩
    obtain ⟨v, hv, rfl⟩ := isN_t hn c
    have loop : ∀ m u (y5 y6 y7 : Option mV), u + m = n → (∀ s, s < u → (Ly n f s).1.testBit v = true) → V (20, [some (.inr 0), some (.inl (nI v)), some (.inl (nI (Ly n f u).1)), some (.inl (nI (Ly n f u).2)), some (.inl (nI u)), y5, y6, y7], [], mkM (nI n) j z) := by
      intro m
      induction m with
      | zero =>
        intro u y5 y6 y7 hu hi
        have hlt := Ly_lt (n := n) (f := f) u
        refine hV 60 20 _ _ _ (nm_e (nm_r (nx_bit (by omega) (by omega)) (br_bn (fun c2 => ?_) (fun c2 => ?_))))
        · exact hk _ (Or.inr ⟨v, u, hv, rfl, ⟨c2, hi⟩, rfl⟩)
        · exfalso
          rcases Ly_pop hG u with h0 | h0
          · rw [h0] at c2; simp at c2
          · have h1 : pop (Ly n f u).1 = 0 := by omega
            rw [pop_n (Ly_lt u) hn] at h1
            rw [cn_0 h1 v hv] at c2
            cases c2
      | succ m ih =>
        intro u y5 y6 y7 hu hi
        have hlt := Ly_lt (n := n) (f := f) u
        have hk12 := Ly_k (n := n) (f := f) u
        have hk12' := Ly_k (n := n) (f := f) (u + 1)
        have hl12 := ld_12 f (Ly n f u).1 n
        refine hV 60 20 _ _ _ (nm_e (nm_r (nx_bit (by omega) (by omega)) (br_bn (fun c2 => ?_) (fun c2 => ?_))))
        · exact hk _ (Or.inr ⟨v, u, hv, rfl, ⟨c2, hi⟩, rfl⟩)
        · have in2 : ∀ m' i (y5 : Option mV), i + m' = n → V (110, [some (.inr 0), some (.inl (nI v)), some (.inl (nI (Ly n f u).1)), some (.inl (nI (Ly n f (u + 1)).2)), some (.inl (nI u)), y5, some (.inl (nI (lo i f (Ly n f u).1 (fun d => decide (d ≤ (Ly n f (u + 1)).2))))), some (.inl (nI i))], [], mkM (nI n) j z) := by
            intro m'
            induction m' with
            | zero =>
              intro i y5 hi2
              have e : i = n := by omega
              subst e
              refine hV 60 110 _ _ _ (br_ge (a := i) (b := i) (by omega) (by omega) (fun _ => nm_e (nm_r (nx_sd _ _) (nm_r (nI_1 u) ?_))) (fun c => absurd c (by omega)))
              exact ih (u + 1) _ _ _ (by omega) (fun s hs => by
                by_cases hsu : s = u
                · rw [hsu]; exact c2
                · exact hi s (by omega))
            | succ m' ih2 =>
              intro i y5 hi2
              have hnx := ih2 (i + 1) y5 (by omega)
              have hd := dg_le hG (S := (Ly n f u).1) (v := i) (by omega)
              have e : lo (i + 1) f (Ly n f u).1 (fun d => decide (d ≤ (Ly n f (u + 1)).2)) = lo i f (Ly n f u).1 (fun d => decide (d ≤ (Ly n f (u + 1)).2)) ||| (bif (Ly n f u).1.testBit i && decide (dg f (Ly n f u).1 i ≤ (Ly n f (u + 1)).2) then 2 ^ i else 0) := rfl
              refine hV 60 110 _ _ _ (br_ge (a := i) (b := n) (by omega) (by omega) (fun c => absurd c (by omega)) (fun _ => nm_e (nm_r (nx_bit (by omega) (by omega)) (br_bn (fun c => nm_r (nx_or _ 0) (nm_r (nI_1 i) ?_)) (fun c => And.intro (vp_in_nI (by omega) (by omega)) (nm_r (by rw [clamp12 (v := i) (n := n) (by omega) hn, hj i (by omega)]) (nm_r (nx_and _ _) ⟨_, rfl, Nat.lt_of_le_of_lt Nat.and_le_left (g31 hG (by omega)), br_gt (a := dg f (Ly n f u).1 i) (b := (Ly n f (u + 1)).2) (by omega) (by omega) (fun c3 => nm_r (nx_or _ 0) (nm_r (nI_1 i) ?_)) (fun c3 => nm_r (nx_shl i (by omega)) (nm_r (nx_or _ _) (nm_r (nI_1 i) ?_)))⟩)))))))
              · rw [e, c] at hnx
                exact hnx
              · rw [e, decide_eq_false (by omega : ¬ dg f (Ly n f u).1 i ≤ (Ly n f (u + 1)).2), Bool.and_false] at hnx
                exact hnx
              · rw [e, c, decide_eq_true c3] at hnx
                exact hnx
          have in1 : ∀ m' i (y7 : Option mV), i + m' = n → V (36, [some (.inr 0), some (.inl (nI v)), some (.inl (nI (Ly n f u).1)), some (.inl (nI (Ly n f u).2)), some (.inl (nI u)), some (.inl (nI (ld f (Ly n f u).1 i))), some (.inl (nI i)), y7], [], mkM (nI n) j z) := by
            intro m'
            induction m' with
            | zero =>
              intro i y7 hi2
              have e : i = n := by omega
              subst e
              have eK : (Ly i f (u + 1)).2 = if (Ly i f u).2 < ld f (Ly i f u).1 i then ld f (Ly i f u).1 i else (Ly i f u).2 := rfl
              have hnx := in2 i 0 (some (.inl (nI (ld f (Ly i f u).1 i)))) (by omega)
              refine hV 60 36 _ _ _ (br_ge (a := i) (b := i) (by omega) (by omega) (fun _ => br_le (a := ld f (Ly i f u).1 i) (b := (Ly i f u).2) (by omega) (by omega) (fun c3 => ?_) (fun c3 => ?_)) (fun c => absurd c (by omega)))
              · rw [eK, if_neg (by omega)] at hnx
                exact hnx
              · rw [eK, if_pos c3] at hnx
                exact hnx
            | succ m' ih2 =>
              intro i y7 hi2
              have hd := dg_le hG (S := (Ly n f u).1) (v := i) (by omega)
              have hl := ld_12 f (Ly n f u).1 i
              have hnx := ih2 (i + 1) (some (.inl (nI (dg f (Ly n f u).1 i)))) (by omega)
              refine hV 60 36 _ _ _ (br_ge (a := i) (b := n) (by omega) (by omega) (fun c => absurd c (by omega)) (fun _ => And.intro (vp_in_nI (by omega) (by omega)) (nm_r (by rw [clamp12 (v := i) (n := n) (by omega) hn, hj i (by omega)]) (nm_r (nx_and _ _) ⟨_, rfl, Nat.lt_of_le_of_lt Nat.and_le_left (g31 hG (by omega)), nm_e (nm_r (nx_bit (by omega) (by omega)) (br_bn (fun c => nm_r (nI_1 i) ?_) (fun c => br_ge (a := dg f (Ly n f u).1 i) (b := ld f (Ly n f u).1 i) (by omega) (by omega) (fun c3 => nm_r (nI_1 i) ?_) (fun c3 => nm_r (nI_1 i) ?_))))⟩))))
              · rw [ld, c] at hnx
                exact hnx
              · rw [ld, c] at hnx
                simp only [cond_true] at hnx
                rw [if_neg (by omega)] at hnx
                exact hnx
              · rw [ld, c] at hnx
                simp only [cond_true] at hnx
                rw [if_pos c3] at hnx
                exact hnx
          exact in1 n 0 y7 (by omega)
    exact ⟨n, f, hh, rfl, loop n 0 none none none (by omega) (fun s hs => by omega)⟩
end
section
/-! the reference: triangles, shares -/
def tM_areJoined : mT := fun as h k => ∃ n f a b, hM h n f ∧ as = [.inr 0, .inl (nI a), .inl (nI b)] ∧ a < n ∧ b < n ∧ k (some (b2i ((f a).testBit b))) h
set_option maxHeartbeats 4000000 in
set_option maxRecDepth 20000 in
theorem c_M_areJoined : m_Con cls 1 TB y_M_areJoined b_M_areJoined 3 (some .boolean) 1 0 tM_areJoined := by
  refine m_con (code := k_M_areJoined) (fld := f_M) (fpt := p_M) (kon := []) (call := []) (C := R_M) (T := T_M) (N := 13) (by decide) (Or.inr (Or.inl ⟨rfl, rfl⟩)) ok_M_areJoined tb_M (fun l D cA ad => m_calls ?_) ?_ ?_
  · exact fun _ h => absurd h List.not_mem_nil
  · rintro as h k ⟨n, f, a, b, ⟨j, z, rfl, hj, hG⟩, rfl, ha, hb, hk⟩
    exact Nat.le_of_ble_eq_true rfl
  · rintro as h k ⟨n, f, a, b, ⟨j, z, rfl, hj, hG⟩, rfl, ha, hb, hk⟩ V hV
    have hn := hG.1
    have ga := g31 hG ha
    refine hV 60 0 _ _ _ (And.intro (vp_in_nI (by omega) (by omega)) (nm_r (by rw [clamp12 ha hn, hj a ha]) (nm_e (nm_r (nx_bit (by omega) (by omega)) (br_bn (fun c => And.intro (Or.inl rfl) ?_) (fun c => And.intro (Or.inr rfl) ?_))))))
    · rw [c] at hk; exact hk
    · rw [c] at hk; exact hk
theorem o_M55 {D : va_G} {cA : ClassId} {ad : Nat → Nat} {l : Launch} {R : Room} (hR : 0 + 1 ≤ R.frames ∧ 32 * (0 + 1) ≤ R.locals) : m_OK D cls cA 1 ad TB l "DegreeCoresModel" R 55 false (2 + 1) tM_areJoined :=
  m_okV (C := R_M) (Tu := T_M) (N := 13) rfl c_M_areJoined (by decide) tb_good w_M55 ⟨rfl, by decide +kernel, by decide +kernel, by decide +kernel⟩ (by decide) hR (by rintro as h k ⟨n, f, a, b, ⟨j, z, rfl, hj, hG⟩, rfl, ha, hb, hk⟩; exact ⟨0, _, _, rfl, rfl⟩)
def tM_isEdge : mT := fun as h k => ∃ n f x y, hM h n f ∧ as = [.inr 0, .inl x, .inl y] ∧ k (some (b2i (edg n f x y))) h
set_option maxHeartbeats 4000000 in
set_option maxRecDepth 20000 in
theorem c_M_isEdge : m_Con cls 1 TB y_M_isEdge b_M_isEdge 3 (some .boolean) 1 2 tM_isEdge := by
  refine m_con (code := k_M_isEdge) (fld := f_M) (fpt := p_M) (kon := []) (call := [(40, false, 3, tM_areTwo), (55, false, 3, tM_areJoined)]) (C := R_M) (T := T_M) (N := 13) (by decide) (Or.inr (Or.inl ⟨rfl, rfl⟩)) ok_M_isEdge tb_M (fun l D cA ad => m_calls ?_) ?_ ?_
  · exact List.forall_mem_cons.mpr ⟨o_M40 ⟨Nat.le_of_ble_eq_true rfl, Nat.le_of_ble_eq_true rfl⟩, List.forall_mem_cons.mpr ⟨o_M55 ⟨Nat.le_of_ble_eq_true rfl, Nat.le_of_ble_eq_true rfl⟩, fun _ h => absurd h List.not_mem_nil⟩⟩
  · rintro as h k ⟨n, f, x, y, ⟨j, z, rfl, hj, hG⟩, rfl, hk⟩
    exact Nat.le_of_ble_eq_true rfl
  · rintro as h k ⟨n, f, x, y, ⟨j, z, rfl, hj, hG⟩, rfl, hk⟩ V hV
    have hh : hM (mkM (nI n) j z) n f := ⟨j, z, rfl, hj, hG⟩
    refine hV 60 0 _ _ _ ⟨n, f, x, y, hh, rfl, br_eq (fun c => And.intro (Or.inl rfl) ?_) (fun c => ?_)⟩
    · have e : edg n f x y = false := by simp [edg, c]
      rw [e] at hk; exact hk
    · obtain ⟨u, v, hu, hv, huv, rfl, rfl⟩ := two_t hG.1 c
      have hn := hG.1
      have eq : edg n f (nI u) (nI v) = (f u).testBit v := by simp [edg, c, clamp12 hu hn, clamp12 hv hn]
      rw [eq] at hk
      refine ⟨n, f, u, v, hh, rfl, hu, hv, br_eq (fun c2 => And.intro (Or.inl rfl) ?_) (fun c2 => And.intro (Or.inr rfl) ?_)⟩
      · rw [c2] at hk; exact hk
      · rw [c2] at hk; exact hk
theorem o_M70 {D : va_G} {cA : ClassId} {ad : Nat → Nat} {l : Launch} {R : Room} (hR : 2 + 1 ≤ R.frames ∧ 32 * (2 + 1) ≤ R.locals) : m_OK D cls cA 1 ad TB l "DegreeCoresModel" R 70 false (2 + 1) tM_isEdge :=
  m_okV (C := R_M) (Tu := T_M) (N := 13) rfl c_M_isEdge (by decide) tb_good w_M70 ⟨rfl, by decide +kernel, by decide +kernel, by decide +kernel⟩ (by decide) hR (by rintro as h k ⟨n, f, x, y, ⟨j, z, rfl, hj, hG⟩, rfl, hk⟩; exact ⟨0, _, _, rfl, rfl⟩)
def tM_support : mT := fun as h k => ∃ n f x y, hM h n f ∧ as = [.inr 0, .inl x, .inl y] ∧ k (some (aSup n f x y)) h
set_option maxHeartbeats 4000000 in
set_option maxRecDepth 20000 in
theorem c_M_support : m_Con cls 1 TB y_M_support b_M_support 3 (some .int) 0 3 tM_support := by
  refine m_con (code := k_M_support) (fld := f_M) (fpt := p_M) (kon := []) (call := [(70, false, 3, tM_isEdge), (44, true, 1, tM_count)]) (C := R_M) (T := T_M) (N := 13) (by decide) (Or.inl ⟨rfl, rfl⟩) ok_M_support tb_M (fun l D cA ad => m_calls ?_) ?_ ?_
  · exact List.forall_mem_cons.mpr ⟨o_M70 ⟨Nat.le_of_ble_eq_true rfl, Nat.le_of_ble_eq_true rfl⟩, List.forall_mem_cons.mpr ⟨o_M44 ⟨Nat.le_of_ble_eq_true rfl, Nat.le_of_ble_eq_true rfl⟩, fun _ h => absurd h List.not_mem_nil⟩⟩
  · rintro as h k ⟨n, f, x, y, ⟨j, z, rfl, hj, hG⟩, rfl, hk⟩
    exact Nat.le_of_ble_eq_true rfl
  · rintro as h k ⟨n, f, x, y, ⟨j, z, rfl, hj, hG⟩, rfl, hk⟩ V hV
    have hh : hM (mkM (nI n) j z) n f := ⟨j, z, rfl, hj, hG⟩
    have hn := hG.1
    refine hV 60 0 _ _ _ ⟨n, f, x, y, hh, rfl, br_eq (fun c => ?_) (fun c => ?_)⟩
    · rw [aSup, c] at hk; exact hk
    · obtain ⟨u, v, hu, hv, huv, rfl, rfl, hb⟩ := edg_t hn c
      rw [aSup, c, clamp12 hu hn, clamp12 hv hn] at hk
      exact And.intro (vp_in_nI (by omega) (by omega)) (nm_r (by rw [clamp12 hu hn, hj u hu]) (And.intro (vp_in_nI (by omega) (by omega)) (nm_r (by rw [clamp12 hv hn, hj v hv]) (nm_r (nx_and _ _) ⟨_, rfl, Nat.lt_of_le_of_lt Nat.and_le_left (g31 hG hu), hk⟩))))
abbrev I3 : Type := Int32 × Int32 × Int32
def zF (z : mZ) (l : I3) : mZ := (z.1, z.2.1, z.2.2.1, z.2.2.2.1, z.2.2.2.2.1, l.1, l.2.1, l.2.2, z.2.2.2.2.2.2.2.2)
def z3 (z : mZ) : I3 := (z.2.2.2.2.2.1, z.2.2.2.2.2.2.1, z.2.2.2.2.2.2.2.1)
def q3 (q : Nat × Nat × Nat) : I3 := (nI q.1, nI q.2.1, nI q.2.2)
def wk (till : Int32) : Nat → I3 → List (Nat × Nat × Nat) → Nat × I3
  | c, l, [] => (c, l)
  | c, _, q :: t => if nI (c + 1) = till then (c + 1, q3 q) else wk till (c + 1) (q3 q) t
def tM_walk : mT := fun as h k => ∃ n f j z till, h = mkM (nI n) j z ∧ (∀ v, v < n → j v = nI (f v)) ∧ Gr n f ∧ as = [.inr 0, .inl till] ∧ k (some (nI (wk till 0 (z3 z) (tls n f)).1)) (mkM (nI n) j (zF z (wk till 0 (z3 z) (tls n f)).2))
set_option maxHeartbeats 4000000 in
set_option maxRecDepth 20000 in
theorem c_M_walk : m_Con cls 1 TB y_M_walk b_M_walk 6 (some .int) 0 1 tM_walk := by
  refine m_con (code := k_M_walk) (fld := f_M) (fpt := p_M) (kon := []) (call := [(55, false, 3, tM_areJoined)]) (C := R_M) (T := T_M) (N := 13) (by decide) (Or.inl ⟨rfl, rfl⟩) ok_M_walk tb_M (fun l D cA ad => m_calls ?_) ?_ ?_
  · exact List.forall_mem_cons.mpr ⟨o_M55 ⟨Nat.le_of_ble_eq_true rfl, Nat.le_of_ble_eq_true rfl⟩, fun _ h => absurd h List.not_mem_nil⟩
  · rintro as h k ⟨n, f, j, z, till, rfl, hj, hG, rfl, hk⟩
    exact Nat.le_of_ble_eq_true rfl
  · rintro as h k ⟨n, f, j, z, till, rfl, hj, hG, rfl, hk⟩ V hV
    have hn := hG.1
    generalize hans : wk till 0 (z3 z) (tls n f) = ans at hk
    have l3 : ∀ m a b c bef l rest, a < n → b < n → c + m = n → (∀ bef' l' (y : Option mV), wk till bef' l' rest = ans → V (17, [some (.inr 0), some (.inl till), some (.inl (nI bef')), some (.inl (nI a)), some (.inl (nI (b + 1))), y], [], mkM (nI n) j (zF z l'))) → wk till bef l (tl3 f a b m c ++ rest) = ans → V (32, [some (.inr 0), some (.inl till), some (.inl (nI bef)), some (.inl (nI a)), some (.inl (nI b)), some (.inl (nI c))], [], mkM (nI n) j (zF z l)) := by
      intro m
      induction m with
      | zero =>
        intro a b c bef l rest ha hb hc hcont he
        exact hV 60 32 _ _ _ (br_ge (a := c) (b := n) (by omega) (by omega) (fun _ => nm_r (nI_1 b) (hcont bef l _ he)) (fun c => absurd c (by omega)))
      | succ m ih =>
        intro a b c bef l rest ha hb hc hcont he
        have hh : hM (mkM (nI n) j (zF z l)) n f := ⟨j, _, rfl, hj, hG⟩
        rw [tl3] at he
        have no : tri f a b c = false → V (32, [some (.inr 0), some (.inl till), some (.inl (nI bef)), some (.inl (nI a)), some (.inl (nI b)), some (.inl (nI (c + 1)))], [], mkM (nI n) j (zF z l)) := fun e => by
          rw [e] at he
          exact ih a b (c + 1) bef l rest ha hb (by omega) hcont he
        refine hV 60 32 _ _ _ (br_ge (a := c) (b := n) (by omega) (by omega) (fun c => absurd c (by omega)) (fun _ => ⟨n, f, a, b, hh, rfl, ha, hb, br_eq (fun c1 => nm_r (nI_1 c) (no (by simp [tri, c1]))) (fun c1 => ⟨n, f, a, c, hh, rfl, ha, by omega, br_eq (fun c2 => nm_r (nI_1 c) (no (by simp [tri, c2]))) (fun c2 => ⟨n, f, b, c, hh, rfl, hb, by omega, br_eq (fun c3 => nm_r (nI_1 c) (no (by simp [tri, c3]))) (fun c3 => nm_r (nI_1 bef) (And.intro (fun c4 => nm_r (nI_1 c) ?_) (fun c4 => ?_)))⟩)⟩)⟩))
        · have c4 : ¬ nI (bef + 1) = till := c4
          have e : tri f a b c = true := by simp [tri, c1, c2, c3]
          rw [e] at he
          have he : (if nI (bef + 1) = till then (bef + 1, q3 (a, b, c)) else wk till (bef + 1) (q3 (a, b, c)) (tl3 f a b m (c + 1) ++ rest)) = ans := he
          rw [if_neg c4] at he
          exact ih a b (c + 1) (bef + 1) (q3 (a, b, c)) rest ha hb (by omega) hcont he
        · have c4 : nI (bef + 1) = till := c4
          have e : tri f a b c = true := by simp [tri, c1, c2, c3]
          rw [e] at he
          have he : (if nI (bef + 1) = till then (bef + 1, q3 (a, b, c)) else wk till (bef + 1) (q3 (a, b, c)) (tl3 f a b m (c + 1) ++ rest)) = ans := he
          rw [if_pos c4] at he
          rw [← he] at hk
          exact hk
    have l2 : ∀ m a b bef l rest (y : Option mV), a < n → b + m = n → (∀ bef' l' (x y : Option mV), wk till bef' l' rest = ans → V (4, [some (.inr 0), some (.inl till), some (.inl (nI bef')), some (.inl (nI (a + 1))), x, y], [], mkM (nI n) j (zF z l'))) → wk till bef l (tl2 f n a m b ++ rest) = ans → V (17, [some (.inr 0), some (.inl till), some (.inl (nI bef)), some (.inl (nI a)), some (.inl (nI b)), y], [], mkM (nI n) j (zF z l)) := by
      intro m
      induction m with
      | zero =>
        intro a b bef l rest y ha hb hcont he
        exact hV 60 17 _ _ _ (br_ge (a := b) (b := n) (by omega) (by omega) (fun _ => nm_r (nI_1 a) (hcont bef l _ _ he)) (fun c => absurd c (by omega)))
      | succ m ih =>
        intro a b bef l rest y ha hb hcont he
        refine hV 60 17 _ _ _ (br_ge (a := b) (b := n) (by omega) (by omega) (fun c => absurd c (by omega)) (fun _ => nm_r (nI_1 b) ?_))
        rw [tl2, List.append_assoc] at he
        exact l3 (n - (b + 1)) a b (b + 1) bef l _ ha (by omega) (by omega) (fun bef' l' y' he' => ih a (b + 1) bef' l' rest y' ha (by omega) hcont he') he
    have l1 : ∀ m a bef l (x y : Option mV), a + m = n → wk till bef l (tl1 f n m a) = ans → V (4, [some (.inr 0), some (.inl till), some (.inl (nI bef)), some (.inl (nI a)), x, y], [], mkM (nI n) j (zF z l)) := by
      intro m
      induction m with
      | zero =>
        intro a bef l x y ha he
        have he : (bef, l) = ans := he
        refine hV 60 4 _ _ _ (br_ge (a := a) (b := n) (by omega) (by omega) (fun _ => ?_) (fun c => absurd c (by omega)))
        rw [← he] at hk
        exact hk
      | succ m ih =>
        intro a bef l x y ha he
        refine hV 60 4 _ _ _ (br_ge (a := a) (b := n) (by omega) (by omega) (fun c => absurd c (by omega)) (fun _ => nm_r (nI_1 a) ?_))
        rw [tl1] at he
        exact l2 (n - (a + 1)) a (a + 1) bef l _ y (by omega) (by omega) (fun bef' l' x' y' he' => ih (a + 1) bef' l' x' y' (by omega) he') he
    exact hV 60 0 _ _ _ (l1 n 0 0 (z3 z) none none (by omega) hans)
theorem o_M67 {D : va_G} {cA : ClassId} {ad : Nat → Nat} {l : Launch} {R : Room} (hR : 1 + 1 ≤ R.frames ∧ 32 * (1 + 1) ≤ R.locals) : m_OK D cls cA 1 ad TB l "DegreeCoresModel" R 67 false (1 + 1) tM_walk :=
  m_okV (C := R_M) (Tu := T_M) (N := 13) rfl c_M_walk (by decide) tb_good w_M67 ⟨rfl, by decide +kernel, by decide +kernel, by decide +kernel⟩ (by decide) hR (by rintro as h k ⟨n, f, j, z, till, rfl, hj, hG, rfl, hk⟩; exact ⟨0, _, _, rfl, rfl⟩)
-- how long the list is
theorem tl3_len (f : Nat → Nat) (a b m : Nat) : ∀ c, sm (fun i => (tri f a b i).toNat) (c + m) = sm (fun i => (tri f a b i).toNat) c + (tl3 f a b m c).length := by
  induction m with
  | zero => intro c; rfl
  | succ m ih =>
    intro c
    have h := ih (c + 1)
    rw [show c + (m + 1) = c + 1 + m by omega, h]
    show sm _ c + (tri f a b c).toNat + _ = _
    rw [tl3]
    cases tri f a b c with
    | true => simp; omega
    | false => simp
theorem tl3_le (f : Nat → Nat) (a b m : Nat) : ∀ c, (tl3 f a b m c).length ≤ m := by
  induction m with
  | zero => intro c; exact Nat.le_refl _
  | succ m ih =>
    intro c
    have h := ih (c + 1)
    rw [tl3]
    cases tri f a b c with
    | true => simp; exact h
    | false => simp; omega
theorem tI_in (f : Nat → Nat) {n a b : Nat} (hab : a < b) (hb : b < n) : sm (tI f a b) n = (tl3 f a b (n - (b + 1)) (b + 1)).length := by
  have h := tl3_len f a b (n - (b + 1)) (b + 1)
  rw [show b + 1 + (n - (b + 1)) = n by omega] at h
  have h0 : sm (tI f a b) (b + 1) = 0 := sm_zero' (fun i hi => by simp [tI, show ¬ b < i by omega])
  have key : ∀ m, b + 1 + m ≤ n → sm (tI f a b) (b + 1 + m) + sm (fun i => (tri f a b i).toNat) (b + 1) = sm (fun i => (tri f a b i).toNat) (b + 1 + m) := by
    intro m
    induction m with
    | zero => intro _; rw [h0]; simp
    | succ m ih =>
      intro hm
      have := ih (by omega)
      show sm (tI f a b) (b + 1 + m) + tI f a b (b + 1 + m) + _ = sm _ (b + 1 + m) + (tri f a b (b + 1 + m)).toNat
      have e : tI f a b (b + 1 + m) = (tri f a b (b + 1 + m)).toNat := by simp [tI, hab, show b < b + 1 + m by omega]
      omega
  have k := key (n - (b + 1)) (by omega)
  rw [show b + 1 + (n - (b + 1)) = n by omega] at k
  omega
theorem tl2_len (f : Nat → Nat) {n a : Nat} (m : Nat) : ∀ b, a < b → b + m = n → sm (fun i => sm (tI f a i) n) n = sm (fun i => sm (tI f a i) n) b + (tl2 f n a m b).length := by
  induction m with
  | zero => intro b _ hb; have e : b = n := by omega
            subst e; rfl
  | succ m ih =>
    intro b hab hb
    rw [ih (b + 1) (by omega) (by omega), tl2, List.length_append]
    show sm _ b + sm (tI f a b) n + _ = _
    rw [tI_in f hab (by omega)]
    omega
theorem tl1_len (f : Nat → Nat) {n : Nat} (m : Nat) : ∀ a, a + m = n → sm (fun i => sm (fun b => sm (tI f i b) n) n) n = sm (fun i => sm (fun b => sm (tI f i b) n) n) a + (tl1 f n m a).length := by
  induction m with
  | zero => intro a ha; have e : a = n := by omega
            subst e; rfl
  | succ m ih =>
    intro a ha
    rw [ih (a + 1) (by omega), tl1, List.length_append]
    show sm _ a + sm (fun b => sm (tI f a b) n) n + _ = _
    have h := tl2_len f (n := n) (a := a) (n - (a + 1)) (a + 1) (by omega) (by omega)
    have h0 : sm (fun i => sm (tI f a i) n) (a + 1) = 0 := sm_zero' (fun i hi => sm_zero' (fun c _ => by simp [tI, show ¬ a < i by omega]))
    rw [h0] at h
    omega
theorem tls_len (n : Nat) (f : Nat → Nat) : (tls n f).length = tc n f := by
  have h := tl1_len f (n := n) n 0 (by omega)
  show _ = sm _ n
  rw [h]
  show _ = 0 + _
  rw [Nat.zero_add]
  rfl
theorem wk_m1 (l : I3) (L : List (Nat × Nat × Nat)) (c : Nat) (h : c + L.length < 2 ^ 31) : (wk (-1) c l L).1 = c + L.length := by
  induction L generalizing c l with
  | nil => rfl
  | cons q t ih =>
    have hne : ¬ nI (c + 1) = -1 := fun z => by
      have h2 := nI_pos' (n := c + 1) (by simp at h; omega)
      rw [z] at h2
      exact absurd h2 (by decide)
    rw [wk, if_neg hne, ih (q3 q) (c + 1) (by simp at h; omega)]
    simp
    omega
theorem wk_at (l : I3) (L : List (Nat × Nat × Nat)) (c i : Nat) (hi : c + i < 2 ^ 31 - 1) (hL : c + L.length < 2 ^ 31) : (∀ q, L[i]? = some q → wk (nI (c + i + 1)) c l L = (c + i + 1, q3 q)) ∧ (L[i]? = none → (wk (nI (c + i + 1)) c l L).1 = c + L.length) := by
  induction L generalizing c l i with
  | nil => exact ⟨fun q h => by simp at h, fun _ => rfl⟩
  | cons q t ih =>
    simp at hL
    rw [wk]
    cases i with
    | zero =>
      refine ⟨fun q' h => ?_, fun h => by simp at h⟩
      simp at h
      rw [if_pos rfl, h]
    | succ i =>
      have hne : ¬ nI (c + 1) = nI (c + (i + 1) + 1) := fun z => by
        have := (nI_eq (by omega) (by omega)).mp z
        omega
      rw [if_neg hne]
      obtain ⟨h1, h2⟩ := ih (q3 q) (c + 1) i (by omega) (by omega)
      rw [show c + 1 + i + 1 = c + (i + 1) + 1 by omega] at h1 h2
      refine ⟨fun q' h => h1 q' (by simpa using h), fun h => ?_⟩
      rw [h2 (by simpa using h)]
      simp
      omega
theorem fnd_at {p : Int32} (L : List (Nat × Nat × Nat)) (c i : Nat) (hi : c + i < 2 ^ 31) (hL : c + L.length < 2 ^ 31) : (∀ q, L[i]? = some q → fnd (nI (c + i)) p c L = crn (nI q.1) (nI q.2.1) (nI q.2.2) p) ∧ (L[i]? = none → fnd (nI (c + i)) p c L = -1) := by
  induction L generalizing c i with
  | nil => exact ⟨fun q h => by simp at h, fun _ => rfl⟩
  | cons q t ih =>
    simp at hL
    rw [fnd]
    cases i with
    | zero =>
      refine ⟨fun q' h => ?_, fun h => by simp at h⟩
      simp at h
      rw [Nat.add_zero, if_pos rfl, h]
    | succ i =>
      have hne : ¬ nI c = nI (c + (i + 1)) := fun z => by
        have := (nI_eq (by omega) (by omega)).mp z
        omega
      rw [if_neg hne]
      obtain ⟨h1, h2⟩ := ih (c + 1) i (by omega) (by omega)
      rw [show c + 1 + i = c + (i + 1) by omega] at h1 h2
      exact ⟨fun q' h => h1 q' (by simpa using h), fun h => h2 (by simpa using h)⟩
theorem fnd_neg {p x : Int32} (hx : x < 0) (L : List (Nat × Nat × Nat)) (c : Nat) (hL : c + L.length < 2 ^ 31) : fnd x p c L = -1 := by
  induction L generalizing c with
  | nil => rfl
  | cons q t ih =>
    simp at hL
    have hne : ¬ nI c = x := fun z => by
      have h2 := nI_pos (n := c) (by omega)
      rw [z] at h2
      exact h2 hx
    rw [fnd, if_neg hne]
    exact ih (c + 1) (by omega)
def tM_triangles : mT := fun as h k => ∃ n f j z, h = mkM (nI n) j z ∧ (∀ v, v < n → j v = nI (f v)) ∧ Gr n f ∧ as = [.inr 0] ∧ ∀ l, k (some (nI (tc n f))) (mkM (nI n) j (zF z l))
set_option maxHeartbeats 4000000 in
set_option maxRecDepth 20000 in
theorem c_M_triangles : m_Con cls 1 TB y_M_triangles b_M_triangles 1 (some .int) 0 2 tM_triangles := by
  refine m_con (code := k_M_triangles) (fld := f_M) (fpt := p_M) (kon := []) (call := [(67, false, 2, tM_walk)]) (C := R_M) (T := T_M) (N := 13) (by decide) (Or.inl ⟨rfl, rfl⟩) ok_M_triangles tb_M (fun l D cA ad => m_calls ?_) ?_ ?_
  · exact List.forall_mem_cons.mpr ⟨o_M67 ⟨Nat.le_of_ble_eq_true rfl, Nat.le_of_ble_eq_true rfl⟩, fun _ h => absurd h List.not_mem_nil⟩
  · rintro as h k ⟨n, f, j, z, rfl, hj, hG, rfl, hk⟩
    exact Nat.le_of_ble_eq_true rfl
  · rintro as h k ⟨n, f, j, z, rfl, hj, hG, rfl, hk⟩ V hV
    have h1 := tc_le hG
    refine hV 60 0 _ _ _ ⟨n, f, j, z, -1, rfl, hj, hG, rfl, ?_⟩
    rw [wk_m1 _ _ _ (by rw [tls_len]; omega), tls_len, Nat.zero_add]
    exact hk _
def tM_triangle : mT := fun as h k => ∃ n f j z x p, h = mkM (nI n) j z ∧ (∀ v, v < n → j v = nI (f v)) ∧ Gr n f ∧ as = [.inr 0, .inl x, .inl p] ∧ ∀ l, k (some (fnd x p 0 (tls n f))) (mkM (nI n) j (zF z l))
set_option maxHeartbeats 4000000 in
set_option maxRecDepth 20000 in
theorem c_M_triangle : m_Con cls 1 TB y_M_triangle b_M_triangle 3 (some .int) 0 2 tM_triangle := by
  refine m_con (code := k_M_triangle) (fld := f_M) (fpt := p_M) (kon := []) (call := [(67, false, 2, tM_walk)]) (C := R_M) (T := T_M) (N := 13) (by decide) (Or.inl ⟨rfl, rfl⟩) ok_M_triangle tb_M (fun l D cA ad => m_calls ?_) ?_ ?_
  · exact List.forall_mem_cons.mpr ⟨o_M67 ⟨Nat.le_of_ble_eq_true rfl, Nat.le_of_ble_eq_true rfl⟩, fun _ h => absurd h List.not_mem_nil⟩
  · rintro as h k ⟨n, f, j, z, x, p, rfl, hj, hG, rfl, hk⟩
    exact Nat.le_of_ble_eq_true rfl
  · rintro as h k ⟨n, f, j, z, x, p, rfl, hj, hG, rfl, hk⟩ V hV
    have h1 := tc_le hG
    have hl := tls_len n f
    refine hV 60 0 _ _ _ (And.intro (fun c => ?_) (fun c => And.intro (fun c2 => ?_) (fun c2 => ?_)))
    · have c : x < 0 := c
      rw [fnd_neg c _ _ (by omega)] at hk
      exact hk (z3 z)
    · have c : ¬ x < 0 := c
      have c2 : (1000 : Int32) < x := c2
      obtain ⟨I, hI, rfl⟩ := nI_of c
      have hI2 : 1000 < I := (nI_ltI (a := 1000) (by omega) hI).mp c2
      have h2 := (fnd_at (p := p) (tls n f) 0 I (by omega) (by omega)).2 (List.getElem?_eq_none (by omega))
      rw [Nat.zero_add] at h2
      rw [h2] at hk
      exact hk (z3 z)
    · have c : ¬ x < 0 := c
      have c2 : ¬ (1000 : Int32) < x := c2
      obtain ⟨I, hI, rfl⟩ := nI_of c
      have hI2 : I ≤ 1000 := Nat.le_of_not_lt (fun z => c2 ((nI_ltI (a := 1000) (by omega) hI).mpr z))
      refine nm_r (nI_1 I) ⟨n, f, j, z, _, rfl, hj, hG, rfl, ?_⟩
      obtain ⟨w1, w2⟩ := wk_at (z3 z) (tls n f) 0 I (by omega) (by omega)
      obtain ⟨f1, f2⟩ := fnd_at (p := p) (tls n f) 0 I (by omega) (by omega)
      rw [Nat.zero_add] at w1 w2 f1 f2
      cases hq : (tls n f)[I]? with
      | none =>
        have hlen : (tls n f).length ≤ I := List.getElem?_eq_none_iff.mp hq
        rw [f2 hq] at hk
        have e := w2 hq
        generalize wk (nI (I + 1)) 0 (z3 z) (tls n f) = W at e
        rw [e]
        refine br_gt (a := 0 + (tls n f).length) (b := I) (by omega) (by omega) (fun c => absurd c (by omega)) (fun _ => hk W.2)
      | some q =>
        rw [f1 q hq] at hk
        rw [w1 q hq]
        refine br_gt (a := I + 1) (b := I) (by omega) (by omega) (fun _ => And.intro (fun c3 => And.intro (fun c4 => And.intro (fun c5 => ?_) (fun c5 => ?_)) (fun c4 => ?_)) (fun c3 => ?_)) (fun c => absurd c (by omega))
        · have c3 : ¬ p = 0 := c3
          have c4 : ¬ p = 1 := c4
          have c5 : ¬ p = 2 := c5
          rw [crn, if_neg c3, if_neg c4, if_neg c5] at hk
          exact hk (q3 q)
        · have c3 : ¬ p = 0 := c3
          have c4 : ¬ p = 1 := c4
          have c5 : p = 2 := c5
          rw [crn, if_neg c3, if_neg c4, if_pos c5] at hk
          exact hk (q3 q)
        · have c3 : ¬ p = 0 := c3
          have c4 : p = 1 := c4
          rw [crn, if_neg c3, if_pos c4] at hk
          exact hk (q3 q)
        · have c3 : p = 0 := c3
          rw [crn, if_pos c3] at hk
          exact hk (q3 q)
def tM_isPart : mT := fun as h k => ∃ x, as = [.inl x] ∧ k (some (b2i (isP x))) h
set_option maxHeartbeats 4000000 in
set_option maxRecDepth 20000 in
theorem c_M_isPart : m_Con cls 1 TB y_M_isPart b_M_isPart 1 (some .boolean) 1 0 tM_isPart := by
  refine m_con (code := k_M_isPart) (fld := f_M) (fpt := p_M) (kon := []) (call := []) (C := R_M) (T := T_M) (N := 13) (by decide) (Or.inr (Or.inl ⟨rfl, rfl⟩)) ok_M_isPart tb_M (fun l D cA ad => m_calls ?_) ?_ ?_
  · exact fun _ h => absurd h List.not_mem_nil
  · rintro as h k ⟨x, rfl, hk⟩
    exact Nat.le_of_ble_eq_true rfl
  · rintro as h k ⟨x, rfl, hk⟩ V hV
    refine hV 60 0 _ _ _ (And.intro (fun c => And.intro (Or.inr rfl) ?_) (fun c => And.intro (fun c2 => And.intro (Or.inl rfl) ?_) (fun c2 => And.intro (Or.inr rfl) ?_)))
    · have c : x = 0 := c
      have e : isP x = true := by simp [isP, c]
      rw [e] at hk; exact hk
    · have c : ¬ x = 0 := c
      have c2 : ¬ x = 1 := c2
      have e : isP x = false := by simp [isP, c, c2]
      rw [e] at hk; exact hk
    · have c2 : x = 1 := c2
      have e : isP x = true := by simp [isP, c2]
      rw [e] at hk; exact hk
theorem o_M77 {D : va_G} {cA : ClassId} {ad : Nat → Nat} {l : Launch} {R : Room} (hR : 0 + 1 ≤ R.frames ∧ 32 * (0 + 1) ≤ R.locals) : m_OK D cls cA 1 ad TB l "DegreeCoresModel" R 77 true 1 tM_isPart :=
  m_okS c_M_isPart (by decide) tb_good w_M77 ⟨by decide +kernel, by decide +kernel, by decide +kernel⟩ (by decide) hR
def tM_part : mT := fun as h k => ∃ av A B p, as = [.inl av, .inl (nI B), .inl p] ∧ (if 0 ≤ av then av else 0 - av) = nI A ∧ A < 2 ^ 25 ∧ 0 < B ∧ B < 2 ^ 25 ∧ k (some (shr av A B p)) h
def k2_M_part : List (Nat × mE) := [(0, .iload_n 0, 1, 0, 0, false), (1, .ifCond .ge 8, 4, 9, 0, false), (4, .iload_n 0, 5, 0, 0, false), (5, .ineg, 6, 0, 0, false), (6, .goto 4, 9, 10, 0, false), (9, .iload_n 0, 10, 0, 0, false), (10, .istore_n 3, 11, 0, 0, false), (11, .iload_n 1, 12, 0, 0, true), (12, .ifCond .ge 8, 15, 20, 0, false), (15, .iload_n 1, 16, 0, 0, false), (16, .ineg, 17, 0, 0, false), (17, .goto 4, 20, 21, 0, false), (20, .iload_n 1, 21, 0, 0, false), (21, .istore 4, 23, 0, 0, false), (23, .iload 4, 25, 0, 0, true), (25, .ifCond .eq 19, 28, 44, 0, false), (28, .iload_n 3, 29, 0, 0, false), (29, .iload 4, 31, 0, 0, false), (31, .irem, 32, 0, 0, false), (32, .istore 5, 34, 0, 0, false), (34, .iload 4, 36, 0, 0, false), (36, .istore_n 3, 37, 0, 0, false), (37, .iload 5, 39, 0, 0, false), (39, .istore 4, 41, 0, 0, false), (41, .goto (-18), 44, 23, 0, false), (44, .iload_n 1, 45, 0, 0, false), (45, .ifCond .ge 7, 48, 52, 0, false), (48, .iconst (-1), 49, 0, (-1), false), (49, .goto 4, 52, 53, 0, false), (52, .iconst 1, 53, 0, 1, false), (53, .istore 5, 55, 0, 0, false), (55, .iload 5, 57, 0, 0, false), (57, .iload_n 2, 58, 0, 0, false), (58, .ifCond .ne 7, 61, 65, 0, false), (61, .iload_n 0, 62, 0, 0, false), (62, .goto 4, 65, 66, 0, false), (65, .iload_n 1, 66, 0, 0, false), (66, .imul, 67, 0, 0, false), (67, .iload_n 3, 68, 0, 0, false), (68, .idiv, 69, 0, 0, false), (69, .ireturn, 70, 0, 0, false)]
theorem ok2_M_part : k2_M_part.all (m_ok b_M_part 6) = true := by decide +kernel
set_option maxHeartbeats 4000000 in
set_option maxRecDepth 20000 in
theorem c_M_part : m_Con cls 1 TB y_M_part b_M_part 6 (some .int) 0 0 tM_part := by
  refine m_con (code := k2_M_part) (fld := f_M) (fpt := p_M) (kon := []) (call := []) (C := R_M) (T := T_M) (N := 13) (by decide) (Or.inl ⟨rfl, rfl⟩) ok2_M_part tb_M (fun l D cA ad => m_calls ?_) ?_ ?_
  · exact fun _ h => absurd h List.not_mem_nil
  · rintro as h k ⟨av, A, B, p, rfl, hA, hA2, hB0, hB, hk⟩
    exact Nat.le_of_ble_eq_true rfl
  · rintro as h k ⟨av, A, B, p, rfl, hA, hA2, hB0, hB, hk⟩ V hV
    have hg : 0 < Nat.gcd A B := Nat.gcd_pos_of_pos_right _ hB0
    have hgl : Nat.gcd A B ≤ B := Nat.gcd_le_right _ hB0
    have loop : ∀ m x y (z5 : Option mV), x < 2 ^ 25 → y < 2 ^ 25 → eu m (x, y) = (Nat.gcd A B, 0) → V (23, [some (.inl av), some (.inl (nI B)), some (.inl p), some (.inl (nI x)), some (.inl (nI y)), z5], [], h) := by
      have fin : ∀ (z5 : Option mV), V (23, [some (.inl av), some (.inl (nI B)), some (.inl p), some (.inl (nI (Nat.gcd A B))), some (.inl (nI 0)), z5], [], h) := by
        intro z5
        rw [shr, if_neg (by omega)] at hk
        refine hV 60 23 _ _ _ (br_e (a := 0) (b := 0) (by omega) (by omega) (fun _ => And.intro (fun _ => And.intro (fun c3 => nm_r (Int32.one_mul _) (And.intro (nI_ne0 hg (by omega)) (nm_e ?_))) (fun c3 => nm_r (Int32.one_mul _) (And.intro (nI_ne0 hg (by omega)) (nm_e ?_)))) (fun c => absurd (nI_pos' (by omega)) c)) (fun c => absurd rfl c))
        · have c3 : ¬ p = 0 := c3
          rw [if_neg c3] at hk; exact hk
        · have c3 : p = 0 := c3
          rw [if_pos c3] at hk; exact hk
      intro m
      induction m with
      | zero =>
        intro x y z5 hx hy he
        rw [eu] at he
        have e1 : x = Nat.gcd A B := congrArg Prod.fst he
        have e2 : y = 0 := congrArg Prod.snd he
        rw [e1, e2]
        exact fin z5
      | succ m ih =>
        intro x y z5 hx hy he
        by_cases c : y = 0
        · rw [eu, if_pos c] at he
          have e1 : x = Nat.gcd A B := congrArg Prod.fst he
          rw [e1, c]
          exact fin z5
        · rw [eu, if_neg c] at he
          have hm : x % y < y := Nat.mod_lt _ (by omega)
          refine hV 60 23 _ _ _ (br_e (a := y) (b := 0) (by omega) (by omega) (fun c2 => absurd c2 c) (fun _ => And.intro (nI_ne0 (by omega) (by omega)) (nm_r (pk_rem (by omega) (by omega) (by omega)) ?_)))
          exact ih y (x % y) _ hy (by omega) he
    have start : V (11, [some (.inl av), some (.inl (nI B)), some (.inl p), some (.inl (nI A)), none, none], [], h) := by
      refine hV 60 11 _ _ _ (And.intro (fun _ => ?_) (fun c => absurd (nI_pos' (by omega)) c))
      exact loop 50 A B none hA2 hB (eu_end 25 50 A B hB (by omega))
    refine hV 60 0 _ _ _ (And.intro (fun c => ?_) (fun c => nm_r (e' := nI A) ?_ start))
    · have c : 0 ≤ av := c
      rw [if_pos c] at hA
      rw [← hA] at start
      exact start
    · have c : ¬ 0 ≤ av := c
      rw [if_neg c] at hA
      rw [← hA, Int32.zero_sub]
theorem o_M80 {D : va_G} {cA : ClassId} {ad : Nat → Nat} {l : Launch} {R : Room} (hR : 0 + 1 ≤ R.frames ∧ 32 * (0 + 1) ≤ R.locals) : m_OK D cls cA 1 ad TB l "DegreeCoresModel" R 80 true 3 tM_part :=
  m_okS c_M_part (by decide) tb_good w_M80 ⟨by decide +kernel, by decide +kernel, by decide +kernel⟩ (by decide) hR
def tM_cluster : mT := fun as h k => ∃ n f x p, hM h n f ∧ as = [.inr 0, .inl x, .inl p] ∧ k (some (aClu n f x p)) h
theorem prs_0 : ∀ c, c < 2 → prs c = 0 := by decide
theorem prs_p : ∀ c, c ≤ 12 → 2 ≤ c → 0 < prs c := by decide
set_option maxHeartbeats 4000000 in
set_option maxRecDepth 20000 in
theorem c_M_cluster : m_Con cls 1 TB y_M_cluster b_M_cluster 6 (some .int) 0 1 tM_cluster := by
  refine m_con (code := k_M_cluster) (fld := f_M) (fpt := p_M) (kon := []) (call := [(36, false, 2, tM_isNode), (77, true, 1, tM_isPart), (44, true, 1, tM_count), (55, false, 3, tM_areJoined), (80, true, 3, tM_part)]) (C := R_M) (T := T_M) (N := 13) (by decide) (Or.inl ⟨rfl, rfl⟩) ok_M_cluster tb_M (fun l D cA ad => m_calls ?_) ?_ ?_
  · exact List.forall_mem_cons.mpr ⟨o_M36 ⟨Nat.le_of_ble_eq_true rfl, Nat.le_of_ble_eq_true rfl⟩, List.forall_mem_cons.mpr ⟨o_M77 ⟨Nat.le_of_ble_eq_true rfl, Nat.le_of_ble_eq_true rfl⟩, List.forall_mem_cons.mpr ⟨o_M44 ⟨Nat.le_of_ble_eq_true rfl, Nat.le_of_ble_eq_true rfl⟩, List.forall_mem_cons.mpr ⟨o_M55 ⟨Nat.le_of_ble_eq_true rfl, Nat.le_of_ble_eq_true rfl⟩, List.forall_mem_cons.mpr ⟨o_M80 ⟨Nat.le_of_ble_eq_true rfl, Nat.le_of_ble_eq_true rfl⟩, fun _ h => absurd h List.not_mem_nil⟩⟩⟩⟩⟩
  · rintro as h k ⟨n, f, x, p, ⟨j, z, rfl, hj, hG⟩, rfl, hk⟩
    exact Nat.le_of_ble_eq_true rfl
  · rintro as h k ⟨n, f, x, p, ⟨j, z, rfl, hj, hG⟩, rfl, hk⟩ V hV
    have hh : hM (mkM (nI n) j z) n f := ⟨j, z, rfl, hj, hG⟩
    have hn := hG.1
    refine hV 60 0 _ _ _ ⟨n, f, x, hh, rfl, br_ne (fun c => ⟨p, rfl, br_ne (fun c2 => ?_) (fun c2 => ?_)⟩) (fun c => ?_)⟩
    · obtain ⟨v, hv, rfl⟩ := isN_t hn c
      rw [aClu, c, c2, clamp12 hv hn] at hk
      have h1 := e1_72 hG (f v)
      have hp12 : pop (f v) ≤ 12 := by have := pop_le (hG.2.1 v hv) hn; omega
      have h2 := prs_66 (pop (f v)) hp12
      have loop : ∀ m u acc, u + m = n → acc = e2 u f (f v) → V (36, [some (.inr 0), some (.inl (nI v)), some (.inl p), some (.inl (nI (pop (f v)))), some (.inl (nI acc)), some (.inl (nI u))], [], mkM (nI n) j z) := by
        intro m
        induction m with
        | zero =>
          intro u acc hu hacc
          have e : u = n := by omega
          subst e
          have hb := e2_lt hG (f v) u (Nat.le_refl _)
          refine hV 60 36 _ _ _ (br_ge (a := u) (b := u) (by omega) (by omega) (fun _ => br_ge (a := pop (f v)) (b := 2) (by omega) (by omega) (fun c3 => And.intro (by decide) (nm_r (pk_div (d := 2) (by omega) (by decide) (by decide)) (nm_e (nm_e (And.intro (by decide) (nm_r (prs_I _ hp12) ?_)))))) (fun c3 => ?_)) (fun c => absurd c (by omega)))
          · rw [hacc, e1_half hG]
            have := prs_p _ hp12 c3
            exact ⟨_, _, _, p, rfl, abs_n (by omega), by omega, by omega, by omega, hk⟩
          · rw [prs_0 _ c3] at hk
            exact hk
        | succ m ih =>
          intro u acc hu hacc
          refine hV 60 36 _ _ _ (br_ge (a := u) (b := n) (by omega) (by omega) (fun c => absurd c (by omega)) (fun _ => ⟨n, f, v, u, hh, rfl, hv, by omega, br_eq (fun c3 => nm_r (nI_add _ 0) (nm_r (nI_1 u) ?_)) (fun c3 => And.intro (vp_in_nI (by omega) (by omega)) (nm_r (by rw [clamp12 (v := u) (n := n) (by omega) hn, hj u (by omega)]) (And.intro (vp_in_nI (by omega) (by omega)) (nm_r (by rw [clamp12 hv hn, hj v hv]) (nm_r (nx_and _ _) ⟨_, rfl, Nat.lt_of_le_of_lt Nat.and_le_left (g31 hG (by omega)), nm_r (nI_add _ _) (nm_r (nI_1 u) ?_)⟩)))))⟩))
          · exact ih (u + 1) (acc + 0) (by omega) (by rw [hacc]; show _ = sm _ u + _; simp only [c3]; rfl)
          · exact ih (u + 1) _ (by omega) (by rw [hacc]; show _ = sm _ u + _; simp only [c3]; rfl)
      exact And.intro (vp_in_nI (by omega) (by omega)) (nm_r (by rw [clamp12 hv hn, hj v hv]) ⟨_, rfl, g31 hG hv, loop n 0 0 (by omega) rfl⟩)
    · rw [aClu, c, c2] at hk; exact hk
    · rw [aClu, c] at hk; exact hk
def tM_closed : mT := fun as h k => ∃ n f j z p, h = mkM (nI n) j z ∧ (∀ v, v < n → j v = nI (f v)) ∧ Gr n f ∧ as = [.inr 0, .inl p] ∧ ∀ l, k (some (aClo n f p)) (mkM (nI n) j (zF z l))
set_option maxHeartbeats 4000000 in
set_option maxRecDepth 20000 in
theorem c_M_closed : m_Con cls 1 TB y_M_closed b_M_closed 5 (some .int) 0 2 tM_closed := by
  refine m_con (code := k_M_closed) (fld := f_M) (fpt := p_M) (kon := []) (call := [(77, true, 1, tM_isPart), (44, true, 1, tM_count), (67, false, 2, tM_walk), (80, true, 3, tM_part)]) (C := R_M) (T := T_M) (N := 13) (by decide) (Or.inl ⟨rfl, rfl⟩) ok_M_closed tb_M (fun l D cA ad => m_calls ?_) ?_ ?_
  · exact List.forall_mem_cons.mpr ⟨o_M77 ⟨Nat.le_of_ble_eq_true rfl, Nat.le_of_ble_eq_true rfl⟩, List.forall_mem_cons.mpr ⟨o_M44 ⟨Nat.le_of_ble_eq_true rfl, Nat.le_of_ble_eq_true rfl⟩, List.forall_mem_cons.mpr ⟨o_M67 ⟨Nat.le_of_ble_eq_true rfl, Nat.le_of_ble_eq_true rfl⟩, List.forall_mem_cons.mpr ⟨o_M80 ⟨Nat.le_of_ble_eq_true rfl, Nat.le_of_ble_eq_true rfl⟩, fun _ h => absurd h List.not_mem_nil⟩⟩⟩⟩
  · rintro as h k ⟨n, f, j, z, p, rfl, hj, hG, rfl, hk⟩
    exact Nat.le_of_ble_eq_true rfl
  · rintro as h k ⟨n, f, j, z, p, rfl, hj, hG, rfl, hk⟩ V hV
    have hn := hG.1
    refine hV 60 0 _ _ _ ⟨p, rfl, br_ne (fun c => ?_) (fun c => ?_)⟩
    · rw [aClo, c] at hk
      have loop : ∀ m v acc (y : Option mV), v + m = n → acc = pth v f → V (14, [some (.inr 0), some (.inl p), some (.inl (nI acc)), some (.inl (nI v)), y], [], mkM (nI n) j z) := by
        intro m
        induction m with
        | zero =>
          intro v acc y hv hacc
          have e : v = n := by omega
          subst e
          have h1 := tc_le hG
          have h2 := pth_le hG (Nat.le_refl v)
          refine hV 60 14 _ _ _ (br_ge (a := v) (b := v) (by omega) (by omega) (fun _ => br_n (a := acc) (b := 0) (by omega) (by omega) (fun c2 => ⟨v, f, j, z, -1, rfl, hj, hG, rfl, ?_⟩) (fun c2 => ?_)) (fun c => absurd c (by omega)))
          · rw [wk_m1 _ _ _ (by rw [tls_len]; omega), tls_len, Nat.zero_add]
            refine nm_r (pk_mul 3 (tc v f)) ⟨_, _, acc, p, rfl, abs_n (by omega), by omega, by omega, by omega, ?_⟩
            rw [hacc]
            exact hk _
          · have e : pth v f = 0 := by omega
            rw [e] at hk
            exact hk (z3 z)
        | succ m ih =>
          intro v acc y hv hacc
          have hp12 : pop (f v) ≤ 12 := by have := pop_le (hG.2.1 v (by omega)) hn; omega
          refine hV 60 14 _ _ _ (br_ge (a := v) (b := n) (by omega) (by omega) (fun c => absurd c (by omega)) (fun _ => And.intro (vp_in_nI (by omega) (by omega)) (nm_r (by rw [clamp12 (v := v) (n := n) (by omega) hn, hj v (by omega)]) ⟨_, rfl, g31 hG (by omega), nm_e (nm_e (And.intro (by decide) (nm_r (prs_I _ hp12) (nm_r (nI_add _ _) (nm_r (nI_1 v) ?_)))))⟩)))
          exact ih (v + 1) _ _ (by omega) (by rw [hacc]; rfl)
      exact loop n 0 0 none (by omega) rfl
    · rw [aClo, c] at hk
      exact hk (z3 z)
end
section
/-! the reference: trusses -/
def zK (z : mZ) (kp : Nat → Int32) : mZ := (z.1, z.2.1, z.2.2.1, z.2.2.2.1, z.2.2.2.2.1, z.2.2.2.2.2.1, z.2.2.2.2.2.2.1, z.2.2.2.2.2.2.2.1, kp, z.2.2.2.2.2.2.2.2.2)
def tM_trussOf : mT := fun as h k => ∃ n f j z s, h = mkM (nI n) j z ∧ (∀ v, v < n → j v = nI (f v)) ∧ Gr n f ∧ as = [.inr 0, .inl (nI (s + 2))] ∧ s < 100 ∧ ∀ kp τ, (∀ v, v < n → kp v = nI (τ v)) → isTr n f s τ → k none (mkM (nI n) j (zK z kp))
set_option maxHeartbeats 4000000 in
set_option maxRecDepth 20000 in
theorem c_M_trussOf : m_Con cls 1 TB y_M_trussOf b_M_trussOf 5 (none) 2 1 tM_trussOf := by
  refine m_con (code := k_M_trussOf) (fld := f_M) (fpt := p_M) (kon := []) (call := [(44, true, 1, tM_count)]) (C := R_M) (T := T_M) (N := 13) (by decide) (Or.inr (Or.inr ⟨rfl, rfl⟩)) ok_M_trussOf tb_M (fun l D cA ad => m_calls ?_) ?_ ?_
  · exact List.forall_mem_cons.mpr ⟨o_M44 ⟨Nat.le_of_ble_eq_true rfl, Nat.le_of_ble_eq_true rfl⟩, fun _ h => absurd h List.not_mem_nil⟩
  · rintro as h k ⟨n, f, j, z, s, rfl, hj, hG, rfl, hs, hk⟩
    exact Nat.le_of_ble_eq_true rfl
  · rintro as h k ⟨n, f, j, z, s, rfl, hj, hG, rfl, hs, hk⟩ V hV
    have hn := hG.1
    have fl : ∀ (τ : Nat → Nat), Fam n f τ → ∀ v, v < n → τ v < 4096 := fun τ hF v hv => Nat.lt_of_lt_of_le (fam_lt hG hF hv) (p12 hn)
    have hs2 : nI (s + 2) - 2 = nI s := by
      have := pk_sub (a := s + 2) (b := 2) (by omega)
      exact this
    have fin : ∀ kp τ (y3 y4 : Option mV), (∀ v, v < n → kp v = nI (τ v)) → isTr n f s τ → V (30, [some (.inr 0), some (.inl (nI (s + 2))), some (.inl (b2i false)), y3, y4], [], mkM (nI n) j (zK z kp)) := by
      intro kp τ y3 y4 h1 h2
      exact hV 80 30 _ _ _ (br_eq (b := false) (fun _ => hk kp τ h1 h2) (fun c => by cases c))
    have outer : ∀ p kp τ (y3 y4 : Option mV), mt n τ < p → (∀ v, v < n → kp v = nI (τ v)) → topT n f s τ → V (30, [some (.inr 0), some (.inl (nI (s + 2))), some (.inl (b2i true)), y3, y4], [], mkM (nI n) j (zK z kp)) := by
      intro p
      induction p with
      | zero => intro kp τ y3 y4 h; omega
      | succ p ih =>
        intro kp0 τ0 y3 y4 hp0 hkp0 htop0
        have lb : ∀ m a b kp τ dr, a < n → b + m = n → (∀ v, v < n → kp v = nI (τ v)) → topT n f s τ →
            (dr = false → mt n τ ≤ p ∧ ∀ a' b', b' < n → (a' < a ∨ (a' = a ∧ b' < b)) → (τ a').testBit b' = true → s ≤ pop (τ a' &&& τ b')) → (dr = true → mt n τ < p) →
            (∀ kp τ dr (y4 : Option mV), (∀ v, v < n → kp v = nI (τ v)) → topT n f s τ → (dr = false → mt n τ ≤ p ∧ ∀ a' b', b' < n → a' < a + 1 → (τ a').testBit b' = true → s ≤ pop (τ a' &&& τ b')) → (dr = true → mt n τ < p) → V (38, [some (.inr 0), some (.inl (nI (s + 2))), some (.inl (b2i dr)), some (.inl (nI (a + 1))), y4], [], mkM (nI n) j (zK z kp))) →
            V (49, [some (.inr 0), some (.inl (nI (s + 2))), some (.inl (b2i dr)), some (.inl (nI a)), some (.inl (nI b))], [], mkM (nI n) j (zK z kp)) := by
          intro m
          induction m with
          | zero =>
            intro a b kp τ dr ha hb hkp htop h1 h2 hcont
            refine hV 80 49 _ _ _ (br_ge (a := b) (b := n) (by omega) (by omega) (fun _ => nm_r (nI_1 a) (hcont kp τ dr _ hkp htop (fun e => ⟨(h1 e).1, fun a' b' x2 x3 => (h1 e).2 a' b' x2 (by omega)⟩) h2)) (fun c => absurd c (by omega)))
          | succ m ih2 =>
            intro a b kp τ dr ha hb hkp htop h1 h2 hcont
            have ga := fl τ htop.1 a ha
            have gb := fl τ htop.1 b (by omega)
            have ea := clamp12 ha hn
            have eb := clamp12 (v := b) (n := n) (by omega) hn
            refine hV 80 49 _ _ _ (br_ge (a := b) (b := n) (by omega) (by omega) (fun c => absurd c (by omega)) (fun _ => And.intro (vp_in_nI (by omega) (by omega)) (nm_r (e' := nI (τ a)) (by rw [ea]; exact hkp a ha) (nm_e (nm_r (nx_bit (by omega) (by omega)) (br_bn (fun c => nm_r (nI_1 b) ?_) (fun c => ?_)))))))
            · exact ih2 a (b + 1) kp τ dr ha (by omega) hkp htop (fun e => ⟨(h1 e).1, fun a' b' x2 x3 hz => by
                by_cases hq : a' = a ∧ b' = b
                · rw [hq.1, hq.2, c] at hz; cases hz
                · exact (h1 e).2 a' b' x2 (by omega) hz⟩) h2 hcont
            · have hlt : τ a &&& τ b < 4096 := Nat.lt_of_le_of_lt Nat.and_le_left ga
              have hp12 : pop (τ a &&& τ b) ≤ 12 := pop_le (n := 12) hlt (by omega)
              refine And.intro (vp_in_nI (by omega) (by omega)) (nm_r (e' := nI (τ a)) (by rw [ea]; exact hkp a ha) (And.intro (vp_in_nI (by omega) (by omega)) (nm_r (e' := nI (τ b)) (by rw [eb]; exact hkp b (by omega)) (nm_r (nx_and _ _) ⟨_, rfl, hlt, nm_r hs2 (br_ge (a := pop (τ a &&& τ b)) (b := s) (by omega) (by omega) (fun c2 => nm_r (nI_1 b) ?_) (fun c2 => ?_))⟩))))
              · exact ih2 a (b + 1) kp τ dr ha (by omega) hkp htop (fun e => ⟨(h1 e).1, fun a' b' x2 x3 hz => by
                  by_cases hq : a' = a ∧ b' = b
                  · rw [hq.1, hq.2]; exact c2
                  · exact (h1 e).2 a' b' x2 (by omega) hz⟩) h2 hcont
              · have hne : a ≠ b := fun e => by
                  rw [← e] at c
                  have := htop.1.1 a ha a c
                  rw [hG.2.2.1 a ha] at this
                  cases this
                refine And.intro (vp_in_nI (by omega) (by omega)) (nm_r (e' := nI (τ a)) (by rw [ea]; exact hkp a ha) (nm_r (nx_shl b (by omega)) (nm_e (nm_r (nx_sd _ _) (And.intro (vp_in_nI (by omega) (by omega)) ?_)))))
                refine And.intro (vp_in_nI (by omega) (by omega)) (nm_r (e' := nI (τ b)) (by rw [ea, eb]; exact (upd_n (fun z => hne z.symm)).trans (hkp b (by omega))) (nm_r (nx_shl a (by omega)) (nm_e (nm_r (nx_sd _ _) (And.intro (vp_in_nI (by omega) (by omega)) (nm_r (nI_1 b) ?_))))))
                have hmt := mt_rm hG htop.1 ha (by omega : b < n) hne c
                have hle : mt n τ ≤ p := by
                  cases dr with
                  | false => exact (h1 rfl).1
                  | true => have := h2 rfl; omega
                have := ih2 a (b + 1) _ (rmE τ a b) true ha (by omega) (rmE_upd hkp hne) (top_rm hG htop ha (by omega) hne c2) (fun e => by cases e) (fun _ => by omega) hcont
                show V (49, [some (.inr 0), some (.inl (nI (s + 2))), some (.inl (b2i true)), some (.inl (nI a)), some (.inl (nI (b + 1)))], [], mkM (nI n) j (zK z (upd (upd kp (nI a).toNatClampNeg (nI (sd (τ a) (2 ^ b)))) (nI b).toNatClampNeg (nI (sd (τ b) (2 ^ a))))))
                rw [ea, eb]
                exact this
        have la : ∀ m a kp τ dr (y4 : Option mV), a + m = n → (∀ v, v < n → kp v = nI (τ v)) → topT n f s τ → (dr = false → mt n τ ≤ p ∧ ∀ a' b', b' < n → a' < a → (τ a').testBit b' = true → s ≤ pop (τ a' &&& τ b')) → (dr = true → mt n τ < p) →
            V (38, [some (.inr 0), some (.inl (nI (s + 2))), some (.inl (b2i dr)), some (.inl (nI a)), y4], [], mkM (nI n) j (zK z kp)) := by
          intro m
          induction m with
          | zero =>
            intro a kp τ dr y4 ha hkp htop h1 h2
            refine hV 80 38 _ _ _ (br_ge (a := a) (b := n) (by omega) (by omega) (fun _ => ?_) (fun c => absurd c (by omega)))
            cases dr with
            | false => exact fin kp τ _ _ hkp ⟨htop, fun a' b' ha' hb' hz => (h1 rfl).2 a' b' hb' (by omega) hz⟩
            | true => exact ih kp τ _ _ (h2 rfl) hkp htop
          | succ m ih2 =>
            intro a kp τ dr y4 ha hkp htop h1 h2
            refine hV 80 38 _ _ _ (br_ge (a := a) (b := n) (by omega) (by omega) (fun c => absurd c (by omega)) (fun _ => ?_))
            exact lb n a 0 kp τ dr (by omega) (by omega) hkp htop (fun e => ⟨(h1 e).1, fun a' b' x2 x3 => (h1 e).2 a' b' x2 (by omega)⟩) h2 (fun kp τ dr y4 hkp htop h1 h2 => ih2 (a + 1) kp τ dr y4 (by omega) hkp htop h1 h2)
        refine hV 80 30 _ _ _ (br_eq (b := true) (fun c => by cases c) (fun _ => ?_))
        exact la n 0 kp0 τ0 false y4 (by omega) hkp0 htop0 (fun _ => ⟨by omega, fun a' b' _ x => by omega⟩) (fun e => by cases e)
    have cp : ∀ m i kp (y3 y4 : Option mV), i + m = n → (∀ v, v < i → kp v = nI (f v)) → V (2, [some (.inr 0), some (.inl (nI (s + 2))), some (.inl (nI i)), y3, y4], [], mkM (nI n) j (zK z kp)) := by
      intro m
      induction m with
      | zero =>
        intro i kp y3 y4 hi hkp
        have e : i = n := by omega
        subst e
        exact hV 80 2 _ _ _ (br_ge (a := i) (b := i) (by omega) (by omega) (fun _ => outer (mt i f + 1) kp f _ _ (by omega) hkp (top_f hG s)) (fun c => absurd c (by omega)))
      | succ m ih =>
        intro i kp y3 y4 hi hkp
        have ei := clamp12 (v := i) (n := n) (by omega) hn
        refine hV 80 2 _ _ _ (br_ge (a := i) (b := n) (by omega) (by omega) (fun c => absurd c (by omega)) (fun _ => And.intro (vp_in_nI (by omega) (by omega)) (nm_r (e' := nI (f i)) (by rw [ei, hj i (by omega)]) (And.intro (vp_in_nI (by omega) (by omega)) (nm_r (nI_1 i) ?_)))))
        refine ih (i + 1) (upd kp (nI i).toNatClampNeg (nI (f i))) _ _ (by omega) (fun v hv => ?_)
        rw [ei]
        by_cases e : v = i
        · rw [e, upd_u]
        · rw [upd_n e]; exact hkp v (by omega)
    exact hV 80 0 _ _ _ (cp n 0 z.2.2.2.2.2.2.2.2.1 none none (by omega) (fun v hv => by omega))
theorem o_M73 {D : va_G} {cA : ClassId} {ad : Nat → Nat} {l : Launch} {R : Room} (hR : 1 + 1 ≤ R.frames ∧ 32 * (1 + 1) ≤ R.locals) : m_OK D cls cA 1 ad TB l "DegreeCoresModel" R 73 false (1 + 1) tM_trussOf :=
  m_okV (C := R_M) (Tu := T_M) (N := 13) rfl c_M_trussOf (by decide) tb_good w_M73 ⟨rfl, by decide +kernel, by decide +kernel, by decide +kernel⟩ (by decide) hR (by rintro as h k ⟨n, f, j, z, s, rfl, hj, hG, rfl, hs, hk⟩; exact ⟨0, _, _, rfl, rfl⟩)
def tM_truss : mT := fun as h k => ∃ n f j z x y, h = mkM (nI n) j z ∧ (∀ v, v < n → j v = nI (f v)) ∧ Gr n f ∧ as = [.inr 0, .inl x, .inl y] ∧ ∀ kp rr, aTr n f x y rr → k (some rr) (mkM (nI n) j (zK z kp))
def k2_M_truss : List (Nat × mE) := [(0, .aload_n 0, 1, 0, 0, false), (1, .iload_n 1, 2, 0, 0, false), (2, .iload_n 2, 3, 0, 0, false), (3, .invokevirtual 70, 6, 0, 0, false), (6, .ifCond .ne 5, 9, 11, 0, false), (9, .iconst (-1), 10, 0, (-1), false), (10, .ireturn, 11, 0, 0, false), (11, .iconst 2, 12, 0, 2, false), (12, .istore_n 3, 13, 0, 0, false), (13, .iconst 1, 14, 0, 1, false), (14, .istore 4, 16, 0, 0, false), (16, .iload 4, 18, 0, 0, true), (18, .ifCond .eq 47, 21, 65, 0, false), (21, .aload_n 0, 22, 0, 0, false), (22, .iload_n 3, 23, 0, 0, false), (23, .iconst 1, 24, 0, 1, false), (24, .iadd, 25, 0, 0, false), (25, .invokevirtual 73, 28, 0, 0, false), (28, .aload_n 0, 29, 0, 0, false), (29, .getfield 26, 32, 0, 0, false), (32, .iload_n 1, 33, 0, 0, false), (33, .iaload, 34, 0, 0, false), (34, .iload_n 2, 35, 0, 0, false), (35, .ishr, 36, 0, 0, false), (36, .iconst 1, 37, 0, 1, false), (37, .iand, 38, 0, 0, false), (38, .iconst 1, 39, 0, 1, false), (39, .if_icmp .ne 7, 42, 46, 0, false), (42, .iconst 1, 43, 0, 1, false), (43, .goto 4, 46, 47, 0, false), (46, .iconst 0, 47, 0, 0, false), (47, .istore 4, 49, 0, 0, false), (49, .iload_n 3, 50, 0, 0, true), (50, .iload 4, 52, 0, 0, false), (52, .ifCond .eq 7, 55, 59, 0, false), (55, .iconst 1, 56, 0, 1, false), (56, .goto 4, 59, 60, 0, false), (59, .iconst 0, 60, 0, 0, false), (60, .iadd, 61, 0, 0, false), (61, .istore_n 3, 62, 0, 0, false), (62, .goto (-46), 65, 16, 0, false), (65, .iload_n 3, 66, 0, 0, false), (66, .ireturn, 67, 0, 0, false)]
theorem ok2_M_truss : k2_M_truss.all (m_ok b_M_truss 5) = true := by decide +kernel
set_option maxHeartbeats 4000000 in
set_option maxRecDepth 20000 in
theorem c_M_truss : m_Con cls 1 TB y_M_truss b_M_truss 5 (some .int) 0 3 tM_truss := by
  refine m_con (code := k2_M_truss) (fld := f_M) (fpt := p_M) (kon := []) (call := [(70, false, 3, tM_isEdge), (73, false, 2, tM_trussOf)]) (C := R_M) (T := T_M) (N := 13) (by decide) (Or.inl ⟨rfl, rfl⟩) ok2_M_truss tb_M (fun l D cA ad => m_calls ?_) ?_ ?_
  · exact List.forall_mem_cons.mpr ⟨o_M70 ⟨Nat.le_of_ble_eq_true rfl, Nat.le_of_ble_eq_true rfl⟩, List.forall_mem_cons.mpr ⟨o_M73 ⟨Nat.le_of_ble_eq_true rfl, Nat.le_of_ble_eq_true rfl⟩, fun _ h => absurd h List.not_mem_nil⟩⟩
  · rintro as h k ⟨n, f, j, z, x, y, rfl, hj, hG, rfl, hk⟩
    exact Nat.le_of_ble_eq_true rfl
  · rintro as h k ⟨n, f, j, z, x, y, rfl, hj, hG, rfl, hk⟩ V hV
    have hh : hM (mkM (nI n) j z) n f := ⟨j, z, rfl, hj, hG⟩
    have hn := hG.1
    refine hV 80 0 _ _ _ ⟨n, f, x, y, hh, rfl, br_ne (fun c => ?_) (fun c => hk z.2.2.2.2.2.2.2.2.1 _ (Or.inl ⟨c, rfl⟩))⟩
    obtain ⟨u, v, hu, hv, huv, rfl, rfl, hb⟩ := edg_t hn c
    have loop : ∀ m s kp, s + m = n → (0 < s → mem n f s u v) → V (16, [some (.inr 0), some (.inl (nI u)), some (.inl (nI v)), some (.inl (nI (s + 2))), some (.inl (b2i true))], [], mkM (nI n) j (zK z kp)) := by
      intro m
      induction m with
      | zero =>
        intro s kp hs hm
        exfalso
        have := mem_n hG hu hv (hm (by omega))
        omega
      | succ m ih =>
        intro s kp hs hm
        refine hV 80 16 _ _ _ (br_eq (b := true) (fun c => by cases c) (fun _ => nm_r (nI_1 (s + 2)) ⟨n, f, j, _, s + 1, rfl, hj, hG, rfl, by omega, fun kp' τ hkp htr => ?_⟩))
        have gu : τ u < 4096 := Nat.lt_of_lt_of_le (fam_lt hG htr.1.1 hu) (p12 hn)
        have tail : V (49, [some (.inr 0), some (.inl (nI u)), some (.inl (nI v)), some (.inl (nI (s + 2))), some (.inl (b2i ((τ u).testBit v)))], [], mkM (nI n) j (zK z kp')) := by
          refine hV 80 49 _ _ _ (br_eq (fun c2 => nm_r (nI_add _ 0) ?_) (fun c2 => nm_r (nI_1 (s + 2)) ?_))
          · rw [c2]
            refine hV 80 16 _ _ _ (br_eq (b := false) (fun _ => ?_) (fun c => by cases c))
            refine hk kp' _ (Or.inr ⟨u, v, s + 2, hu, hv, rfl, rfl, c, ⟨by omega, fun h => hm (by omega), fun h => ?_⟩, rfl⟩)
            rw [(tr_mem htr hu).mpr h] at c2
            cases c2
          · rw [c2]
            exact ih (s + 1) kp' (by omega) (fun _ => (tr_mem htr hu).mp c2)
        refine And.intro (vp_in_nI (by omega) (by omega)) (nm_r (e' := nI (τ u)) (by rw [clamp12 hu hn]; exact hkp u hu) (nm_e (nm_r (nx_bit (by omega) (by omega)) (br_bn (fun c2 => ?_) (fun c2 => ?_)))))
        · rw [c2] at tail; exact tail
        · rw [c2] at tail; exact tail
    exact loop n 0 z.2.2.2.2.2.2.2.2.1 (by omega) (fun h => by omega)
end
section
/-! the reference: the densest, cuts, firmness, the rich -/
def tM_edgesIn : mT := fun as h k => ∃ n f S, hM h n f ∧ as = [.inr 0, .inl (nI S)] ∧ S < 4096 ∧ k (some (nI (e1 n f S))) h
set_option maxHeartbeats 4000000 in
set_option maxRecDepth 20000 in
theorem c_M_edgesIn : m_Con cls 1 TB y_M_edgesIn b_M_edgesIn 4 (some .int) 0 1 tM_edgesIn := by
  refine m_con (code := k_M_edgesIn) (fld := f_M) (fpt := p_M) (kon := []) (call := [(44, true, 1, tM_count)]) (C := R_M) (T := T_M) (N := 13) (by decide) (Or.inl ⟨rfl, rfl⟩) ok_M_edgesIn tb_M (fun l D cA ad => m_calls ?_) ?_ ?_
  · exact List.forall_mem_cons.mpr ⟨o_M44 ⟨Nat.le_of_ble_eq_true rfl, Nat.le_of_ble_eq_true rfl⟩, fun _ h => absurd h List.not_mem_nil⟩
  · rintro as h k ⟨n, f, S, ⟨j, z, rfl, hj, hG⟩, rfl, hS, hk⟩
    exact Nat.le_of_ble_eq_true rfl
  · rintro as h k ⟨n, f, S, ⟨j, z, rfl, hj, hG⟩, rfl, hS, hk⟩ V hV
    have hn := hG.1
    have loop : ∀ m v acc, v + m = n → acc = e2 v f S → V (4, [some (.inr 0), some (.inl (nI S)), some (.inl (nI acc)), some (.inl (nI v))], [], mkM (nI n) j z) := by
      intro m
      induction m with
      | zero =>
        intro v acc hv hacc
        have hvn : v = n := by omega
        subst hvn
        have hb := e2_lt hG S v (Nat.le_refl _)
        refine hV 60 4 _ _ _ (br_ge (a := v) (b := v) (by omega) (by omega) (fun _ => And.intro (by decide) (nm_r (pk_div (d := 2) (by omega) (by decide) (by decide)) ?_)) (fun c => absurd c (by omega)))
        rw [hacc, e1_half hG]
        exact hk
      | succ m ih =>
        intro v acc hv hacc
        refine hV 60 4 _ _ _ (br_ge (a := v) (b := n) (by omega) (by omega) (fun c => absurd c (by omega)) (fun _ => nm_e (nm_r (nx_bit (by omega) (by omega)) (br_bn (fun c => nm_r (nI_add _ 0) (nm_r (nI_1 v) ?_)) (fun c => And.intro (vp_in_nI (by omega) (by omega)) (nm_r (by rw [clamp12 (v := v) (n := n) (by omega) hn, hj v (by omega)]) (nm_r (nx_and _ _) ⟨_, rfl, Nat.lt_of_le_of_lt Nat.and_le_left (g31 hG (by omega)), nm_r (nI_add _ _) (nm_r (nI_1 v) ?_)⟩)))))))
        · exact ih (v + 1) (acc + 0) (by omega) (by rw [hacc]; show _ = sm _ v + _; simp only [c]; rfl)
        · exact ih (v + 1) _ (by omega) (by rw [hacc]; show _ = sm _ v + _; simp only [c]; rfl)
    exact hV 60 0 _ _ _ (loop n 0 0 (by omega) rfl)
theorem o_M84 {D : va_G} {cA : ClassId} {ad : Nat → Nat} {l : Launch} {R : Room} (hR : 1 + 1 ≤ R.frames ∧ 32 * (1 + 1) ≤ R.locals) : m_OK D cls cA 1 ad TB l "DegreeCoresModel" R 84 false (1 + 1) tM_edgesIn :=
  m_okV (C := R_M) (Tu := T_M) (N := 13) rfl c_M_edgesIn (by decide) tb_good w_M84 ⟨rfl, by decide +kernel, by decide +kernel, by decide +kernel⟩ (by decide) hR (by rintro as h k ⟨n, f, S, ⟨j, z, rfl, hj, hG⟩, rfl, hS, hk⟩; exact ⟨0, _, _, rfl, rfl⟩)
def tM_densestOf : mT := fun as h k => ∃ n f, hM h n f ∧ as = [.inr 0] ∧ 0 < n ∧ ∀ S, isDen n f S → k (some (nI S)) h
set_option maxHeartbeats 4000000 in
set_option maxRecDepth 20000 in
theorem c_M_densestOf : m_Con cls 1 TB y_M_densestOf b_M_densestOf 5 (some .int) 0 2 tM_densestOf := by
  refine m_con (code := k_M_densestOf) (fld := f_M) (fpt := p_M) (kon := []) (call := [(48, false, 1, tM_all), (84, false, 2, tM_edgesIn), (44, true, 1, tM_count)]) (C := R_M) (T := T_M) (N := 13) (by decide) (Or.inl ⟨rfl, rfl⟩) ok_M_densestOf tb_M (fun l D cA ad => m_calls ?_) ?_ ?_
  · exact List.forall_mem_cons.mpr ⟨o_M48 ⟨Nat.le_of_ble_eq_true rfl, Nat.le_of_ble_eq_true rfl⟩, List.forall_mem_cons.mpr ⟨o_M84 ⟨Nat.le_of_ble_eq_true rfl, Nat.le_of_ble_eq_true rfl⟩, List.forall_mem_cons.mpr ⟨o_M44 ⟨Nat.le_of_ble_eq_true rfl, Nat.le_of_ble_eq_true rfl⟩, fun _ h => absurd h List.not_mem_nil⟩⟩⟩
  · rintro as h k ⟨n, f, ⟨j, z, rfl, hj, hG⟩, rfl, h0, hk⟩
    exact Nat.le_of_ble_eq_true rfl
  · rintro as h k ⟨n, f, ⟨j, z, rfl, hj, hG⟩, rfl, h0, hk⟩ V hV
    have hh : hM (mkM (nI n) j z) n f := ⟨j, z, rfl, hj, hG⟩
    have hn := hG.1
    have h12 := p12 hn
    have h1n : 1 < 2 ^ n := Nat.one_lt_two_pow (by omega)
    have pl : ∀ S, S < 2 ^ n → pop S ≤ 12 := fun S hS => by have := pop_le hS hn; omega
    have loop : ∀ m s b (y3 y4 : Option mV), s + 1 + m = 2 ^ n → dmI n f s b → V (4, [some (.inr 0), some (.inl (nI b)), some (.inl (nI (s + 1))), y3, y4], [], mkM (nI n) j z) := by
      intro m
      induction m with
      | zero =>
        intro s b y3 y4 hs hI
        refine hV 60 4 _ _ _ ⟨n, f, hh, rfl, br_gt (a := s + 1) (b := 2 ^ n - 1) (by omega) (by omega) (fun _ => ?_) (fun c => absurd c (by omega))⟩
        have e : s = 2 ^ n - 1 := by omega
        rw [e] at hI
        exact hk b (dm_end hI)
      | succ m ih =>
        intro s b y3 y4 hs hI
        have hb := hI.1
        have hsl : s + 1 < 2 ^ n := by omega
        have x1 := e1_72 hG (s + 1)
        have x2 := e1_72 hG b
        have x3 := pl _ hsl
        have x4 := pl _ hb
        have m1 := mul_100 (a := e1 n f (s + 1)) (b := pop b) (by omega) (by omega)
        have m2 := mul_100 (a := e1 n f b) (b := pop (s + 1)) (by omega) (by omega)
        refine hV 60 4 _ _ _ ⟨n, f, hh, rfl, br_gt (a := s + 1) (b := 2 ^ n - 1) (by omega) (by omega) (fun c => absurd c (by omega)) (fun _ => ⟨n, f, _, hh, rfl, by omega, ⟨_, rfl, by omega, nm_r (pk_mul _ _) ⟨n, f, _, hh, rfl, by omega, ⟨_, rfl, by omega, nm_r (pk_mul _ _) (br_le (a := e1 n f (s + 1) * pop b) (b := e1 n f b * pop (s + 1)) (by omega) (by omega) (fun c => br_n (a := e1 n f (s + 1) * pop b) (b := e1 n f b * pop (s + 1)) (by omega) (by omega) (fun c2 => nm_r (nI_1 _) ?_) (fun c2 => nm_r (nx_or _ _) (nm_r (nI_1 _) ?_))) (fun c => nm_r (nI_1 _) ?_))⟩⟩⟩⟩)⟩
        · exact ih (s + 1) b _ _ (by omega) (dm_lt hI (by omega))
        · exact ih (s + 1) _ _ _ (by omega) (dm_eq hn hI hsl c2)
        · exact ih (s + 1) _ _ _ (by omega) (dm_gt hn hI hsl c)
    exact hV 60 0 _ _ _ (loop (2 ^ n - 1) 0 1 none none (by omega) ⟨h1n, by omega, fun X h1 h2 => by omega⟩)
theorem o_M87 {D : va_G} {cA : ClassId} {ad : Nat → Nat} {l : Launch} {R : Room} (hR : 2 + 1 ≤ R.frames ∧ 32 * (2 + 1) ≤ R.locals) : m_OK D cls cA 1 ad TB l "DegreeCoresModel" R 87 false (0 + 1) tM_densestOf :=
  m_okV (C := R_M) (Tu := T_M) (N := 13) rfl c_M_densestOf (by decide) tb_good w_M87 ⟨rfl, by decide +kernel, by decide +kernel, by decide +kernel⟩ (by decide) hR (by rintro as h k ⟨n, f, ⟨j, z, rfl, hj, hG⟩, rfl, h0, hk⟩; exact ⟨0, _, _, rfl, rfl⟩)
def tM_densest : mT := fun as h k => ∃ n f, hM h n f ∧ as = [.inr 0] ∧ ∀ r, aDst n f r → k (some r) h
set_option maxHeartbeats 4000000 in
set_option maxRecDepth 20000 in
theorem c_M_densest : m_Con cls 1 TB y_M_densest b_M_densest 1 (some .int) 0 3 tM_densest := by
  refine m_con (code := k_M_densest) (fld := f_M) (fpt := p_M) (kon := []) (call := [(87, false, 1, tM_densestOf)]) (C := R_M) (T := T_M) (N := 13) (by decide) (Or.inl ⟨rfl, rfl⟩) ok_M_densest tb_M (fun l D cA ad => m_calls ?_) ?_ ?_
  · exact List.forall_mem_cons.mpr ⟨o_M87 ⟨Nat.le_of_ble_eq_true rfl, Nat.le_of_ble_eq_true rfl⟩, fun _ h => absurd h List.not_mem_nil⟩
  · rintro as h k ⟨n, f, ⟨j, z, rfl, hj, hG⟩, rfl, hk⟩
    exact Nat.le_of_ble_eq_true rfl
  · rintro as h k ⟨n, f, ⟨j, z, rfl, hj, hG⟩, rfl, hk⟩ V hV
    have hh : hM (mkM (nI n) j z) n f := ⟨j, z, rfl, hj, hG⟩
    have hn := hG.1
    exact hV 60 0 _ _ _ (br_n (a := n) (b := 0) (by omega) (by omega) (fun c => ⟨n, f, hh, rfl, by omega, fun S h1 => hk _ (Or.inr ⟨by omega, S, h1, rfl⟩)⟩) (fun c => hk _ (Or.inl ⟨c, rfl⟩)))
def tM_density : mT := fun as h k => ∃ n f p, hM h n f ∧ as = [.inr 0, .inl p] ∧ ∀ r, aDen n f p r → k (some r) h
set_option maxHeartbeats 4000000 in
set_option maxRecDepth 20000 in
theorem c_M_density : m_Con cls 1 TB y_M_density b_M_density 3 (some .int) 0 3 tM_density := by
  refine m_con (code := k_M_density) (fld := f_M) (fpt := p_M) (kon := []) (call := [(77, true, 1, tM_isPart), (87, false, 1, tM_densestOf), (84, false, 2, tM_edgesIn), (44, true, 1, tM_count), (80, true, 3, tM_part)]) (C := R_M) (T := T_M) (N := 13) (by decide) (Or.inl ⟨rfl, rfl⟩) ok_M_density tb_M (fun l D cA ad => m_calls ?_) ?_ ?_
  · exact List.forall_mem_cons.mpr ⟨o_M77 ⟨Nat.le_of_ble_eq_true rfl, Nat.le_of_ble_eq_true rfl⟩, List.forall_mem_cons.mpr ⟨o_M87 ⟨Nat.le_of_ble_eq_true rfl, Nat.le_of_ble_eq_true rfl⟩, List.forall_mem_cons.mpr ⟨o_M84 ⟨Nat.le_of_ble_eq_true rfl, Nat.le_of_ble_eq_true rfl⟩, List.forall_mem_cons.mpr ⟨o_M44 ⟨Nat.le_of_ble_eq_true rfl, Nat.le_of_ble_eq_true rfl⟩, List.forall_mem_cons.mpr ⟨o_M80 ⟨Nat.le_of_ble_eq_true rfl, Nat.le_of_ble_eq_true rfl⟩, fun _ h => absurd h List.not_mem_nil⟩⟩⟩⟩⟩
  · rintro as h k ⟨n, f, p, ⟨j, z, rfl, hj, hG⟩, rfl, hk⟩
    exact Nat.le_of_ble_eq_true rfl
  · rintro as h k ⟨n, f, p, ⟨j, z, rfl, hj, hG⟩, rfl, hk⟩ V hV
    have hh : hM (mkM (nI n) j z) n f := ⟨j, z, rfl, hj, hG⟩
    have hn := hG.1
    have h12 := p12 hn
    refine hV 60 0 _ _ _ ⟨p, rfl, br_ne (fun c => br_n (a := n) (b := 0) (by omega) (by omega) (fun c2 => ⟨n, f, hh, rfl, by omega, fun S h1 => ?_⟩) (fun c2 => hk _ (Or.inr (Or.inl ⟨c, c2, rfl⟩)))) (fun c => hk _ (Or.inl ⟨c, rfl⟩))⟩
    have hS := h1.1
    have x1 := e1_72 hG S
    have x2 := pop_le hS hn
    have x3 := pop_pos hS hn h1.2.1
    exact ⟨n, f, S, hh, rfl, by omega, ⟨_, rfl, by omega, ⟨_, _, _, p, rfl, abs_n (by omega), by omega, by omega, by omega, hk _ (Or.inr (Or.inr ⟨c, by omega, S, h1, rfl⟩))⟩⟩⟩
/-- the cuts that are held are those of the graph, if they aren't to be made anew -/
def cv (n : Nat) (f : Nat → Nat) (c : Nat → Int32) (b : Int32) : Prop := b = 0 → ∀ s, s < 2 ^ n → c s = nI (ct n f s)
def tM_makeCuts : mT := fun as h k => ∃ n f j c b zz, h = mkM (nI n) j (c, b, zz) ∧ (∀ v, v < n → j v = nI (f v)) ∧ Gr n f ∧ cv n f c b ∧ as = [.inr 0] ∧ ∀ c', cv n f c' 0 → k none (mkM (nI n) j (c', 0, zz))
set_option maxHeartbeats 4000000 in
set_option maxRecDepth 20000 in
theorem c_M_makeCuts : m_Con cls 1 TB y_M_makeCuts b_M_makeCuts 3 (none) 2 1 tM_makeCuts := by
  refine m_con (code := k_M_makeCuts) (fld := f_M) (fpt := p_M) (kon := []) (call := [(48, false, 1, tM_all), (44, true, 1, tM_count)]) (C := R_M) (T := T_M) (N := 13) (by decide) (Or.inr (Or.inr ⟨rfl, rfl⟩)) ok_M_makeCuts tb_M (fun l D cA ad => m_calls ?_) ?_ ?_
  · exact List.forall_mem_cons.mpr ⟨o_M48 ⟨Nat.le_of_ble_eq_true rfl, Nat.le_of_ble_eq_true rfl⟩, List.forall_mem_cons.mpr ⟨o_M44 ⟨Nat.le_of_ble_eq_true rfl, Nat.le_of_ble_eq_true rfl⟩, fun _ h => absurd h List.not_mem_nil⟩⟩
  · rintro as h k ⟨n, f, j, c, b, zz, rfl, hj, hG, hcv, rfl, hk⟩
    exact Nat.le_of_ble_eq_true rfl
  · rintro as h k ⟨n, f, j, c, b, zz, rfl, hj, hG, hcv, rfl, hk⟩ V hV
    have hn := hG.1
    have h12 := p12 hn
    refine hV 80 0 _ _ _ (And.intro (fun _ => And.intro (Or.inl rfl) ?_) (fun c1 => ?_))
    · have li : ∀ m s v c acc, s < 2 ^ n → v + m = n → c s = nI acc → acc = ct v f s → (∀ s', s' < s → c s' = nI (ct n f s')) →
          (∀ c (y : Option mV), (∀ s', s' < s + 1 → c s' = nI (ct n f s')) → V (15, [some (.inr 0), some (.inl (nI (s + 1))), y], [], mkM (nI n) j (c, 0, zz))) →
          V (32, [some (.inr 0), some (.inl (nI s)), some (.inl (nI v))], [], mkM (nI n) j (c, 0, zz)) := by
        intro m
        induction m with
        | zero =>
          intro s v c acc hs hv hc hacc hold hcont
          have e : v = n := by omega
          subst e
          refine hV 80 32 _ _ _ (br_ge (a := v) (b := v) (by omega) (by omega) (fun _ => nm_r (nI_1 s) (hcont c _ (fun s' hs' => ?_))) (fun c => absurd c (by omega)))
          by_cases e : s' = s
          · rw [e, hc, hacc]
          · exact hold s' (by omega)
        | succ m ih =>
          intro s v c acc hs hv hc hacc hold hcont
          have es : (nI s).toNatClampNeg = s := nI_clamp (by omega)
          have go : ∀ a', a' = ct (v + 1) f s → V (32, [some (.inr 0), some (.inl (nI s)), some (.inl (nI (v + 1)))], [], mkM (nI n) j (upd c (nI s).toNatClampNeg (nI a'), 0, zz)) := by
            intro a' ha'
            rw [es]
            exact ih s (v + 1) _ a' hs (by omega) (upd_u _ _ _) ha' (fun s' hs' => by rw [upd_n (by omega)]; exact hold s' hs') hcont
          refine hV 80 32 _ _ _ (br_ge (a := v) (b := n) (by omega) (by omega) (fun c => absurd c (by omega)) (fun _ => And.intro (vp_in_nI (by omega) (by omega)) (nm_r (e' := nI acc) (by rw [es]; exact hc) (nm_e (nm_r (nx_bit (by omega) (by omega)) (br_bn (fun c2 => nm_r (nI_add _ 0) (And.intro (vp_in_nI (by omega) (by omega)) (nm_r (nI_1 v) ?_))) (fun c2 => And.intro (vp_in_nI (by omega) (by omega)) (nm_r (e' := nI (f v)) (by rw [clamp12 (v := v) (n := n) (by omega) hn]; exact hj v (by omega)) (nm_e (nm_r (nx_sd _ _) ⟨_, rfl, Nat.lt_of_lt_of_le (sd_lt (hG.2.1 v (by omega))) h12, nm_r (nI_add _ _) (And.intro (vp_in_nI (by omega) (by omega)) (nm_r (nI_1 v) ?_))⟩))))))))))
          · exact go (acc + 0) (by rw [hacc]; show _ = sm _ v + _; simp only [c2]; rfl)
          · exact go _ (by rw [hacc]; show _ = sm _ v + _; simp only [c2]; rfl)
      have lo2 : ∀ m s c (y : Option mV), s + m = 2 ^ n → (∀ s', s' < s → c s' = nI (ct n f s')) → V (15, [some (.inr 0), some (.inl (nI s)), y], [], mkM (nI n) j (c, 0, zz)) := by
        intro m
        induction m with
        | zero =>
          intro s c y hs hold
          have hh : hM (mkM (nI n) j (c, 0, zz)) n f := ⟨j, _, rfl, hj, hG⟩
          exact hV 80 15 _ _ _ ⟨n, f, hh, rfl, br_gt (a := s) (b := 2 ^ n - 1) (by omega) (by omega) (fun _ => hk c (fun _ s' hs' => hold s' (by omega))) (fun c => absurd c (by have := pw_pos n; omega))⟩
        | succ m ih =>
          intro s c y hs hold
          have hh : hM (mkM (nI n) j (c, 0, zz)) n f := ⟨j, _, rfl, hj, hG⟩
          have es : (nI s).toNatClampNeg = s := nI_clamp (by omega)
          refine hV 80 15 _ _ _ ⟨n, f, hh, rfl, br_gt (a := s) (b := 2 ^ n - 1) (by omega) (by omega) (fun c => absurd c (by omega)) (fun _ => And.intro (vp_in_nI (by omega) (by omega)) ?_)⟩
          show V (32, [some (.inr 0), some (.inl (nI s)), some (.inl (nI 0))], [], mkM (nI n) j (upd c (nI s).toNatClampNeg 0, 0, zz))
          rw [es]
          exact li n s 0 _ 0 (by omega) (by omega) (upd_u _ _ _) rfl (fun s' hs' => by rw [upd_n (by omega)]; exact hold s' hs') (fun c y hold => ih (s + 1) c y (by omega) hold)
      exact lo2 (2 ^ n) 0 c none (by omega) (fun s' hs' => by omega)
    · have c1 : b = 0 := c1
      subst c1
      exact hk c hcv
theorem o_M90 {D : va_G} {cA : ClassId} {ad : Nat → Nat} {l : Launch} {R : Room} (hR : 1 + 1 ≤ R.frames ∧ 32 * (1 + 1) ≤ R.locals) : m_OK D cls cA 1 ad TB l "DegreeCoresModel" R 90 false (0 + 1) tM_makeCuts :=
  m_okV (C := R_M) (Tu := T_M) (N := 13) rfl c_M_makeCuts (by decide) tb_good w_M90 ⟨rfl, by decide +kernel, by decide +kernel, by decide +kernel⟩ (by decide) hR (by rintro as h k ⟨n, f, j, c, b, zz, rfl, hj, hG, hcv, rfl, hk⟩; exact ⟨0, _, _, rfl, rfl⟩)
def fI2 (n : Nat) (f : Nat → Nat) (a b s r : Nat) : Prop := (r = 1000 ∨ ∃ S, S < 2 ^ n ∧ S.testBit a = true ∧ S.testBit b = false ∧ ct n f S = r) ∧ ∀ S, S < s → S.testBit a = true → S.testBit b = false → r ≤ ct n f S
def tM_firmOf : mT := fun as h k => ∃ n f j c b zz u v, h = mkM (nI n) j (c, b, zz) ∧ (∀ v, v < n → j v = nI (f v)) ∧ Gr n f ∧ cv n f c b ∧ as = [.inr 0, .inl (nI u), .inl (nI v)] ∧ u < n ∧ v < n ∧ u ≠ v ∧ ∀ c' r, cv n f c' 0 → isFirm n f u v r → k (some (nI r)) (mkM (nI n) j (c', 0, zz))
set_option maxHeartbeats 4000000 in
set_option maxRecDepth 20000 in
theorem c_M_firmOf : m_Con cls 1 TB y_M_firmOf b_M_firmOf 5 (some .int) 0 2 tM_firmOf := by
  refine m_con (code := k_M_firmOf) (fld := f_M) (fpt := p_M) (kon := []) (call := [(90, false, 1, tM_makeCuts), (48, false, 1, tM_all)]) (C := R_M) (T := T_M) (N := 13) (by decide) (Or.inl ⟨rfl, rfl⟩) ok_M_firmOf tb_M (fun l D cA ad => m_calls ?_) ?_ ?_
  · exact List.forall_mem_cons.mpr ⟨o_M90 ⟨Nat.le_of_ble_eq_true rfl, Nat.le_of_ble_eq_true rfl⟩, List.forall_mem_cons.mpr ⟨o_M48 ⟨Nat.le_of_ble_eq_true rfl, Nat.le_of_ble_eq_true rfl⟩, fun _ h => absurd h List.not_mem_nil⟩⟩
  · rintro as h k ⟨n, f, j, c, b, zz, u, v, rfl, hj, hG, hcv, rfl, hu, hv, huv, hk⟩
    exact Nat.le_of_ble_eq_true rfl
  · rintro as h k ⟨n, f, j, c, b, zz, u, v, rfl, hj, hG, hcv, rfl, hu, hv, huv, hk⟩ V hV
    have hn := hG.1
    have h12 := p12 hn
    refine hV 80 0 _ _ _ ⟨n, f, j, c, b, zz, rfl, hj, hG, hcv, rfl, fun c' hc' => ?_⟩
    have hh : hM (mkM (nI n) j (c', 0, zz)) n f := ⟨j, _, rfl, hj, hG⟩
    have loop : ∀ m s le, s + m = 2 ^ n → le ≤ 1000 → fI2 n f u v s le → V (11, [some (.inr 0), some (.inl (nI u)), some (.inl (nI v)), some (.inl (nI le)), some (.inl (nI s))], [], mkM (nI n) j (c', 0, zz)) := by
      intro m
      induction m with
      | zero =>
        intro s le hs hle hI
        refine hV 80 11 _ _ _ ⟨n, f, hh, rfl, br_gt (a := s) (b := 2 ^ n - 1) (by omega) (by omega) (fun _ => ?_) (fun c => absurd c (by have := pw_pos n; omega))⟩
        refine hk c' le hc' ⟨?_, fun S hS => hI.2 S (by omega)⟩
        rcases hI.1 with e | e
        · exfalso
          have hS : 2 ^ u < 2 ^ n := Nat.pow_lt_pow_right (by decide) hu
          have h1 := hI.2 (2 ^ u) (by omega) (by rw [tb_pow]; simp) (by rw [tb_pow]; simp [huv])
          have h2 := ct_lt hG hS
          omega
        · exact e
      | succ m ih =>
        intro s le hs hle hI
        have hsn : s < 2 ^ n := by omega
        have es : c' (nI s).toNatClampNeg = nI (ct n f s) := by rw [nI_clamp (by omega)]; exact hc' rfl s hsn
        have hct := ct_lt hG hsn
        have keep : (s.testBit u = true → s.testBit v = false → le ≤ ct n f s) → fI2 n f u v (s + 1) le := fun H => ⟨hI.1, fun S hS h1 h2 => by
          by_cases e : S = s
          · rw [e] at h1 h2 ⊢; exact H h1 h2
          · exact hI.2 S (by omega) h1 h2⟩
        refine hV 80 11 _ _ _ ⟨n, f, hh, rfl, br_gt (a := s) (b := 2 ^ n - 1) (by omega) (by omega) (fun c => absurd c (by omega)) (fun _ => nm_e (nm_r (nx_bit (by omega) (by omega)) (br_bn (fun c1 => nm_r (nI_1 s) ?_) (fun c1 => nm_e (nm_r (nx_bit (by omega) (by omega)) (br_bz (fun c2 => nm_r (nI_1 s) ?_) (fun c2 => And.intro (vp_in_nI (by omega) (by omega)) (nm_r es (br_ge (a := ct n f s) (b := le) (by omega) (by omega) (fun c3 => nm_r (nI_1 s) ?_) (fun c3 => And.intro (vp_in_nI (by omega) (by omega)) (nm_r es (nm_r (nI_1 s) ?_)))))))))))) ⟩
        · exact ih (s + 1) le (by omega) hle (keep (fun h1 => by rw [c1] at h1; cases h1))
        · exact ih (s + 1) le (by omega) hle (keep (fun _ h2 => by rw [c2] at h2; cases h2))
        · exact ih (s + 1) le (by omega) hle (keep (fun _ _ => c3))
        · refine ih (s + 1) _ (by omega) (by omega) ⟨Or.inr ⟨s, hsn, c1, c2, rfl⟩, fun S hS h1 h2 => ?_⟩
          by_cases e : S = s
          · rw [e]; exact Nat.le_refl _
          · have := hI.2 S (by omega) h1 h2
            omega
    exact loop (2 ^ n) 0 1000 (by omega) (by omega) ⟨Or.inl rfl, fun S hS => by omega⟩
theorem o_M93 {D : va_G} {cA : ClassId} {ad : Nat → Nat} {l : Launch} {R : Room} (hR : 2 + 1 ≤ R.frames ∧ 32 * (2 + 1) ≤ R.locals) : m_OK D cls cA 1 ad TB l "DegreeCoresModel" R 93 false (2 + 1) tM_firmOf :=
  m_okV (C := R_M) (Tu := T_M) (N := 13) rfl c_M_firmOf (by decide) tb_good w_M93 ⟨rfl, by decide +kernel, by decide +kernel, by decide +kernel⟩ (by decide) hR (by rintro as h k ⟨n, f, j, c, b, zz, u, v, rfl, hj, hG, hcv, rfl, hu, hv, huv, hk⟩; exact ⟨0, _, _, rfl, rfl⟩)
def tM_firm : mT := fun as h k => ∃ n f j c b zz x y, h = mkM (nI n) j (c, b, zz) ∧ (∀ v, v < n → j v = nI (f v)) ∧ Gr n f ∧ cv n f c b ∧ as = [.inr 0, .inl x, .inl y] ∧ ∀ c' b' r, cv n f c' b' → aFirm n f x y r → k (some r) (mkM (nI n) j (c', b', zz))
set_option maxHeartbeats 4000000 in
set_option maxRecDepth 20000 in
theorem c_M_firm : m_Con cls 1 TB y_M_firm b_M_firm 3 (some .int) 0 3 tM_firm := by
  refine m_con (code := k_M_firm) (fld := f_M) (fpt := p_M) (kon := []) (call := [(40, false, 3, tM_areTwo), (93, false, 3, tM_firmOf)]) (C := R_M) (T := T_M) (N := 13) (by decide) (Or.inl ⟨rfl, rfl⟩) ok_M_firm tb_M (fun l D cA ad => m_calls ?_) ?_ ?_
  · exact List.forall_mem_cons.mpr ⟨o_M40 ⟨Nat.le_of_ble_eq_true rfl, Nat.le_of_ble_eq_true rfl⟩, List.forall_mem_cons.mpr ⟨o_M93 ⟨Nat.le_of_ble_eq_true rfl, Nat.le_of_ble_eq_true rfl⟩, fun _ h => absurd h List.not_mem_nil⟩⟩
  · rintro as h k ⟨n, f, j, c, b, zz, x, y, rfl, hj, hG, hcv, rfl, hk⟩
    exact Nat.le_of_ble_eq_true rfl
  · rintro as h k ⟨n, f, j, c, b, zz, x, y, rfl, hj, hG, hcv, rfl, hk⟩ V hV
    have hh : hM (mkM (nI n) j (c, b, zz)) n f := ⟨j, _, rfl, hj, hG⟩
    have hn := hG.1
    refine hV 80 0 _ _ _ ⟨n, f, x, y, hh, rfl, br_eq (fun c1 => hk c b _ hcv (Or.inl ⟨c1, rfl⟩)) (fun c1 => ?_)⟩
    obtain ⟨u, v, hu, hv, huv, rfl, rfl⟩ := two_t hn c1
    exact ⟨n, f, j, c, b, zz, u, v, rfl, hj, hG, hcv, rfl, hu, hv, huv, fun c' r h1 h2 => hk c' 0 _ h1 (Or.inr ⟨u, v, r, hu, hv, huv, rfl, rfl, c1, h2, rfl⟩)⟩
def tM_classOf : mT := fun as h k => ∃ n f j c b zz x y, h = mkM (nI n) j (c, b, zz) ∧ (∀ v, v < n → j v = nI (f v)) ∧ Gr n f ∧ cv n f c b ∧ as = [.inr 0, .inl x, .inl y] ∧ ∀ c' b' r, cv n f c' b' → aCls n f x y r → k (some r) (mkM (nI n) j (c', b', zz))
set_option maxHeartbeats 4000000 in
set_option maxRecDepth 20000 in
theorem c_M_classOf : m_Con cls 1 TB y_M_classOf b_M_classOf 4 (some .int) 0 3 tM_classOf := by
  refine m_con (code := k_M_classOf) (fld := f_M) (fpt := p_M) (kon := []) (call := [(36, false, 2, tM_isNode), (93, false, 3, tM_firmOf)]) (C := R_M) (T := T_M) (N := 13) (by decide) (Or.inl ⟨rfl, rfl⟩) ok_M_classOf tb_M (fun l D cA ad => m_calls ?_) ?_ ?_
  · exact List.forall_mem_cons.mpr ⟨o_M36 ⟨Nat.le_of_ble_eq_true rfl, Nat.le_of_ble_eq_true rfl⟩, List.forall_mem_cons.mpr ⟨o_M93 ⟨Nat.le_of_ble_eq_true rfl, Nat.le_of_ble_eq_true rfl⟩, fun _ h => absurd h List.not_mem_nil⟩⟩
  · rintro as h k ⟨n, f, j, c, b, zz, x, y, rfl, hj, hG, hcv, rfl, hk⟩
    exact Nat.le_of_ble_eq_true rfl
  · rintro as h k ⟨n, f, j, c, b, zz, x, y, rfl, hj, hG, hcv, rfl, hk⟩ V hV
    have hh : hM (mkM (nI n) j (c, b, zz)) n f := ⟨j, _, rfl, hj, hG⟩
    have hn := hG.1
    refine hV 80 0 _ _ _ ⟨n, f, x, hh, rfl, br_ne (fun c1 => And.intro (fun c2 => ?_) (fun c2 => hk c b _ hcv (Or.inr (Or.inl ⟨c1, Int32.not_le.mp c2, rfl⟩)))) (fun c1 => hk c b _ hcv (Or.inl ⟨c1, rfl⟩))⟩
    have c2 : 0 ≤ y := c2
    obtain ⟨K, hK, rfl⟩ := nI_of (Int32.not_lt.mpr c2)
    obtain ⟨v, hv, rfl⟩ := isN_t hn c1
    have loop : ∀ m u c b, u + m = v → cv n f c b → (∀ x, x < u → ∃ r, isFirm n f x v r ∧ r < K) → V (19, [some (.inr 0), some (.inl (nI v)), some (.inl (nI K)), some (.inl (nI u))], [], mkM (nI n) j (c, b, zz)) := by
      intro m
      induction m with
      | zero =>
        intro u c b hu hcv hI
        have e : u = v := by omega
        subst e
        exact hV 80 19 _ _ _ (br_e (a := u) (b := u) (by omega) (by omega) (fun _ => hk c b _ hcv (Or.inr (Or.inr ⟨u, K, u, hv, hK, rfl, rfl, ⟨Nat.le_refl _, fun h => absurd rfl h, hI⟩, rfl⟩))) (fun c => absurd rfl c))
      | succ m ih =>
        intro u c b hu hcv hI
        refine hV 80 19 _ _ _ (br_e (a := u) (b := v) (by omega) (by omega) (fun c => absurd c (by omega)) (fun c3 => ⟨n, f, j, c, b, zz, u, v, rfl, hj, hG, hcv, rfl, by omega, hv, c3, fun c' r h1 h2 => ?_⟩))
        have hr : r ≤ 144 := by
          obtain ⟨⟨S, s1, s2, s3, s4⟩, -⟩ := h2
          have := ct_lt hG s1
          omega
        refine br_ge (a := r) (b := K) (by omega) hK (fun c4 => ?_) (fun c4 => nm_r (nI_1 u) ?_)
        · exact hk c' 0 _ h1 (Or.inr (Or.inr ⟨v, K, u, hv, hK, rfl, rfl, ⟨by omega, fun _ => ⟨r, h2, c4⟩, hI⟩, rfl⟩))
        · exact ih (u + 1) c' 0 (by omega) h1 (fun x hx => by
            by_cases e : x = u
            · rw [e]; exact ⟨r, h2, c4⟩
            · exact hI x (by omega))
    exact loop v 0 c b (by omega) hcv (fun x hx => by omega)
def tM_rich : mT := fun as h k => ∃ n f x p, hM h n f ∧ as = [.inr 0, .inl x, .inl p] ∧ k (some (aRich n f x p)) h
set_option maxHeartbeats 4000000 in
set_option maxRecDepth 20000 in
theorem c_M_rich : m_Con cls 1 TB y_M_rich b_M_rich 5 (some .int) 0 2 tM_rich := by
  refine m_con (code := k_M_rich) (fld := f_M) (fpt := p_M) (kon := []) (call := [(77, true, 1, tM_isPart), (44, true, 1, tM_count), (84, false, 2, tM_edgesIn), (80, true, 3, tM_part)]) (C := R_M) (T := T_M) (N := 13) (by decide) (Or.inl ⟨rfl, rfl⟩) ok_M_rich tb_M (fun l D cA ad => m_calls ?_) ?_ ?_
  · exact List.forall_mem_cons.mpr ⟨o_M77 ⟨Nat.le_of_ble_eq_true rfl, Nat.le_of_ble_eq_true rfl⟩, List.forall_mem_cons.mpr ⟨o_M44 ⟨Nat.le_of_ble_eq_true rfl, Nat.le_of_ble_eq_true rfl⟩, List.forall_mem_cons.mpr ⟨o_M84 ⟨Nat.le_of_ble_eq_true rfl, Nat.le_of_ble_eq_true rfl⟩, List.forall_mem_cons.mpr ⟨o_M80 ⟨Nat.le_of_ble_eq_true rfl, Nat.le_of_ble_eq_true rfl⟩, fun _ h => absurd h List.not_mem_nil⟩⟩⟩⟩
  · rintro as h k ⟨n, f, x, p, ⟨j, z, rfl, hj, hG⟩, rfl, hk⟩
    exact Nat.le_of_ble_eq_true rfl
  · rintro as h k ⟨n, f, x, p, ⟨j, z, rfl, hj, hG⟩, rfl, hk⟩ V hV
    have hh : hM (mkM (nI n) j z) n f := ⟨j, z, rfl, hj, hG⟩
    have hn := hG.1
    have h12 := p12 hn
    refine hV 60 0 _ _ _ ⟨p, rfl, br_eq (fun c => ?_) (fun c => And.intro (fun c2 => ?_) (fun c2 => ?_))⟩
    · rw [aRich, c] at hk; exact hk
    · have c2 : 0 ≤ x := c2
      rw [aRich, c, decide_eq_true c2] at hk
      have loop : ∀ m v, v + m = n → V (19, [some (.inr 0), some (.inl x), some (.inl p), some (.inl (nI (rS v f x))), some (.inl (nI v))], [], mkM (nI n) j z) := by
        intro m
        induction m with
        | zero =>
          intro v hv
          have e : v = n := by omega
          subst e
          have hr : rS v f x < 2 ^ v := mk_lt _ _
          have x1 := e1_72 hG (rS v f x)
          have x2 := pop_le hr hn
          have x3 := prs_66 (pop (rS v f x)) (by omega)
          refine hV 60 19 _ _ _ (br_ge (a := v) (b := v) (by omega) (by omega) (fun _ => ⟨_, rfl, by omega, br_ge (a := pop (rS v f x)) (b := 2) (by omega) (by omega) (fun c3 => ⟨v, f, _, hh, rfl, by omega, nm_e (nm_e (And.intro (by decide) (nm_r (prs_I _ (by omega)) ?_)))⟩) (fun c3 => ?_)⟩) (fun c => absurd c (by omega)))
          · have := prs_p _ (by omega) c3
            exact ⟨_, _, _, p, rfl, abs_n (by omega), by omega, by omega, by omega, hk⟩
          · rw [prs_0 _ c3] at hk
            exact hk
        | succ m ih =>
          intro v hv
          have hnx := ih (v + 1) (by omega)
          have e : rS (v + 1) f x = rS v f x ||| (bif decide (x < nI (pop (f v))) then 2 ^ v else 0) := rfl
          refine hV 60 19 _ _ _ (br_ge (a := v) (b := n) (by omega) (by omega) (fun c => absurd c (by omega)) (fun _ => And.intro (vp_in_nI (by omega) (by omega)) (nm_r (by rw [clamp12 (v := v) (n := n) (by omega) hn, hj v (by omega)]) ⟨_, rfl, g31 hG (by omega), And.intro (fun c3 => nm_r (nx_or _ 0) (nm_r (nI_1 v) ?_)) (fun c3 => nm_r (nx_shl v (by omega)) (nm_r (nx_or _ _) (nm_r (nI_1 v) ?_)))⟩)))
          · have c3 : nI (pop (f v)) ≤ x := c3
            rw [e, decide_eq_false (Int32.not_lt.mpr c3)] at hnx
            exact hnx
          · have c3 : ¬ nI (pop (f v)) ≤ x := c3
            rw [e, decide_eq_true (Int32.not_le.mp c3)] at hnx
            exact hnx
      exact loop n 0 (by omega)
    · have c2 : ¬ 0 ≤ x := c2
      rw [aRich, decide_eq_false c2, Bool.and_false] at hk
      exact hk
end
section
/-! the reference: likeness, rows made graphs -/
def tM_likeness : mT := fun as h k => ∃ n f p, hM h n f ∧ as = [.inr 0, .inl p] ∧ k (some (aLik n f p)) h
set_option maxHeartbeats 4000000 in
set_option maxRecDepth 20000 in
theorem c_M_likeness : m_Con cls 1 TB y_M_likeness b_M_likeness 10 (some .int) 0 1 tM_likeness := by
  refine m_con (code := k_M_likeness) (fld := f_M) (fpt := p_M) (kon := []) (call := [(77, true, 1, tM_isPart), (55, false, 3, tM_areJoined), (44, true, 1, tM_count), (80, true, 3, tM_part)]) (C := R_M) (T := T_M) (N := 13) (by decide) (Or.inl ⟨rfl, rfl⟩) ok_M_likeness tb_M (fun l D cA ad => m_calls ?_) ?_ ?_
  · exact List.forall_mem_cons.mpr ⟨o_M77 ⟨Nat.le_of_ble_eq_true rfl, Nat.le_of_ble_eq_true rfl⟩, List.forall_mem_cons.mpr ⟨o_M55 ⟨Nat.le_of_ble_eq_true rfl, Nat.le_of_ble_eq_true rfl⟩, List.forall_mem_cons.mpr ⟨o_M44 ⟨Nat.le_of_ble_eq_true rfl, Nat.le_of_ble_eq_true rfl⟩, List.forall_mem_cons.mpr ⟨o_M80 ⟨Nat.le_of_ble_eq_true rfl, Nat.le_of_ble_eq_true rfl⟩, fun _ h => absurd h List.not_mem_nil⟩⟩⟩⟩
  · rintro as h k ⟨n, f, p, ⟨j, z, rfl, hj, hG⟩, rfl, hk⟩
    exact Nat.le_of_ble_eq_true rfl
  · rintro as h k ⟨n, f, p, ⟨j, z, rfl, hj, hG⟩, rfl, hk⟩ V hV
    have hh : hM (mkM (nI n) j z) n f := ⟨j, z, rfl, hj, hG⟩
    have hn := hG.1
    refine hV 60 0 _ _ _ ⟨p, rfl, br_ne (fun c => ?_) (fun c => ?_)⟩
    · rw [aLik, c] at hk
      generalize hans : LK n f = R at hk
      have hR : okL 144 R := by rw [← hans]; exact LK_ok hG
      have inner : ∀ m a b (c : Lk) (y8 y9 : Option mV), a < n → b + m = n →
          (∀ (c' : Lk) (y7 y8 y9 : Option mV), c' = lk2 f a m b c → V (23, [some (.inr 0), some (.inl p), some (.inl (nI c'.1)), some (.inl (nI c'.2.1)), some (.inl (nI c'.2.2.1)), some (.inl (nI c'.2.2.2)), some (.inl (nI (a + 1))), y7, y8, y9], [], mkM (nI n) j z)) →
          V (38, [some (.inr 0), some (.inl p), some (.inl (nI c.1)), some (.inl (nI c.2.1)), some (.inl (nI c.2.2.1)), some (.inl (nI c.2.2.2)), some (.inl (nI a)), some (.inl (nI b)), y8, y9], [], mkM (nI n) j z) := by
        intro m
        induction m with
        | zero =>
          intro a b c y8 y9 ha hb hcont
          exact hV 80 38 _ _ _ (br_ge (a := b) (b := n) (by omega) (by omega) (fun _ => nm_r (nI_1 a) (hcont c _ _ _ rfl)) (fun c => absurd c (by omega)))
        | succ m ih =>
          intro a b c y8 y9 ha hb hcont
          have ga := g31 hG ha
          have gb := g31 hG (v := b) (by omega)
          refine hV 80 38 _ _ _ (br_ge (a := b) (b := n) (by omega) (by omega) (fun c => absurd c (by omega)) (fun _ => ⟨n, f, a, b, hh, rfl, ha, by omega, br_eq (fun c1 => nm_r (nI_1 b) ?_) (fun c1 => ?_)⟩))
          · refine ih a (b + 1) c _ _ ha (by omega) (fun c' y7 y8 y9 hc' => hcont c' y7 y8 y9 ?_)
            rw [hc', lk2, lks, c1]
            rfl
          · refine And.intro (vp_in_nI (by omega) (by omega)) (nm_r (by rw [clamp12 ha hn, hj a ha]) ⟨_, rfl, ga, And.intro (vp_in_nI (by omega) (by omega)) (nm_r (by rw [clamp12 (v := b) (n := n) (by omega) hn, hj b (by omega)]) ⟨_, rfl, gb, ?_⟩)⟩)
            refine nm_r (nI_1 _) (nm_r (pk_mul _ _) (nm_r (nI_add _ _) (nm_r (nI_add _ _) (nm_r (nI_add _ _) (nm_r (pk_mul _ _) (nm_r (pk_mul _ _) (nm_r (nI_add _ _) (nm_r (nI_add _ _) (nm_r (nI_1 b) ?_)))))))))
            refine ih a (b + 1) (c.1 + 1, c.2.1 + pop (f a) * pop (f b), c.2.2.1 + (pop (f a) + pop (f b)), c.2.2.2 + (pop (f a) * pop (f a) + pop (f b) * pop (f b))) _ _ ha (by omega) (fun c' y7 y8 y9 hc' => hcont c' y7 y8 y9 ?_)
            rw [hc', lk2, lks, c1]
            rfl
      have outer : ∀ m a (c : Lk) (y7 y8 y9 : Option mV), a + m = n → lk1 f n m a c = R → V (23, [some (.inr 0), some (.inl p), some (.inl (nI c.1)), some (.inl (nI c.2.1)), some (.inl (nI c.2.2.1)), some (.inl (nI c.2.2.2)), some (.inl (nI a)), y7, y8, y9], [], mkM (nI n) j z) := by
        intro m
        induction m with
        | zero =>
          intro a c y7 y8 y9 ha he
          have he : c = R := he
          subst he
          obtain ⟨b1, b2, b3⟩ := LK_b hR
          have hcs := LK_cs hR
          refine hV 80 23 _ _ _ (br_ge (a := a) (b := n) (by omega) (by omega) (fun _ => nm_r (pk_mul 2 c.1) (nm_r (pk_mul _ _) (nm_r (pk_mul _ _) (nm_r (pk_sub hcs) (br_n (a := 2 * c.1 * c.2.2.2 - c.2.2.1 * c.2.2.1) (b := 0) (by omega) (by omega) (fun c2 => nm_r (pk_mul 4 c.1) (nm_r (pk_mul _ _) (nm_r (pk_mul _ _) (nm_e ⟨_, _, _, p, rfl, abs_d b1 b2, by omega, by omega, by omega, hk⟩)))) (fun c2 => ?_)))))) (fun c => absurd c (by omega)))
          rw [c2] at hk
          exact hk
        | succ m ih =>
          intro a c y7 y8 y9 ha he
          refine hV 80 23 _ _ _ (br_ge (a := a) (b := n) (by omega) (by omega) (fun c => absurd c (by omega)) (fun _ => nm_r (nI_1 a) ?_))
          refine inner (n - (a + 1)) a (a + 1) c _ _ (by omega) (by omega) (fun c' y7 y8 y9 hc' => ih (a + 1) c' y7 y8 y9 (by omega) ?_)
          rw [hc']
          exact he
      exact outer n 0 (0, 0, 0, 0) none none none (by omega) hans
    · rw [aLik, c] at hk; exact hk
def tM_want : mT := fun as h k => ∃ n j c b q g zz x, h = mkM n j (c, b, nI q, g, zz) ∧ q ≤ 12 ∧ as = [.inr 0, .inl x] ∧ (¬ (0 ≤ x ∧ x ≤ 20) → k (some (-2)) h) ∧ (0 ≤ x → x ≤ 20 → (q = 12 → k (some (-4)) h) ∧ (q < 12 → k (some (nI (q + 1))) (mkM n j (c, b, nI (q + 1), upd g q x, zz))))
set_option maxHeartbeats 4000000 in
set_option maxRecDepth 20000 in
theorem c_M_want : m_Con cls 1 TB y_M_want b_M_want 2 (some .int) 0 0 tM_want := by
  refine m_con (code := k_M_want) (fld := f_M) (fpt := p_M) (kon := []) (call := []) (C := R_M) (T := T_M) (N := 13) (by decide) (Or.inl ⟨rfl, rfl⟩) ok_M_want tb_M (fun l D cA ad => m_calls ?_) ?_ ?_
  · exact fun _ h => absurd h List.not_mem_nil
  · rintro as h k ⟨n, j, c, b, q, g, zz, x, rfl, hq, rfl, hk1, hk2⟩
    exact Nat.le_of_ble_eq_true rfl
  · rintro as h k ⟨n, j, c, b, q, g, zz, x, rfl, hq, rfl, hk1, hk2⟩ V hV
    refine hV 60 0 _ _ _ (And.intro (fun c => hk1 (fun z => absurd c (Int32.not_lt.mpr z.1))) (fun c => And.intro (fun c2 => ?_) (fun c2 => hk1 (fun z => c2 z.2))))
    have c1 : ¬ x < 0 := c
    obtain ⟨h1, h2⟩ := hk2 (Int32.not_lt.mp c1) c2
    refine br_n (a := q) (b := 12) (by omega) (by omega) (fun c3 => And.intro (vp_in_nI (by omega) (by omega)) (nm_r (nI_1 q) ?_)) (fun c3 => h1 c3)
    have e : (nI q).toNatClampNeg = q := nI_clamp (by omega)
    have h3 := h2 (by omega)
    rw [← e] at h3
    rw [e] at h3
    show k (some (nI (q + 1))) (mkM n j (_, b, nI (q + 1), upd g (nI q).toNatClampNeg x, zz))
    rw [e]
    exact h3
def tM_unwant : mT := fun as h k => ∃ n j c b q zz, h = mkM n j (c, b, nI q, zz) ∧ as = [.inr 0] ∧ k (some (nI q)) (mkM n j (c, b, nI 0, zz))
set_option maxHeartbeats 4000000 in
set_option maxRecDepth 20000 in
theorem c_M_unwant : m_Con cls 1 TB y_M_unwant b_M_unwant 2 (some .int) 0 0 tM_unwant := by
  refine m_con (code := k_M_unwant) (fld := f_M) (fpt := p_M) (kon := []) (call := []) (C := R_M) (T := T_M) (N := 13) (by decide) (Or.inl ⟨rfl, rfl⟩) ok_M_unwant tb_M (fun l D cA ad => m_calls ?_) ?_ ?_
  · exact fun _ h => absurd h List.not_mem_nil
  · rintro as h k ⟨n, j, c, b, q, zz, rfl, rfl, hk⟩
    exact Nat.le_of_ble_eq_true rfl
  · rintro as h k ⟨n, j, c, b, q, zz, rfl, rfl, hk⟩ V hV
    exact hV 60 0 _ _ _ hk
def tM_most : mT := fun as h k => ∃ n j c b q g l zz ω P, h = mkM n j (c, b, nI q, g, l, zz) ∧ q ≤ 12 ∧ (∀ v, v < q → l v = nI (ω v) ∧ ω v ≤ 20) ∧ as = [.inr 0, .inl (nI P)] ∧ P < 4096 ∧ k (some (oI (wm ω P q))) h
set_option maxHeartbeats 4000000 in
set_option maxRecDepth 20000 in
theorem c_M_most : m_Con cls 1 TB y_M_most b_M_most 4 (some .int) 0 0 tM_most := by
  refine m_con (code := k_M_most) (fld := f_M) (fpt := p_M) (kon := []) (call := []) (C := R_M) (T := T_M) (N := 13) (by decide) (Or.inl ⟨rfl, rfl⟩) ok_M_most tb_M (fun l D cA ad => m_calls ?_) ?_ ?_
  · exact fun _ h => absurd h List.not_mem_nil
  · rintro as h k ⟨n, j, c, b, q, g, l, zz, ω, P, rfl, hq, hl, rfl, hP, hk⟩
    exact Nat.le_of_ble_eq_true rfl
  · rintro as h k ⟨n, j, c, b, q, g, l, zz, ω, P, rfl, hq, hl, rfl, hP, hk⟩ V hV
    have loop : ∀ m v, v + m = q → V (4, [some (.inr 0), some (.inl (nI P)), some (.inl (oI (wm ω P v))), some (.inl (nI v))], [], mkM n j (c, b, nI q, g, l, zz)) := by
      intro m
      induction m with
      | zero =>
        intro v hv
        have e : v = q := by omega
        subst e
        exact hV 60 4 _ _ _ (br_ge (a := v) (b := v) (by omega) (by omega) (fun _ => hk) (fun c => absurd c (by omega)))
      | succ m ih =>
        intro v hv
        have hn := ih (v + 1) (by omega)
        have hv20 := (hl v (by omega)).2
        have ev : l (nI v).toNatClampNeg = nI (ω v) := by rw [nI_clamp (by omega), (hl v (by omega)).1]
        refine hV 60 4 _ _ _ (br_ge (a := v) (b := q) (by omega) (by omega) (fun c => absurd c (by omega)) (fun _ => nm_e (nm_r (nx_bit (by omega) (by omega)) (br_bz (fun c1 => nm_r (nI_1 v) ?_) (fun c1 => And.intro (vp_in_nI (by omega) (by omega)) (nm_r ev (br_le (a := ω v) (b := 0) (by omega) (by omega) (fun c2 => nm_r (nI_1 v) ?_) (fun c2 => ?_))))))))
        · have e : wm ω P (v + 1) = wm ω P v := by
            rw [wm, c1]
            cases wm ω P v <;> rfl
          rw [e] at hn
          exact hn
        · have e : wm ω P (v + 1) = wm ω P v := by
            rw [wm, c1]
            cases hb : wm ω P v with
            | none => simp [show ¬ 0 < ω v by omega]
            | some b => simp [show ¬ ω b < ω v by omega]
          rw [e] at hn
          exact hn
        · cases hb : wm ω P v with
          | none =>
            have e : wm ω P (v + 1) = some v := by
              rw [wm, c1, hb]
              simp [c2]
            rw [e] at hn
            exact And.intro (fun _ => nm_r (nI_1 v) hn) (fun c => absurd (show (-1 : Int32) < 0 by decide) c)
          | some b =>
            obtain ⟨b1, b2, b3⟩ := wm_in hb
            have hb20 := (hl b (by omega)).2
            have eb : l (nI b).toNatClampNeg = nI (ω b) := by rw [nI_clamp (by omega), (hl b (by omega)).1]
            rw [show oI (some b) = nI b from rfl]
            refine And.intro (fun c => absurd c (nI_pos (by omega))) (fun _ => And.intro (vp_in_nI (by omega) (by omega)) (nm_r ev (And.intro (vp_in_nI (by omega) (by omega)) (nm_r eb (br_le (a := ω v) (b := ω b) (by omega) (by omega) (fun c3 => nm_r (nI_1 v) ?_) (fun c3 => nm_r (nI_1 v) ?_))))))
            · have e : wm ω P (v + 1) = some b := by
                rw [wm, c1, hb]
                simp [show ¬ ω b < ω v by omega]
              rw [e] at hn
              exact hn
            · have e : wm ω P (v + 1) = some v := by
                rw [wm, c1, hb]
                simp [c3]
              rw [e] at hn
              exact hn
    exact hV 60 0 _ _ _ (loop q 0 (by omega))
theorem o_M103 {D : va_G} {cA : ClassId} {ad : Nat → Nat} {l : Launch} {R : Room} (hR : 0 + 1 ≤ R.frames ∧ 32 * (0 + 1) ≤ R.locals) : m_OK D cls cA 1 ad TB l "DegreeCoresModel" R 103 false (1 + 1) tM_most :=
  m_okV (C := R_M) (Tu := T_M) (N := 13) rfl c_M_most (by decide) tb_good w_M103 ⟨rfl, by decide +kernel, by decide +kernel, by decide +kernel⟩ (by decide) hR (by rintro as h k ⟨n, j, c, b, q, g, l, zz, ω, P, rfl, hq, hl, rfl, hP, hk⟩; exact ⟨0, _, _, rfl, rfl⟩)
def nz (q : Nat) (ω : Nat → Nat) : Nat := cn (fun v => decide (0 < ω v)) q
theorem nz_0 {q : Nat} {ω : Nat → Nat} (h : nz q ω = 0) : wm ω 0 q = none := by
  cases hw : wm ω 0 q with
  | none => rfl
  | some v =>
    obtain ⟨h1, -, h3⟩ := wm_in hw
    have := cn_0 h v h1
    simp at this
    omega
theorem nz_lt {q v : Nat} {ω ω' : Nat → Nat} (hv : v < q) (hp : 0 < ω v) (h : ∀ x, up ω v 0 x = 0 → ω' x = 0) : nz q ω' < nz q ω := by
  refine cn_lt (v := v) (fun i _ hi => ?_) hv ?_ (by simp [hp])
  · simp only [decide_eq_true_eq] at hi ⊢
    apply Nat.pos_of_ne_zero
    intro h0
    have : up ω v 0 i = 0 := by
      by_cases e : i = v
      · rw [e, up_s]
      · rw [up_n _ _ _ e]; exact h0
    have := h i this
    omega
  · have := h v (up_s _ _ _)
    simp [this]
abbrev zT (c : Nat → Int32) (b : Int32) (q : Nat) (g l : Nat → Int32) (x0 x1 x2 : Int32) (kp : Nat → Int32) (md : Int32) (mg : Nat → Int32) : mZ := (c, b, nI q, g, l, x0, x1, x2, kp, md, mg)
def tM_tries : mT := fun as h k => ∃ n j c b q g l x0 x1 x2 kp md mg γ, h = mkM n j (zT c b q g l x0 x1 x2 kp md mg) ∧ q ≤ 12 ∧ hR q g γ ∧ (∀ v, v < q → γ v ≤ 20) ∧ as = [.inr 0] ∧
  (mkr q q γ (fun _ => 0) = none → ∀ l' md' mg', k (some 0) (mkM n j (zT c b q g l' x0 x1 x2 kp md' mg'))) ∧ (∀ s, mkr q q γ (fun _ => 0) = some s → ∀ l' e mg', hR q mg' s.2 → 2 * e = mt q s.2 → k (some 1) (mkM n j (zT c b q g l' x0 x1 x2 kp (nI e) mg')))
def k2_M_tries : List (Nat × mE) := [(0, .aload_n 0, 1, 0, 0, false), (1, .iconst 0, 2, 0, 0, false), (2, .putfield 100, 5, 0, 0, false), (5, .iconst 0, 6, 0, 0, false), (6, .istore_n 1, 7, 0, 0, false), (7, .iload_n 1, 8, 0, 0, true), (8, .bipush 12, 10, 0, 12, false), (10, .if_icmp .ge 40, 13, 50, 0, false), (13, .aload_n 0, 14, 0, 0, false), (14, .getfield 29, 17, 0, 0, false), (17, .iload_n 1, 18, 0, 0, false), (18, .iconst 0, 19, 0, 0, false), (19, .iastore, 20, 0, 0, false), (20, .aload_n 0, 21, 0, 0, false), (21, .getfield 23, 24, 0, 0, false), (24, .iload_n 1, 25, 0, 0, false), (25, .iload_n 1, 26, 0, 0, false), (26, .aload_n 0, 27, 0, 0, false), (27, .getfield 97, 30, 0, 0, false), (30, .if_icmp .ge 12, 33, 42, 0, false), (33, .aload_n 0, 34, 0, 0, false), (34, .getfield 20, 37, 0, 0, false), (37, .iload_n 1, 38, 0, 0, false), (38, .iaload, 39, 0, 0, false), (39, .goto 4, 42, 43, 0, false), (42, .iconst 0, 43, 0, 0, false), (43, .iastore, 44, 0, 0, false), (44, .iinc 1 1, 47, 0, 1, false), (47, .goto (-40), 50, 7, 0, false), (50, .iconst 1, 51, 0, 1, false), (51, .istore_n 1, 52, 0, 0, false), (52, .iload_n 1, 53, 0, 0, true), (53, .ifCond .eq 129, 56, 182, 0, false), (56, .aload_n 0, 57, 0, 0, false), (57, .iconst 0, 58, 0, 0, false), (58, .invokevirtual 103, 61, 0, 0, false), (61, .istore_n 2, 62, 0, 0, false), (62, .iload_n 2, 63, 0, 0, false), (63, .ifCond .lt 7, 66, 70, 0, false), (66, .iconst 1, 67, 0, 1, false), (67, .goto 4, 70, 71, 0, false), (70, .iconst 0, 71, 0, 0, false), (71, .istore_n 1, 72, 0, 0, false), (72, .iload_n 1, 73, 0, 0, true), (73, .ifCond .eq 106, 76, 179, 0, false), (76, .iconst 1, 77, 0, 1, false), (77, .iload_n 2, 78, 0, 0, false), (78, .ishl, 79, 0, 0, false), (79, .istore_n 3, 80, 0, 0, false), (80, .aload_n 0, 81, 0, 0, false), (81, .getfield 23, 84, 0, 0, false), (84, .iload_n 2, 85, 0, 0, false), (85, .iaload, 86, 0, 0, false), (86, .istore 4, 88, 0, 0, false), (88, .aload_n 0, 89, 0, 0, false), (89, .getfield 23, 92, 0, 0, false), (92, .iload_n 2, 93, 0, 0, false), (93, .iconst 0, 94, 0, 0, false), (94, .iastore, 95, 0, 0, false), (95, .iconst 0, 96, 0, 0, false), (96, .istore 5, 98, 0, 0, false), (98, .iload 5, 100, 0, 0, true), (100, .iload 4, 102, 0, 0, false), (102, .if_icmp .ge 77, 105, 179, 0, false), (105, .aload_n 0, 106, 0, 0, false), (106, .iload_n 3, 107, 0, 0, false), (107, .invokevirtual 103, 110, 0, 0, false), (110, .istore 6, 112, 0, 0, false), (112, .iload 6, 114, 0, 0, false), (114, .ifCond .ge 5, 117, 119, 0, false), (117, .iconst 0, 118, 0, 0, false), (118, .ireturn, 119, 0, 0, false), (119, .iload_n 3, 120, 0, 0, false), (120, .iconst 1, 121, 0, 1, false), (121, .iload 6, 123, 0, 0, false), (123, .ishl, 124, 0, 0, false), (124, .ior, 125, 0, 0, false), (125, .istore_n 3, 126, 0, 0, false), (126, .aload_n 0, 127, 0, 0, false), (127, .getfield 23, 130, 0, 0, false), (130, .iload 6, 132, 0, 0, false), (132, .dup2, 133, 0, 0, false), (133, .iaload, 134, 0, 0, false), (134, .iconst 1, 135, 0, 1, false), (135, .isub, 136, 0, 0, false), (136, .iastore, 137, 0, 0, false), (137, .aload_n 0, 138, 0, 0, false), (138, .getfield 29, 141, 0, 0, false), (141, .iload_n 2, 142, 0, 0, false), (142, .dup2, 143, 0, 0, false), (143, .iaload, 144, 0, 0, false), (144, .iconst 1, 145, 0, 1, false), (145, .iload 6, 147, 0, 0, false), (147, .ishl, 148, 0, 0, false), (148, .ior, 149, 0, 0, false), (149, .iastore, 150, 0, 0, false), (150, .aload_n 0, 151, 0, 0, false), (151, .getfield 29, 154, 0, 0, false), (154, .iload 6, 156, 0, 0, false), (156, .dup2, 157, 0, 0, false), (157, .iaload, 158, 0, 0, false), (158, .iconst 1, 159, 0, 1, false), (159, .iload_n 2, 160, 0, 0, false), (160, .ishl, 161, 0, 0, false), (161, .ior, 162, 0, 0, false), (162, .iastore, 163, 0, 0, false), (163, .aload_n 0, 164, 0, 0, false), (164, .dup, 165, 0, 0, false), (165, .getfield 100, 168, 0, 0, false), (168, .iconst 1, 169, 0, 1, false), (169, .iadd, 170, 0, 0, false), (170, .putfield 100, 173, 0, 0, false), (173, .iinc 5 1, 176, 0, 1, false), (176, .goto (-78), 179, 98, 0, false), (179, .goto (-127), 182, 52, 0, false), (182, .iconst 1, 183, 0, 1, false), (183, .ireturn, 184, 0, 0, false)]
theorem ok2_M_tries : k2_M_tries.all (m_ok b_M_tries 7) = true := by decide +kernel
set_option maxHeartbeats 4000000 in
set_option maxRecDepth 20000 in
theorem c_M_tries : m_Con cls 1 TB y_M_tries b_M_tries 7 (some .boolean) 1 1 tM_tries := by
  refine m_con (code := k2_M_tries) (fld := f_M) (fpt := p_M) (kon := []) (call := [(103, false, 2, tM_most)]) (C := R_M) (T := T_M) (N := 13) (by decide) (Or.inr (Or.inl ⟨rfl, rfl⟩)) ok2_M_tries tb_M (fun l D cA ad => m_calls ?_) ?_ ?_
  · exact List.forall_mem_cons.mpr ⟨o_M103 ⟨Nat.le_of_ble_eq_true rfl, Nat.le_of_ble_eq_true rfl⟩, fun _ h => absurd h List.not_mem_nil⟩
  · rintro as h k ⟨n, j, c, b, q, g, l, x0, x1, x2, kp, md, mg, γ, rfl, hq, hg, hg20, rfl, hk1, hk2⟩
    exact Nat.le_of_ble_eq_true rfl
  · rintro as h k ⟨n, j, c, b, q, g, l, x0, x1, x2, kp, md, mg, γ, rfl, hq, hg, hg20, rfl, hk1, hk2⟩ V hV
    have h12 := p12 hq
    generalize hR0 : mkr q q γ (fun _ => 0) = RR at hk1 hk2
    have lp : ∀ r ω μ l mg e (y2 y3 y4 y5 y6 : Option mV), nz q ω ≤ r → mkI q ω μ → hR q l ω → hR q mg μ → 2 * e = mt q μ → mkr q r ω μ = RR → V (52, [some (.inr 0), some (.inl (b2i true)), y2, y3, y4, y5, y6], [], mkM n j (zT c b q g l x0 x1 x2 kp (nI e) mg)) := by
      intro r
      have none_case : ∀ ω μ l mg e (y2 y3 y4 y5 y6 : Option mV), mkI q ω μ → hR q l ω → hR q mg μ → 2 * e = mt q μ → wm ω 0 q = none → some (ω, μ) = RR → V (52, [some (.inr 0), some (.inl (b2i true)), y2, y3, y4, y5, y6], [], mkM n j (zT c b q g l x0 x1 x2 kp (nI e) mg)) := by
        intro ω μ l mg e y2 y3 y4 y5 y6 hI hl hm he hw hr
        refine hV 80 52 _ _ _ (br_eq (b := true) (fun c => by cases c) (fun _ => ⟨n, j, c, b, q, g, l, _, ω, 0, rfl, hq, fun v hv => ⟨hl v hv, hI.2.1 v hv⟩, rfl, by omega, ?_⟩))
        rw [hw]
        refine And.intro (fun _ => ?_) (fun c => absurd (show (-1 : Int32) < 0 by decide) c)
        refine hV 80 72 _ _ _ (br_eq (b := false) (fun _ => ?_) (fun c => by cases c))
        refine hV 80 52 _ _ _ (br_eq (b := false) (fun _ => And.intro (Or.inr rfl) ?_) (fun c => by cases c))
        exact hk2 _ hr.symm _ e _ hm he
      induction r with
      | zero =>
        intro ω μ l mg e y2 y3 y4 y5 y6 hz hI hl hm he hr
        exact none_case ω μ l mg e _ _ _ _ _ hI hl hm he (nz_0 (by omega)) hr
      | succ r ih =>
        intro ω μ l mg e y2 y3 y4 y5 y6 hz hI hl hm he hr
        cases hw : wm ω 0 q with
        | none =>
          rw [mkr_none hw] at hr
          exact none_case ω μ l mg e _ _ _ _ _ hI hl hm he hw hr
        | some v =>
          obtain ⟨hv, hpos, hsv⟩ := sv_begin hI hw
          rw [mkr, hw] at hr
          dsimp only at hr
          have hv20 := hI.2.1 v hv
          have hcv : (nI v).toNatClampNeg = v := nI_clamp (by omega)
          have serve : ∀ m t P ω' μ' l mg e (y6 : Option mV), t + m = ω v → P < 2 ^ q → svI q v P ω' μ' → hR q l ω' → hR q mg μ' → 2 * e = mt q μ' → sv q m v ω' μ' P = sv q (ω v) v (up ω v 0) μ (2 ^ v) → V (98, [some (.inr 0), some (.inl (b2i true)), some (.inl (nI v)), some (.inl (nI P)), some (.inl (nI (ω v))), some (.inl (nI t)), y6], [], mkM n j (zT c b q g l x0 x1 x2 kp (nI e) mg)) := by
            intro m
            induction m with
            | zero =>
              intro t P ω' μ' l mg e y6 ht hP hI' hl hm he hs
              refine hV 80 98 _ _ _ (br_ge (a := t) (b := ω v) (by omega) (by omega) (fun _ => ?_) (fun c => absurd c (by omega)))
              rw [sv] at hs
              rw [← hs] at hr
              have hk := (sv_mk hsv hs.symm).2.2
              exact ih ω' μ' l mg e _ _ _ _ _ (by have := nz_lt (ω' := ω') hv hpos hk; omega) (svI_mk hI') hl hm he hr
            | succ m ih2 =>
              intro t P ω' μ' l mg e y6 ht hP hI' hl hm he hs
              refine hV 80 98 _ _ _ (br_ge (a := t) (b := ω v) (by omega) (by omega) (fun c => absurd c (by omega)) (fun _ => ⟨n, j, c, b, q, g, l, _, ω', P, rfl, hq, fun u hu => ⟨hl u hu, hI'.2.2.2.2.1 u hu⟩, rfl, by omega, ?_⟩))
              rw [sv] at hs
              cases hu : wm ω' P q with
              | none =>
                rw [hu] at hs
                rw [← hs] at hr
                exact And.intro (fun c => absurd c (by decide)) (fun _ => And.intro (Or.inl rfl) (hk1 hr.symm _ _ _))
              | some u =>
                rw [hu] at hs
                obtain ⟨b1, b2, b3, b4, b5⟩ := sv_step hI' hu
                have hcu : (nI u).toNatClampNeg = u := nI_clamp (by omega)
                have hu20 := hI'.2.2.2.2.1 u b1
                rw [show oI (some u) = nI u from rfl]
                refine And.intro (fun _ => nm_r (nx_shl u (by omega)) (nm_r (nx_or _ _) ?_)) (fun c => absurd (nI_pos' (by omega)) c)
                refine And.intro (vp_in_nI (by omega) (by omega)) (nm_r (e' := nI (ω' u)) (by rw [hcu]; exact hl u b1) (nm_r (pk_sub (b := 1) b3) (And.intro (vp_in_nI (by omega) (by omega)) ?_)))
                refine And.intro (vp_in_nI (by omega) (by omega)) (nm_r (e' := nI (μ' v)) (by rw [hcv]; exact hm v hv) (nm_r (nx_shl u (by omega)) (nm_r (nx_or _ _) (And.intro (vp_in_nI (by omega) (by omega)) ?_))))
                refine And.intro (vp_in_nI (by omega) (by omega)) (nm_r (e' := nI (μ' u)) (by rw [hcu, hcv]; exact (upd_n b2).trans (hm u b1)) (nm_r (nx_shl v (by omega)) (nm_r (nx_or _ _) (And.intro (vp_in_nI (by omega) (by omega)) (nm_r (nI_1 e) (nm_r (nI_1 t) ?_))))))
                have hmt := mt_ju hI'.1 hv b1 b2 b4
                have := ih2 (t + 1) (P ||| 2 ^ u) (up ω' u (ω' u - 1)) (ju μ' v u) (upd l u (nI (ω' u - 1))) (upd (upd mg v (nI (μ' v ||| 2 ^ u))) u (nI (μ' u ||| 2 ^ v))) (e + 1) (some (.inl (nI u))) (by omega) (Nat.or_lt_two_pow hP (Nat.pow_lt_pow_right (by decide) b1)) b5 (fun x hx => by
                  by_cases e : x = u
                  · rw [e, upd_u, up_s]
                  · rw [upd_n e, up_n _ _ _ e]; exact hl x hx) (hR_ju hm b2) (by omega) hs
                show V (98, [some (.inr 0), some (.inl (b2i true)), some (.inl (nI v)), some (.inl (nI (P ||| 2 ^ u))), some (.inl (nI (ω v))), some (.inl (nI (t + 1))), some (.inl (nI u))], [], mkM n j (zT c b q g (upd l (nI u).toNatClampNeg (nI (ω' u - 1))) x0 x1 x2 kp (nI (e + 1)) (upd (upd mg (nI v).toNatClampNeg (nI (μ' v ||| 2 ^ u))) (nI u).toNatClampNeg (nI (μ' u ||| 2 ^ v)))))
                rw [hcv, hcu]
                exact this
          refine hV 80 52 _ _ _ (br_eq (b := true) (fun c => by cases c) (fun _ => ⟨n, j, c, b, q, g, l, _, ω, 0, rfl, hq, fun v hv => ⟨hl v hv, hI.2.1 v hv⟩, rfl, by omega, ?_⟩))
          rw [hw, show oI (some v) = nI v from rfl]
          refine And.intro (fun c => absurd c (nI_pos (by omega))) (fun _ => ?_)
          refine hV 80 72 _ _ _ (br_eq (b := true) (fun c => by cases c) (fun _ => nm_r (nx_shl v (by omega)) (And.intro (vp_in_nI (by omega) (by omega)) (nm_r (e' := nI (ω v)) (by rw [hcv]; exact hl v hv) (And.intro (vp_in_nI (by omega) (by omega)) ?_)))))
          show V (98, [some (.inr 0), some (.inl (b2i true)), some (.inl (nI v)), some (.inl (nI (2 ^ v))), some (.inl (nI (ω v))), some (.inl (nI 0)), y6], [], mkM n j (zT c b q g (upd l (nI v).toNatClampNeg 0) x0 x1 x2 kp (nI e) mg))
          rw [hcv]
          refine serve (ω v) 0 (2 ^ v) (up ω v 0) μ _ mg e _ (by omega) (Nat.pow_lt_pow_right (by decide) hv) hsv (fun x hx => ?_) hm he rfl
          by_cases e : x = v
          · rw [e, upd_u, up_s]; rfl
          · rw [upd_n e, up_n _ _ _ e]; exact hl x hx
    have ini : ∀ m i l mg, i + m = 12 → (∀ v, v < i → v < q → l v = nI (γ v)) → (∀ v, v < i → mg v = 0) → V (7, [some (.inr 0), some (.inl (nI i)), none, none, none, none, none], [], mkM n j (zT c b q g l x0 x1 x2 kp 0 mg)) := by
      intro m
      induction m with
      | zero =>
        intro i l mg hi hl hm
        have e : i = 12 := by omega
        subst e
        refine hV 80 7 _ _ _ (br_ge (a := 12) (b := 12) (by omega) (by omega) (fun _ => ?_) (fun c => absurd c (by omega)))
        exact lp q γ (fun _ => 0) l mg 0 _ _ _ _ _ (cn_n _ _) (mk_0 hq hg20) (fun v hv => hl v (by omega) hv) (fun v hv => hm v (by omega)) (by
          show 2 * 0 = sm _ q
          rw [sm_zero' (fun v _ => pop_0)]) hR0
      | succ m ih =>
        intro i l mg hi hl hm
        have ei : (nI i).toNatClampNeg = i := nI_clamp (by omega)
        have go : ∀ w : Int32, (i < q → w = nI (γ i)) → V (7, [some (.inr 0), some (.inl (nI (i + 1))), none, none, none, none, none], [], mkM n j (zT c b q g (upd l (nI i).toNatClampNeg w) x0 x1 x2 kp 0 (upd mg (nI i).toNatClampNeg 0))) := by
          intro w hw
          rw [ei]
          refine ih (i + 1) _ _ (by omega) (fun v hv hvq => ?_) (fun v hv => ?_)
          · by_cases e : v = i
            · rw [e, upd_u, hw (by omega)]
            · rw [upd_n e]; exact hl v (by omega) hvq
          · by_cases e : v = i
            · rw [e, upd_u]
            · rw [upd_n e]; exact hm v (by omega)
        refine hV 80 7 _ _ _ (br_ge (a := i) (b := 12) (by omega) (by omega) (fun c => absurd c (by omega)) (fun _ => And.intro (vp_in_nI (by omega) (by omega)) (br_ge (a := i) (b := q) (by omega) (by omega) (fun c2 => And.intro (vp_in_nI (by omega) (by omega)) (nm_r (nI_1 i) (go 0 (fun h => by omega)))) (fun c2 => And.intro (vp_in_nI (by omega) (by omega)) (nm_r (e' := nI (γ i)) (by rw [ei]; exact hg i c2) (And.intro (vp_in_nI (by omega) (by omega)) (nm_r (nI_1 i) (go _ (fun _ => rfl)))))))))
    exact hV 80 0 _ _ _ (ini 12 0 l mg (by omega) (fun v hv => by omega) (fun v hv => by omega))
theorem o_M106 {D : va_G} {cA : ClassId} {ad : Nat → Nat} {l : Launch} {R : Room} (hR : 1 + 1 ≤ R.frames ∧ 32 * (1 + 1) ≤ R.locals) : m_OK D cls cA 1 ad TB l "DegreeCoresModel" R 106 false (0 + 1) tM_tries :=
  m_okV (C := R_M) (Tu := T_M) (N := 13) rfl c_M_tries (by decide) tb_good w_M106 ⟨rfl, by decide +kernel, by decide +kernel, by decide +kernel⟩ (by decide) hR (by rintro as h k ⟨n, j, c, b, q, g, l, x0, x1, x2, kp, md, mg, γ, rfl, hq, hg, hg20, rfl, hk1, hk2⟩; exact ⟨0, _, _, rfl, rfl⟩)
def tM_graphic : mT := fun as h k => ∃ n j c b q g l x0 x1 x2 kp md mg γ, h = mkM n j (zT c b q g l x0 x1 x2 kp md mg) ∧ q ≤ 12 ∧ hR q g γ ∧ (∀ v, v < q → γ v ≤ 20) ∧ as = [.inr 0] ∧ ∀ l' md' mg', k (some (b2i (mkr q q γ (fun _ => 0)).isSome)) (mkM n j (zT c b q g l' x0 x1 x2 kp md' mg'))
set_option maxHeartbeats 4000000 in
set_option maxRecDepth 20000 in
theorem c_M_graphic : m_Con cls 1 TB y_M_graphic b_M_graphic 1 (some .int) 0 2 tM_graphic := by
  refine m_con (code := k_M_graphic) (fld := f_M) (fpt := p_M) (kon := []) (call := [(106, false, 1, tM_tries)]) (C := R_M) (T := T_M) (N := 13) (by decide) (Or.inl ⟨rfl, rfl⟩) ok_M_graphic tb_M (fun l D cA ad => m_calls ?_) ?_ ?_
  · exact List.forall_mem_cons.mpr ⟨o_M106 ⟨Nat.le_of_ble_eq_true rfl, Nat.le_of_ble_eq_true rfl⟩, fun _ h => absurd h List.not_mem_nil⟩
  · rintro as h k ⟨n, j, c, b, q, g, l, x0, x1, x2, kp, md, mg, γ, rfl, hq, hg, hg20, rfl, hk⟩
    exact Nat.le_of_ble_eq_true rfl
  · rintro as h k ⟨n, j, c, b, q, g, l, x0, x1, x2, kp, md, mg, γ, rfl, hq, hg, hg20, rfl, hk⟩ V hV
    refine hV 80 0 _ _ _ ⟨n, j, c, b, q, g, l, x0, x1, x2, kp, md, mg, γ, rfl, hq, hg, hg20, rfl, fun e l' md' mg' => ?_, fun s e l' e1 mg' _ _ => ?_⟩
    · rw [e] at hk
      exact And.intro (fun _ => hk l' md' mg') (fun c => absurd rfl c)
    · rw [e] at hk
      exact And.intro (fun c => absurd c (by decide)) (fun _ => hk l' _ mg')
theorem e1_mt {q : Nat} {μ : Nat → Nat} (hG : Gr q μ) : 2 * e1 q μ (2 ^ q - 1) = mt q μ := by
  rw [← e2_e1 hG]
  refine sm_congr (fun v hv => ?_)
  rw [tb_all, decide_eq_true hv]
  show dg μ (2 ^ q - 1) v = pop (μ v)
  rw [dg_n hG hv, pop_n (hG.2.1 v hv) hG.1]
  exact cn_congr (fun u hu => by rw [tb_all]; simp [hu])
def tM_make : mT := fun as h k => ∃ n j c b q g l x0 x1 x2 kp md mg γ, h = mkM n j (zT c b q g l x0 x1 x2 kp md mg) ∧ q ≤ 12 ∧ hR q g γ ∧ (∀ v, v < q → γ v ≤ 20) ∧ as = [.inr 0] ∧
  (mkr q q γ (fun _ => 0) = none → ∀ l' md' mg', k (some (-3)) (mkM n j (zT c b q g l' x0 x1 x2 kp md' mg'))) ∧ (∀ s, mkr q q γ (fun _ => 0) = some s → ∀ j' l' md' mg', hR q j' s.2 → k (some (nI (e1 q s.2 (2 ^ q - 1)))) (mkM (nI q) j' (zT c 1 q g l' x0 x1 x2 kp md' mg')))
set_option maxHeartbeats 4000000 in
set_option maxRecDepth 20000 in
theorem c_M_make : m_Con cls 1 TB y_M_make b_M_make 2 (some .int) 0 2 tM_make := by
  refine m_con (code := k_M_make) (fld := f_M) (fpt := p_M) (kon := []) (call := [(106, false, 1, tM_tries)]) (C := R_M) (T := T_M) (N := 13) (by decide) (Or.inl ⟨rfl, rfl⟩) ok_M_make tb_M (fun l D cA ad => m_calls ?_) ?_ ?_
  · exact List.forall_mem_cons.mpr ⟨o_M106 ⟨Nat.le_of_ble_eq_true rfl, Nat.le_of_ble_eq_true rfl⟩, fun _ h => absurd h List.not_mem_nil⟩
  · rintro as h k ⟨n, j, c, b, q, g, l, x0, x1, x2, kp, md, mg, γ, rfl, hq, hg, hg20, rfl, hk1, hk2⟩
    exact Nat.le_of_ble_eq_true rfl
  · rintro as h k ⟨n, j, c, b, q, g, l, x0, x1, x2, kp, md, mg, γ, rfl, hq, hg, hg20, rfl, hk1, hk2⟩ V hV
    refine hV 80 0 _ _ _ ⟨n, j, c, b, q, g, l, x0, x1, x2, kp, md, mg, γ, rfl, hq, hg, hg20, rfl, fun e l' md' mg' => ?_, fun s e l' e1v mg' hm he => ?_⟩
    · exact And.intro (fun c => absurd rfl c) (fun _ => hk1 e l' md' mg')
    · refine And.intro (fun _ => ?_) (fun c => absurd c (by decide))
      have hG := (mkr_mk q (mk_0 hq hg20) e).1
      have h1 := e1_mt hG
      have ee : e1v = e1 q s.2 (2 ^ q - 1) := by omega
      have loop : ∀ m i j, i + m = q → hR i j s.2 → V (20, [some (.inr 0), some (.inl (nI i))], [], mkM (nI q) j (zT c b q g l' x0 x1 x2 kp (nI e1v) mg')) := by
        intro m
        induction m with
        | zero =>
          intro i j hi hj
          have e0 : i = q := by omega
          subst e0
          refine hV 80 20 _ _ _ (br_ge (a := i) (b := i) (by omega) (by omega) (fun _ => And.intro (Or.inr rfl) ?_) (fun c => absurd c (by omega)))
          rw [ee]
          exact hk2 s e j l' _ mg' hj
        | succ m ih =>
          intro i j hi hj
          have ei : (nI i).toNatClampNeg = i := nI_clamp (by omega)
          refine hV 80 20 _ _ _ (br_ge (a := i) (b := q) (by omega) (by omega) (fun c => absurd c (by omega)) (fun _ => And.intro (vp_in_nI (by omega) (by omega)) (nm_r (e' := nI (s.2 i)) (by rw [ei]; exact hm i (by omega)) (And.intro (vp_in_nI (by omega) (by omega)) (nm_r (nI_1 i) ?_)))))
          refine ih (i + 1) _ (by omega) (fun v hv => ?_)
          show upd j (nI i).toNatClampNeg (nI (s.2 i)) v = nI (s.2 v)
          rw [ei]
          by_cases e0 : v = i
          · rw [e0, upd_u]
          · rw [upd_n e0]; exact hj v (by omega)
      exact loop q 0 j (by omega) (fun v hv => by omega)
end
section
/-! the object and the reference side by side: call by call they answer alike -/
def Lsm (hc hm : mH) : Prop := ∃ n f q g j r t d w jm c bb gm l x0 x1 x2 kp md mg, hc = mkC j (nI n) r (nI q) t d w ∧ hm = mkM (nI n) jm (zT c bb q gm l x0 x1 x2 kp md mg) ∧ (∀ v, v < n → j v = nI (f v)) ∧ (∀ v, v < n → jm v = nI (f v)) ∧ Gr n f ∧ cv n f c bb ∧ q ≤ 12 ∧ hR q r g ∧ hR q gm g ∧ ∀ v, v < q → g v ≤ 20
theorem Lsm_mk {n : Nat} {f : Nat → Nat} {q : Nat} {g : Nat → Nat} {j r jm gm : Nat → Int32} (hj : ∀ v, v < n → j v = nI (f v)) (hjm : ∀ v, v < n → jm v = nI (f v)) (hG : Gr n f) (hq : q ≤ 12) (hr : hR q r g) (hgm : hR q gm g) (hg : ∀ v, v < q → g v ≤ 20) (t d w c : Nat → Int32) (bb : Int32) (l : Nat → Int32) (x0 x1 x2 : Int32) (kp : Nat → Int32) (md : Int32) (mg : Nat → Int32) (hcv : cv n f c bb) : Lsm (mkC j (nI n) r (nI q) t d w) (mkM (nI n) jm (zT c bb q gm l x0 x1 x2 kp md mg)) :=
  ⟨n, f, q, g, j, r, t, d, w, jm, c, bb, gm, l, x0, x1, x2, kp, md, mg, rfl, rfl, hj, hjm, hG, hcv, hq, hr, hgm, hg⟩
theorem Lsm_0 : Lsm (mkC (fun _ => 0) 0 (fun _ => 0) 0 (fun _ => 0) (fun _ => 0) (fun _ => 0)) (mkM 0 (fun _ => 0) (zT (fun _ => 0) 1 0 (fun _ => 0) (fun _ => 0) 0 0 0 (fun _ => 0) 0 (fun _ => 0))) :=
  Lsm_mk (n := 0) (f := fun _ => 0) (q := 0) (g := fun _ => 0) (fun v hv => by omega) (fun v hv => by omega) (gr_z (by omega)) (by omega) (fun v hv => by omega) (fun v hv => by omega) (fun v hv => by omega) _ _ _ _ _ _ _ _ _ _ _ _ (fun h => absurd h (by decide))
def sim (TC TM : mT) (as : List mV) : Prop := ∀ hc hm, Lsm hc hm → TC (.inr 0 :: as) hc (fun r hc' => TM (.inr 0 :: as) hm (fun r' hm' => r' = r ∧ Lsm hc' hm'))
theorem Lsm_cm {hc hm : mH} (h : Lsm hc hm) : ∃ n f, hC hc n f ∧ hM hm n f := by
  obtain ⟨n, f, q, g, j, r, t, d, w, jm, c, bb, gm, l, x0, x1, x2, kp, md, mg, rfl, rfl, hj, hjm, hG, hcv, hq, hr, hgm, hg⟩ := h
  exact ⟨n, f, ⟨j, r, _, t, d, w, rfl, hj, hG⟩, ⟨jm, _, rfl, hjm, hG⟩⟩
theorem gr_node {n : Nat} {f : Nat → Nat} (hG : Gr n f) (hn : n < 12) : Gr (n + 1) (up f n 0) := by
  obtain ⟨h1, h2, h3, h4⟩ := hG
  have hp : 2 ^ n < 2 ^ (n + 1) := Nat.pow_lt_pow_right (by decide) (Nat.lt_succ_self n)
  refine ⟨by omega, fun v hv => ?_, fun v hv => ?_, fun u v hu hv => ?_⟩
  · by_cases e : v = n
    · rw [e, up_s]; omega
    · rw [up_n _ _ _ e]; exact Nat.lt_trans (h2 v (by omega)) hp
  · by_cases e : v = n
    · rw [e, up_s]; simp
    · rw [up_n _ _ _ e]; exact h3 v (by omega)
  · by_cases e : u = n
    · rw [e, up_s]
      by_cases e2 : v = n
      · rw [e2, up_s]
      · rw [up_n _ _ _ e2, tb_hi (h2 v (by omega)) (Nat.le_refl n)]; simp
    · rw [up_n _ _ _ e]
      by_cases e2 : v = n
      · rw [e2, up_s, tb_hi (h2 u (by omega)) (Nat.le_refl n)]; simp
      · rw [up_n _ _ _ e2]; exact h4 u v (by omega) (by omega)
theorem gr_join {n : Nat} {f : Nat → Nat} (hG : Gr n f) {u v : Nat} (hu : u < n) (hv : v < n) (huv : u ≠ v) : Gr n (up (up f u (tg (f u) v)) v (tg (f v) u)) := by
  obtain ⟨h1, h2, h3, h4⟩ := hG
  have hvu : v ≠ u := fun z => huv z.symm
  have tb : ∀ x i, (up (up f u (tg (f u) v)) v (tg (f v) u) x).testBit i = ((f x).testBit i ^^ ((decide (x = u) && decide (v = i)) || (decide (x = v) && decide (u = i)))) := by
    intro x i
    by_cases e : x = v
    · rw [e, up_s, tb_tg]; simp [hvu]
    · rw [up_n _ _ _ e]
      by_cases e2 : x = u
      · rw [e2, up_s, tb_tg]; simp [huv]
      · rw [up_n _ _ _ e2]; simp [e, e2]
  refine ⟨h1, fun x hx => ?_, fun x hx => ?_, fun x y hx hy => ?_⟩
  · by_cases e : x = v
    · rw [e, up_s]; exact tg_lt (h2 v hv) hu
    · rw [up_n _ _ _ e]
      by_cases e2 : x = u
      · rw [e2, up_s]; exact tg_lt (h2 u hu) hv
      · rw [up_n _ _ _ e2]; exact h2 x hx
  · rw [tb, h3 x hx]
    by_cases e : x = u
    · subst e; simp [hvu, huv]
    · by_cases e2 : x = v
      · subst e2; simp [e, huv]
      · simp [e, e2]
  · rw [tb, tb, h4 x y hx hy]
    congr 1
    rw [Bool.or_comm, Bool.and_comm (decide (x = v)), Bool.and_comm (decide (x = u))]
    simp only [eq_comm]
theorem sim_node : sim tC_node tM_node [] := by
  intro hc hm h
  obtain ⟨n, f, q, g, j, r, t, d, w, jm, c, bb, gm, l, x0, x1, x2, kp, md, mg, rfl, rfl, hj, hjm, hG, hcv, hq, hr, hgm, hg⟩ := id h
  refine ⟨j, n, f, r, _, t, d, w, rfl, hj, hG, rfl, fun e => ⟨jm, n, f, _, rfl, hjm, hG, rfl, fun _ => ⟨rfl, h⟩, fun e' => absurd e (by omega)⟩, fun e => ⟨jm, n, f, _, rfl, hjm, hG, rfl, fun e' => absurd e' (by omega), fun _ => ⟨rfl, ?_⟩⟩⟩
  have key : ∀ j : Nat → Int32, (∀ v, v < n → j v = nI (f v)) → ∀ v, v < n + 1 → upd j n 0 v = nI (up f n 0 v) := fun j hj v hv => by
    by_cases e : v = n
    · rw [e, upd_u, up_s]; rfl
    · rw [upd_n e, up_n _ _ _ e]; exact hj v (by omega)
  exact Lsm_mk (key j hj) (key jm hjm) (gr_node hG e) hq hr hgm hg t d w c 1 l x0 x1 x2 kp md mg (fun h => absurd h (by decide))
theorem sim_join (x y : Int32) (b : Bool) : sim tC_join tM_join [.inl x, .inl y, .inl (b2i b)] := by
  intro hc hm h
  obtain ⟨n, f, q, g, j, r, t, d, w, jm, c, bb, gm, l, x0, x1, x2, kp, md, mg, rfl, rfl, hj, hjm, hG, hcv, hq, hr, hgm, hg⟩ := id h
  have hn := hG.1
  refine ⟨j, n, f, r, _, t, d, w, x, y, b, rfl, hj, hG, rfl, fun e => ⟨jm, n, f, _, x, y, b, rfl, hjm, hG, rfl, fun _ => ⟨rfl, h⟩, fun u v hu hv huv hx hy => ?_⟩, fun u v hu hv huv hx hy => ⟨fun e => ⟨jm, n, f, _, x, y, b, rfl, hjm, hG, rfl, fun e' => ?_, fun u' v' hu' hv' huv' hx' hy' => ?_⟩, fun e => ⟨jm, n, f, _, x, y, b, rfl, hjm, hG, rfl, fun e' => ?_, fun u' v' hu' hv' huv' hx' hy' => ?_⟩⟩⟩
  · exfalso
    have : two n x y = true := by
      rw [hx, hy]
      have : ¬ nI u = nI v := fun z => huv ((nI_eq (by omega) (by omega)).mp z)
      simp [two, isN_n hn hu, isN_n hn hv, this]
    rw [this] at e; cases e
  · exfalso
    have : two n x y = true := by
      rw [hx, hy]
      have : ¬ nI u = nI v := fun z => huv ((nI_eq (by omega) (by omega)).mp z)
      simp [two, isN_n hn hu, isN_n hn hv, this]
    rw [this] at e'; cases e'
  · have e1 : u' = u := (nI_eq (by omega) (by omega)).mp (hx'.symm.trans hx)
    have e2 : v' = v := (nI_eq (by omega) (by omega)).mp (hy'.symm.trans hy)
    subst e1; subst e2
    exact ⟨fun _ => ⟨rfl, h⟩, fun z => absurd e z⟩
  · exfalso
    have : two n x y = true := by
      rw [hx, hy]
      have : ¬ nI u = nI v := fun z => huv ((nI_eq (by omega) (by omega)).mp z)
      simp [two, isN_n hn hu, isN_n hn hv, this]
    rw [this] at e'; cases e'
  · have e1 : u' = u := (nI_eq (by omega) (by omega)).mp (hx'.symm.trans hx)
    have e2 : v' = v := (nI_eq (by omega) (by omega)).mp (hy'.symm.trans hy)
    subst e1; subst e2
    refine ⟨fun z => absurd z e, fun _ => ⟨rfl, ?_⟩⟩
    have key : ∀ j : Nat → Int32, (∀ v, v < n → j v = nI (f v)) → ∀ x, x < n → upd (upd j u' (nI (tg (f u') v'))) v' (nI (tg (f v') u')) x = nI (up (up f u' (tg (f u') v')) v' (tg (f v') u') x) := fun j hj x hx => by
      by_cases e1 : x = v'
      · rw [e1, upd_u, up_s]
      · rw [upd_n e1, up_n _ _ _ e1]
        by_cases e2 : x = u'
        · rw [e2, upd_u, up_s]
        · rw [upd_n e2, up_n _ _ _ e2]; exact hj x hx
    exact Lsm_mk (key j hj) (key jm hjm) (gr_join hG hu hv huv) hq hr hgm hg t d w c 1 l x0 x1 x2 kp md mg (fun h => absurd h (by decide))
theorem sim_joined (x y : Int32) : sim tC_joined tM_joined [.inl x, .inl y] := by
  intro hc hm h
  obtain ⟨n, f, h1, h2⟩ := Lsm_cm h
  exact ⟨n, f, x, y, h1, rfl, n, f, x, y, h2, rfl, rfl, h⟩
theorem sim_clear : sim tC_clear tM_clear [] := by
  intro hc hm h
  obtain ⟨n, f, q, g, j, r, t, d, w, jm, c, bb, gm, l, x0, x1, x2, kp, md, mg, rfl, rfl, hj, hjm, hG, hcv, hq, hr, hgm, hg⟩ := id h
  exact ⟨j, n, f, r, _, t, d, w, rfl, hj, hG, rfl, jm, n, f, _, rfl, hjm, hG, rfl, rfl, Lsm_mk (n := 0) (f := fun _ => 0) (fun v hv => by omega) (fun v hv => by omega) (gr_z (by omega)) hq hr hgm hg t d w c 1 l x0 x1 x2 kp md mg (fun h => absurd h (by decide))⟩
theorem sim_degree (x : Int32) : sim tC_degree tM_degree [.inl x] := by
  intro hc hm h
  obtain ⟨n, f, h1, h2⟩ := Lsm_cm h
  exact ⟨n, f, x, h1, rfl, n, f, x, h2, rfl, rfl, h⟩
theorem one_core {n : Nat} {f : Nat → Nat} (hG : Gr n f) {x r r' : Int32} (h : aCore n f x r) (h' : aCore n f x r') : r' = r := by
  have hn := hG.1
  rcases h with ⟨a, b⟩ | ⟨v, c, hv, rfl, h1, h2⟩
  · rcases h' with ⟨a', b'⟩ | ⟨v, c, hv, rfl, h1, h2⟩
    · rw [b, b']
    · rw [isN_n hn hv] at a; cases a
  · rcases h' with ⟨a', b'⟩ | ⟨v', c', hv', e, h1', h2'⟩
    · rw [isN_n hn hv] at a'; cases a'
    · have e : v = v' := (nI_eq (by omega) (by omega)).mp e
      subst e
      rw [h2, h2', cn_one hG h1 h1']
theorem one_lay {n : Nat} {f : Nat → Nat} (hG : Gr n f) {x r r' : Int32} (h : aLay n f x r) (h' : aLay n f x r') : r' = r := by
  have hn := hG.1
  rcases h with ⟨a, b⟩ | ⟨v, c, hv, rfl, h1, h2⟩
  · rcases h' with ⟨a', b'⟩ | ⟨v, c, hv, rfl, h1, h2⟩
    · rw [b, b']
    · rw [isN_n hn hv] at a; cases a
  · rcases h' with ⟨a', b'⟩ | ⟨v', c', hv', e, h1', h2'⟩
    · rw [isN_n hn hv] at a'; cases a'
    · have e : v = v' := (nI_eq (by omega) (by omega)).mp e
      subst e
      rw [h2, h2', ly_one h1 h1']
theorem one_tr {n : Nat} {f : Nat → Nat} (hG : Gr n f) {x y r r' : Int32} (h : aTr n f x y r) (h' : aTr n f x y r') : r' = r := by
  have hn := hG.1
  rcases h with ⟨a, b⟩ | ⟨u, v, c, hu, hv, ex, ey, hx, h1, h2⟩
  · rcases h' with ⟨a', b'⟩ | ⟨u, v, c, hu, hv, ex, ey, hx, h1, h2⟩
    · rw [b, b']
    · rw [hx] at a; cases a
  · rcases h' with ⟨a', b'⟩ | ⟨u', v', c', hu', hv', ex', ey', hx', h1', h2'⟩
    · rw [hx] at a'; cases a'
    · have e1 : u = u' := (nI_eq (by omega) (by omega)).mp (ex.symm.trans ex')
      have e2 : v = v' := (nI_eq (by omega) (by omega)).mp (ey.symm.trans ey')
      subst e1; subst e2
      rw [h2, h2', tn_one h1 h1']
theorem one_firm {n : Nat} {f : Nat → Nat} (hG : Gr n f) {x y r r' : Int32} (h : aFirm n f x y r) (h' : aFirm n f x y r') : r' = r := by
  have hn := hG.1
  rcases h with ⟨a, b⟩ | ⟨u, v, c, hu, hv, -, ex, ey, hx, h1, h2⟩
  · rcases h' with ⟨a', b'⟩ | ⟨u, v, c, hu, hv, -, ex, ey, hx, h1, h2⟩
    · rw [b, b']
    · rw [hx] at a; cases a
  · rcases h' with ⟨a', b'⟩ | ⟨u', v', c', hu', hv', -, ex', ey', hx', h1', h2'⟩
    · rw [hx] at a'; cases a'
    · have e1 : u = u' := (nI_eq (by omega) (by omega)).mp (ex.symm.trans ex')
      have e2 : v = v' := (nI_eq (by omega) (by omega)).mp (ey.symm.trans ey')
      subst e1; subst e2
      rw [h2, h2', firm_one h1 h1']
theorem one_cls {n : Nat} {f : Nat → Nat} (hG : Gr n f) {x y r r' : Int32} (h : aCls n f x y r) (h' : aCls n f x y r') : r' = r := by
  have hn := hG.1
  rcases h with ⟨a, b⟩ | ⟨a, a2, b⟩ | ⟨v, K, u, hv, hK, ex, ey, h1, h2⟩
  · rcases h' with ⟨a', b'⟩ | ⟨a', a2', b'⟩ | ⟨v', K', u', hv', hK', ex', ey', h1', h2'⟩
    · rw [b, b']
    · rw [a] at a'; cases a'
    · rw [ex', isN_n hn hv'] at a; cases a
  · rcases h' with ⟨a', b'⟩ | ⟨a', a2', b'⟩ | ⟨v', K', u', hv', hK', ex', ey', h1', h2'⟩
    · rw [a] at a'; cases a'
    · rw [b, b']
    · rw [ey'] at a2; exact absurd a2 (nI_pos hK')
  · rcases h' with ⟨a', b'⟩ | ⟨a', a2', b'⟩ | ⟨v', K', u', hv', hK', ex', ey', h1', h2'⟩
    · rw [ex, isN_n hn hv] at a'; cases a'
    · rw [ey] at a2'; exact absurd a2' (nI_pos hK)
    · have e1 : v = v' := (nI_eq (by omega) (by omega)).mp (ex.symm.trans ex')
      have e2 : K = K' := (nI_eq hK hK').mp (ey.symm.trans ey')
      subst e1; subst e2
      rw [h2, h2', cl_one h1 h1']
theorem one_dst {n : Nat} {f : Nat → Nat} {r r' : Int32} (h : aDst n f r) (h' : aDst n f r') : r' = r := by
  rcases h with ⟨a, b⟩ | ⟨a, S, h1, h2⟩
  · rcases h' with ⟨a', b'⟩ | ⟨a', S', h1', h2'⟩
    · rw [b, b']
    · omega
  · rcases h' with ⟨a', b'⟩ | ⟨a', S', h1', h2'⟩
    · omega
    · rw [h2, h2', den_one h1 h1']
theorem one_den {n : Nat} {f : Nat → Nat} {p r r' : Int32} (h : aDen n f p r) (h' : aDen n f p r') : r' = r := by
  rcases h with ⟨a, b⟩ | ⟨a, a2, b⟩ | ⟨a, a2, S, h1, h2⟩
  · rcases h' with ⟨a', b'⟩ | ⟨a', a2', b'⟩ | ⟨a', a2', S', h1', h2'⟩
    · rw [b, b']
    · rw [a] at a'; cases a'
    · rw [a] at a'; cases a'
  · rcases h' with ⟨a', b'⟩ | ⟨a', a2', b'⟩ | ⟨a', a2', S', h1', h2'⟩
    · rw [a] at a'; cases a'
    · rw [b, b']
    · omega
  · rcases h' with ⟨a', b'⟩ | ⟨a', a2', b'⟩ | ⟨a', a2', S', h1', h2'⟩
    · rw [a] at a'; cases a'
    · omega
    · rw [h2, h2', den_one h1 h1']
theorem hC_gr {h : mH} {n : Nat} {f : Nat → Nat} (hh : hC h n f) : Gr n f := by
  obtain ⟨_, _, _, _, _, _, _, _, hG⟩ := hh
  exact hG
theorem sim_core (x : Int32) : sim tC_core tM_core [.inl x] := by
  intro hc hm h
  obtain ⟨n, f, h1, h2⟩ := Lsm_cm h
  exact ⟨n, f, x, h1, rfl, fun r hr => ⟨n, f, x, h2, rfl, fun r' hr' => ⟨by rw [one_core (hC_gr h1) hr hr'], h⟩⟩⟩
theorem sim_coreSet (x : Int32) : sim tC_coreSet tM_coreSet [.inl x] := by
  intro hc hm h
  obtain ⟨n, f, h1, h2⟩ := Lsm_cm h
  exact ⟨n, f, x, h1, rfl, n, f, x, h2, rfl, rfl, h⟩
theorem sim_peeled (x : Int32) : sim tC_peeled tM_peeled [.inl x] := by
  intro hc hm h
  obtain ⟨n, f, h1, h2⟩ := Lsm_cm h
  exact ⟨n, f, x, h1, rfl, n, f, x, h2, rfl, rfl, h⟩
theorem sim_layer (x : Int32) : sim tC_layer tM_layer [.inl x] := by
  intro hc hm h
  obtain ⟨n, f, h1, h2⟩ := Lsm_cm h
  exact ⟨n, f, x, h1, rfl, fun r hr => ⟨n, f, x, h2, rfl, fun r' hr' => ⟨by rw [one_lay (hC_gr h1) hr hr'], h⟩⟩⟩
theorem sim_triangles : sim tC_triangles tM_triangles [] := by
  intro hc hm h
  obtain ⟨n, f, q, g, j, r, t, d, w, jm, c, bb, gm, l, x0, x1, x2, kp, md, mg, rfl, rfl, hj, hjm, hG, hcv, hq, hr, hgm, hg⟩ := id h
  exact ⟨n, f, ⟨j, r, _, t, d, w, rfl, hj, hG⟩, rfl, n, f, jm, _, rfl, hjm, hG, rfl, fun l3 => ⟨rfl, Lsm_mk hj hjm hG hq hr hgm hg t d w c bb l l3.1 l3.2.1 l3.2.2 kp md mg hcv⟩⟩
theorem sim_triangle (x p : Int32) : sim tC_triangle tM_triangle [.inl x, .inl p] := by
  intro hc hm h
  obtain ⟨n, f, q, g, j, r, t, d, w, jm, c, bb, gm, l, x0, x1, x2, kp, md, mg, rfl, rfl, hj, hjm, hG, hcv, hq, hr, hgm, hg⟩ := id h
  exact ⟨n, f, x, p, ⟨j, r, _, t, d, w, rfl, hj, hG⟩, rfl, n, f, jm, _, x, p, rfl, hjm, hG, rfl, fun l3 => ⟨rfl, Lsm_mk hj hjm hG hq hr hgm hg t d w c bb l l3.1 l3.2.1 l3.2.2 kp md mg hcv⟩⟩
theorem sim_support (x y : Int32) : sim tC_support tM_support [.inl x, .inl y] := by
  intro hc hm h
  obtain ⟨n, f, h1, h2⟩ := Lsm_cm h
  exact ⟨n, f, x, y, h1, rfl, n, f, x, y, h2, rfl, rfl, h⟩
theorem sim_truss (x y : Int32) : sim tC_truss tM_truss [.inl x, .inl y] := by
  intro hc hm h
  obtain ⟨n, f, q, g, j, r, t, d, w, jm, c, bb, gm, l, x0, x1, x2, kp, md, mg, rfl, rfl, hj, hjm, hG, hcv, hq, hr, hgm, hg⟩ := id h
  exact ⟨j, n, f, r, _, t, d, w, x, y, rfl, hj, hG, rfl, fun t' rr hrr => ⟨n, f, jm, _, x, y, rfl, hjm, hG, rfl, fun kp' rr' hrr' => ⟨by rw [one_tr hG hrr hrr'], Lsm_mk hj hjm hG hq hr hgm hg t' d w c bb l x0 x1 x2 kp' md mg hcv⟩⟩⟩
theorem sim_cluster (x p : Int32) : sim tC_cluster tM_cluster [.inl x, .inl p] := by
  intro hc hm h
  obtain ⟨n, f, h1, h2⟩ := Lsm_cm h
  exact ⟨n, f, x, p, h1, rfl, n, f, x, p, h2, rfl, rfl, h⟩
theorem sim_closed (p : Int32) : sim tC_closed tM_closed [.inl p] := by
  intro hc hm h
  obtain ⟨n, f, q, g, j, r, t, d, w, jm, c, bb, gm, l, x0, x1, x2, kp, md, mg, rfl, rfl, hj, hjm, hG, hcv, hq, hr, hgm, hg⟩ := id h
  exact ⟨n, f, p, ⟨j, r, _, t, d, w, rfl, hj, hG⟩, rfl, n, f, jm, _, p, rfl, hjm, hG, rfl, fun l3 => ⟨rfl, Lsm_mk hj hjm hG hq hr hgm hg t d w c bb l l3.1 l3.2.1 l3.2.2 kp md mg hcv⟩⟩
theorem sim_densest : sim tC_densest tM_densest [] := by
  intro hc hm h
  obtain ⟨n, f, h1, h2⟩ := Lsm_cm h
  exact ⟨n, f, h1, rfl, fun r hr => ⟨n, f, h2, rfl, fun r' hr' => ⟨by rw [one_dst hr hr'], h⟩⟩⟩
theorem sim_density (p : Int32) : sim tC_density tM_density [.inl p] := by
  intro hc hm h
  obtain ⟨n, f, h1, h2⟩ := Lsm_cm h
  exact ⟨n, f, p, h1, rfl, fun r hr => ⟨n, f, p, h2, rfl, fun r' hr' => ⟨by rw [one_den hr hr'], h⟩⟩⟩
theorem sim_firm (x y : Int32) : sim tC_firm tM_firm [.inl x, .inl y] := by
  intro hc hm h
  obtain ⟨n, f, q, g, j, r, t, d, w, jm, c, bb, gm, l, x0, x1, x2, kp, md, mg, rfl, rfl, hj, hjm, hG, hcv, hq, hr, hgm, hg⟩ := id h
  exact ⟨n, f, x, y, ⟨j, r, _, t, d, w, rfl, hj, hG⟩, rfl, fun rr hrr => ⟨n, f, jm, c, bb, _, x, y, rfl, hjm, hG, hcv, rfl, fun c' b' rr' h1 hrr' => ⟨by rw [one_firm hG hrr hrr'], Lsm_mk hj hjm hG hq hr hgm hg t d w c' b' l x0 x1 x2 kp md mg h1⟩⟩⟩
theorem sim_classOf (x y : Int32) : sim tC_classOf tM_classOf [.inl x, .inl y] := by
  intro hc hm h
  obtain ⟨n, f, q, g, j, r, t, d, w, jm, c, bb, gm, l, x0, x1, x2, kp, md, mg, rfl, rfl, hj, hjm, hG, hcv, hq, hr, hgm, hg⟩ := id h
  exact ⟨n, f, x, y, ⟨j, r, _, t, d, w, rfl, hj, hG⟩, rfl, fun rr hrr => ⟨n, f, jm, c, bb, _, x, y, rfl, hjm, hG, hcv, rfl, fun c' b' rr' h1 hrr' => ⟨by rw [one_cls hG hrr hrr'], Lsm_mk hj hjm hG hq hr hgm hg t d w c' b' l x0 x1 x2 kp md mg h1⟩⟩⟩
theorem sim_likeness (p : Int32) : sim tC_likeness tM_likeness [.inl p] := by
  intro hc hm h
  obtain ⟨n, f, h1, h2⟩ := Lsm_cm h
  exact ⟨n, f, p, h1, rfl, n, f, p, h2, rfl, rfl, h⟩
theorem sim_rich (x p : Int32) : sim tC_rich tM_rich [.inl x, .inl p] := by
  intro hc hm h
  obtain ⟨n, f, h1, h2⟩ := Lsm_cm h
  exact ⟨n, f, x, p, h1, rfl, n, f, x, p, h2, rfl, rfl, h⟩
theorem sim_want (x : Int32) : sim tC_want tM_want [.inl x] := by
  intro hc hm h
  obtain ⟨n, f, q, g, j, r, t, d, w, jm, c, bb, gm, l, x0, x1, x2, kp, md, mg, rfl, rfl, hj, hjm, hG, hcv, hq, hr, hgm, hg⟩ := id h
  refine ⟨j, _, r, q, t, d, w, x, rfl, hq, rfl, fun e => ⟨_, jm, c, bb, q, gm, _, x, rfl, hq, rfl, fun _ => ⟨rfl, h⟩, fun a b => absurd ⟨a, b⟩ e⟩, fun e1 e2 => ⟨fun e3 => ⟨_, jm, c, bb, q, gm, _, x, rfl, hq, rfl, fun z => absurd ⟨e1, e2⟩ z, fun _ _ => ⟨fun _ => ⟨rfl, h⟩, fun z => absurd e3 (by omega)⟩⟩, fun e3 => ⟨_, jm, c, bb, q, gm, _, x, rfl, hq, rfl, fun z => absurd ⟨e1, e2⟩ z, fun _ _ => ⟨fun z => absurd z (by omega), fun _ => ⟨rfl, ?_⟩⟩⟩⟩⟩
  obtain ⟨X, hX, rfl⟩ := nI_of2 (M := 20) (n := 20) (by decide) (Int32.not_lt.mpr e1) e2
  have key : ∀ r : Nat → Int32, hR q r g → hR (q + 1) (upd r q (nI X)) (up g q X) := fun r hr v hv => by
    by_cases e : v = q
    · rw [e, upd_u, up_s]
    · rw [upd_n e, up_n _ _ _ e]; exact hr v (by omega)
  exact Lsm_mk hj hjm hG (by omega) (key r hr) (key gm hgm) (fun v hv => by
    by_cases e : v = q
    · rw [e, up_s]; exact hX
    · rw [up_n _ _ _ e]; exact hg v (by omega)) t d w c bb l x0 x1 x2 kp md mg hcv
theorem sim_unwant : sim tC_unwant tM_unwant [] := by
  intro hc hm h
  obtain ⟨n, f, q, g, j, r, t, d, w, jm, c, bb, gm, l, x0, x1, x2, kp, md, mg, rfl, rfl, hj, hjm, hG, hcv, hq, hr, hgm, hg⟩ := id h
  exact ⟨j, _, r, q, t, d, w, rfl, rfl, _, jm, c, bb, q, _, rfl, rfl, rfl, Lsm_mk (q := 0) (g := g) hj hjm hG (by omega) (fun v hv => by omega) (fun v hv => by omega) (fun v hv => by omega) t d w c bb l x0 x1 x2 kp md mg hcv⟩
theorem sim_graphic : sim tC_graphic tM_graphic [] := by
  intro hc hm h
  obtain ⟨n, f, q, g, j, r, t, d, w, jm, c, bb, gm, l, x0, x1, x2, kp, md, mg, rfl, rfl, hj, hjm, hG, hcv, hq, hr, hgm, hg⟩ := id h
  exact ⟨j, _, r, q, t, d, w, g, rfl, hq, hr, hg, rfl, fun d' w' => ⟨_, jm, c, bb, q, gm, l, x0, x1, x2, kp, md, mg, g, rfl, hq, hgm, hg, rfl, fun l' md' mg' => ⟨rfl, Lsm_mk hj hjm hG hq hr hgm hg t d' w' c bb l' x0 x1 x2 kp md' mg' hcv⟩⟩⟩
theorem sim_make : sim tC_make tM_make [] := by
  intro hc hm h
  obtain ⟨n, f, q, g, j, r, t, d, w, jm, c, bb, gm, l, x0, x1, x2, kp, md, mg, rfl, rfl, hj, hjm, hG, hcv, hq, hr, hgm, hg⟩ := id h
  refine ⟨j, _, r, q, t, d, w, g, rfl, hq, hr, hg, rfl, fun e d' w' => ⟨_, jm, c, bb, q, gm, l, x0, x1, x2, kp, md, mg, g, rfl, hq, hgm, hg, rfl, fun _ l' md' mg' => ⟨rfl, Lsm_mk hj hjm hG hq hr hgm hg t d' w' c bb l' x0 x1 x2 kp md' mg' hcv⟩, fun s e' => ?_⟩, fun s e j' d' w' hj' => ⟨_, jm, c, bb, q, gm, l, x0, x1, x2, kp, md, mg, g, rfl, hq, hgm, hg, rfl, fun e' => ?_, fun s' e' j2 l' md' mg' hj2 => ?_⟩⟩
  · rw [e] at e'; cases e'
  · rw [e] at e'; cases e'
  · rw [e] at e'
    cases e'
    exact ⟨rfl, Lsm_mk hj' hj2 (mkr_mk q (mk_0 hq hg) e).1 hq hr hgm hg t d' w' c 1 l' x0 x1 x2 kp md' mg' (fun h => absurd h (by decide))⟩
end
section
/-! the two constructors (by wip/whole/gen_ctor.py) -/
def y_C_init : MethodName := ⟨"DegreeCores", "<init>", "()V"⟩
abbrev b_C_init : ByteArray := prog_1_method_1_code
def freshC : mH := mkC (fun _ => 0) 0 (fun _ => 0) 0 (fun _ => 0) (fun _ => 0) (fun _ => 0)
abbrev fs_C : List Value := [.null, .int 0, .null, .int 0, .null, .null, .null]
set_option maxHeartbeats 1000000 in
set_option maxRecDepth 100000 in
theorem c_C_init {Ts : List Cond} (hn0 : Cond.methodLink R_C 1 objectInit ∈ Ts) (hn1 : Cond.instanceMethod objectInit ∈ Ts) (hn2 : Cond.code objectInit ⟨#[0xb1]⟩ 1 none ∈ Ts) (hn3 : Cond.arrayClass .int ∈ Ts) (hin0 : ∀ w ∈ u_ws R_C T_C 7, w ∈ Ts) (hfl : ∀ q ∈ f_C, q.2 < 7 ∧ Cond.fieldLink R_C q.1 (T_C q.2).1 (T_C q.2).2.1 (T_C q.2).2.2.1 ∈ Ts) (l : Launch) (D : va_G) (cA : ClassId) (h0 sz : Nat) : Met l y_C_init (Cond.code y_C_init b_C_init 1 none :: Ts) ({ frames := 1, cells := 5, slots := 60, locals := 12 }) (va_Pc [.ref h0] (fun U => U.heap.size = sz ∧ va_P D cls [(h0, .inr (0, fs_C))] U.heap ∧ va_K D cls [(cA, .int)] U ∧ va_D (fun _ => True) [(h0, .inr (0, fs_C))])) (va_Qv (fun ad : Nat → Nat => ad 0 = h0) (fun ad t => va_P D cls (m_w 0 cA ad freshC) t.heap ∧ va_K D cls [(cA, .int)] t ∧ va_D (va_A [(h0, .inr (0, fs_C))] sz) (m_w 0 cA ad freshC)) (va_A [(h0, .inr (0, fs_C))] sz)) 5 60 (va_A [(h0, .inr (0, fs_C))] sz) := by
  refine Met.ofW (cc := b_C_init) (maxL := 1) (ret := none) (by decide) rfl ?_
  intro p e s m args below meth c s₁ B hml hv
  obtain ⟨rfl, hsz, hP, hK, hD0⟩ := hv
  have hx := B.exec
  have hb := B.bytes
  have hr := B.returns
  have hts0 := atoms_spec (ws := Cond.code y_C_init b_C_init 1 none :: Ts) B.pre
  have hts : ∀ w ∈ Ts, w.before [Value.ref h0].toArray s = true := fun w hw => hts0 w (List.mem_cons_of_mem _ hw)
  have hown : s.vm.findClass R_C = some m.cls := findClass_of_methodNamed B.named
  have hlocks := B.notSynchronized
  have hin : meth.name = "<init>" := (name_of_methodNamed B.named B.method).1
  subst hsz
  have hD := hD0.self (sz := s.heap.size)
  generalize hAe : va_A [(h0, .inr (0, fs_C))] s.heap.size = A at hD ⊢
  have hA : ∀ q : Nat, s.heap.size ≤ q → A q := fun q h => by rw [← hAe]; exact Or.inr h
  have hS : va_S A s.heap s.heap [] := va_S.rf
  have hl := lv_entry ([.ref h0]) (n := 1) (Nat.le_of_ble_eq_true rfl)
  rw [lg_entry_eq]
  generalize (lg_sl ([.ref h0]) ++ List.replicate (1 - (lg_sl ([.ref h0])).length) Slot.unset).toArray = ls at hl ⊢
  have hl : lv_has ls 1 [(0, .ref h0)] := hl
  refine lv_aload_n hx hb (show decode b_C_init 0 = .ok (.aload_n 0, 1) by decide +kernel) rfl (lv_at hl 0 rfl) ?_
  refine W.objInit hx hb hown (hts _ hn0) (hts _ hn1) (hts _ hn2) rfl (by rw [hml]; exact hl.1) rfl (show decode b_C_init 1 = .ok (.invokespecial 1, 3) by decide +kernel) (Nat.le_of_ble_eq_true rfl) (Nat.le_of_ble_eq_true rfl) ?_
  refine W.eq (g2 := F0 m 4 ls []) rfl ?_
  refine lv_aload_n hx hb (show decode b_C_init 4 = .ok (.aload_n 0, 1) by decide +kernel) rfl (lv_at hl 0 rfl) ?_
  refine lv_bipush (v := 12) hx hb (show decode b_C_init 5 = .ok (.bipush 12, 2) by decide +kernel) (by decide) ?_
  refine va_newa (atype := .int) (ty := .int) (N' := 12) (a0 := (12, .inl (fun _ => 0))) hx hb (hts _ hn3) rfl hK hP hD hS hA (fun _ => rfl) (by decide) (by decide) (by decide) (Nat.le_of_ble_eq_true rfl) (Nat.le_of_ble_eq_true rfl) (show decode b_C_init 7 = .ok (.newarray .int, 2) by decide +kernel) (fun q1 cB H hKB hP hD hS => ?_)
  have eB : cB = cA := Option.some.inj ((hKB.2 1 _ rfl).2.symm.trans (hKB.2 0 _ rfl).2)
  subst cB
  have hP : va_P D cls [(h0, .inr (0, [.null, .int 0, .null, .int 0, .null, .null, .null])), (q1, .inl (cA, 12, .inl (fun _ => 0)))] H := hP
  have hD : va_D A [(h0, .inr (0, [.null, .int 0, .null, .int 0, .null, .null, .null])), (q1, .inl (cA, 12, .inl (fun _ => 0)))] := hD
  refine W.widen (k := 1) (n := 12) (Nat.le_of_ble_eq_true rfl) (Nat.le_of_ble_eq_true rfl) ?_
  refine va_putF (D := D) (ci := 0) (v := .ref q1) (ty := .array .int) (C := R_C) (T := T_C) (N := 7) hx hb hts hin0 ty_C ty_C_ok nm_C hown hK hP hD hS 0 rfl rfl 0 (by decide) (hts _ (hfl (9, 0) (by decide)).2) (fun _ h9 => h9) rfl hin rfl (by decide +kernel) rfl rfl (Nat.le_of_ble_eq_true rfl) (show decode b_C_init 9 = .ok (.putfield 9, 3) by decide +kernel) (fun H locs hP hD hS => ?_)
  have hP : va_P D cls [(h0, .inr (0, [.ref q1, .int 0, .null, .int 0, .null, .null, .null])), (q1, .inl (cA, 12, .inl (fun _ => 0)))] H := hP
  have hD : va_D A [(h0, .inr (0, [.ref q1, .int 0, .null, .int 0, .null, .null, .null])), (q1, .inl (cA, 12, .inl (fun _ => 0)))] := hD
  refine lv_aload_n hx hb (show decode b_C_init 12 = .ok (.aload_n 0, 1) by decide +kernel) rfl (lv_at hl 0 rfl) ?_
  refine lv_bipush (v := 12) hx hb (show decode b_C_init 13 = .ok (.bipush 12, 2) by decide +kernel) (by decide) ?_
  refine va_newa (atype := .int) (ty := .int) (N' := 12) (a0 := (12, .inl (fun _ => 0))) hx hb (hts _ hn3) rfl hK hP hD hS hA (fun _ => rfl) (by decide) (by decide) (by decide) (Nat.le_of_ble_eq_true rfl) (Nat.le_of_ble_eq_true rfl) (show decode b_C_init 15 = .ok (.newarray .int, 2) by decide +kernel) (fun q2 cB H hKB hP hD hS => ?_)
  have eB : cB = cA := Option.some.inj ((hKB.2 1 _ rfl).2.symm.trans (hKB.2 0 _ rfl).2)
  subst cB
  have hP : va_P D cls [(h0, .inr (0, [.ref q1, .int 0, .null, .int 0, .null, .null, .null])), (q1, .inl (cA, 12, .inl (fun _ => 0))), (q2, .inl (cA, 12, .inl (fun _ => 0)))] H := hP
  have hD : va_D A [(h0, .inr (0, [.ref q1, .int 0, .null, .int 0, .null, .null, .null])), (q1, .inl (cA, 12, .inl (fun _ => 0))), (q2, .inl (cA, 12, .inl (fun _ => 0)))] := hD
  refine W.widen (k := 2) (n := 24) (Nat.le_of_ble_eq_true rfl) (Nat.le_of_ble_eq_true rfl) ?_
  refine va_putF (D := D) (ci := 0) (v := .ref q2) (ty := .array .int) (C := R_C) (T := T_C) (N := 7) hx hb hts hin0 ty_C ty_C_ok nm_C hown hK hP hD hS 0 rfl rfl 4 (by decide) (hts _ (hfl (13, 4) (by decide)).2) (fun _ h9 => h9) rfl hin rfl (by decide +kernel) rfl rfl (Nat.le_of_ble_eq_true rfl) (show decode b_C_init 17 = .ok (.putfield 13, 3) by decide +kernel) (fun H locs hP hD hS => ?_)
  have hP : va_P D cls [(h0, .inr (0, [.ref q1, .int 0, .null, .int 0, .ref q2, .null, .null])), (q1, .inl (cA, 12, .inl (fun _ => 0))), (q2, .inl (cA, 12, .inl (fun _ => 0)))] H := hP
  have hD : va_D A [(h0, .inr (0, [.ref q1, .int 0, .null, .int 0, .ref q2, .null, .null])), (q1, .inl (cA, 12, .inl (fun _ => 0))), (q2, .inl (cA, 12, .inl (fun _ => 0)))] := hD
  refine lv_aload_n hx hb (show decode b_C_init 20 = .ok (.aload_n 0, 1) by decide +kernel) rfl (lv_at hl 0 rfl) ?_
  refine lv_bipush (v := 12) hx hb (show decode b_C_init 21 = .ok (.bipush 12, 2) by decide +kernel) (by decide) ?_
  refine va_newa (atype := .int) (ty := .int) (N' := 12) (a0 := (12, .inl (fun _ => 0))) hx hb (hts _ hn3) rfl hK hP hD hS hA (fun _ => rfl) (by decide) (by decide) (by decide) (Nat.le_of_ble_eq_true rfl) (Nat.le_of_ble_eq_true rfl) (show decode b_C_init 23 = .ok (.newarray .int, 2) by decide +kernel) (fun q3 cB H hKB hP hD hS => ?_)
  have eB : cB = cA := Option.some.inj ((hKB.2 1 _ rfl).2.symm.trans (hKB.2 0 _ rfl).2)
  subst cB
  have hP : va_P D cls [(h0, .inr (0, [.ref q1, .int 0, .null, .int 0, .ref q2, .null, .null])), (q1, .inl (cA, 12, .inl (fun _ => 0))), (q2, .inl (cA, 12, .inl (fun _ => 0))), (q3, .inl (cA, 12, .inl (fun _ => 0)))] H := hP
  have hD : va_D A [(h0, .inr (0, [.ref q1, .int 0, .null, .int 0, .ref q2, .null, .null])), (q1, .inl (cA, 12, .inl (fun _ => 0))), (q2, .inl (cA, 12, .inl (fun _ => 0))), (q3, .inl (cA, 12, .inl (fun _ => 0)))] := hD
  refine W.widen (k := 3) (n := 36) (Nat.le_of_ble_eq_true rfl) (Nat.le_of_ble_eq_true rfl) ?_
  refine va_putF (D := D) (ci := 0) (v := .ref q3) (ty := .array .int) (C := R_C) (T := T_C) (N := 7) hx hb hts hin0 ty_C ty_C_ok nm_C hown hK hP hD hS 0 rfl rfl 5 (by decide) (hts _ (hfl (16, 5) (by decide)).2) (fun _ h9 => h9) rfl hin rfl (by decide +kernel) rfl rfl (Nat.le_of_ble_eq_true rfl) (show decode b_C_init 25 = .ok (.putfield 16, 3) by decide +kernel) (fun H locs hP hD hS => ?_)
  have hP : va_P D cls [(h0, .inr (0, [.ref q1, .int 0, .null, .int 0, .ref q2, .ref q3, .null])), (q1, .inl (cA, 12, .inl (fun _ => 0))), (q2, .inl (cA, 12, .inl (fun _ => 0))), (q3, .inl (cA, 12, .inl (fun _ => 0)))] H := hP
  have hD : va_D A [(h0, .inr (0, [.ref q1, .int 0, .null, .int 0, .ref q2, .ref q3, .null])), (q1, .inl (cA, 12, .inl (fun _ => 0))), (q2, .inl (cA, 12, .inl (fun _ => 0))), (q3, .inl (cA, 12, .inl (fun _ => 0)))] := hD
  refine lv_aload_n hx hb (show decode b_C_init 28 = .ok (.aload_n 0, 1) by decide +kernel) rfl (lv_at hl 0 rfl) ?_
  refine lv_bipush (v := 12) hx hb (show decode b_C_init 29 = .ok (.bipush 12, 2) by decide +kernel) (by decide) ?_
  refine va_newa (atype := .int) (ty := .int) (N' := 12) (a0 := (12, .inl (fun _ => 0))) hx hb (hts _ hn3) rfl hK hP hD hS hA (fun _ => rfl) (by decide) (by decide) (by decide) (Nat.le_of_ble_eq_true rfl) (Nat.le_of_ble_eq_true rfl) (show decode b_C_init 31 = .ok (.newarray .int, 2) by decide +kernel) (fun q4 cB H hKB hP hD hS => ?_)
  have eB : cB = cA := Option.some.inj ((hKB.2 1 _ rfl).2.symm.trans (hKB.2 0 _ rfl).2)
  subst cB
  have hP : va_P D cls [(h0, .inr (0, [.ref q1, .int 0, .null, .int 0, .ref q2, .ref q3, .null])), (q1, .inl (cA, 12, .inl (fun _ => 0))), (q2, .inl (cA, 12, .inl (fun _ => 0))), (q3, .inl (cA, 12, .inl (fun _ => 0))), (q4, .inl (cA, 12, .inl (fun _ => 0)))] H := hP
  have hD : va_D A [(h0, .inr (0, [.ref q1, .int 0, .null, .int 0, .ref q2, .ref q3, .null])), (q1, .inl (cA, 12, .inl (fun _ => 0))), (q2, .inl (cA, 12, .inl (fun _ => 0))), (q3, .inl (cA, 12, .inl (fun _ => 0))), (q4, .inl (cA, 12, .inl (fun _ => 0)))] := hD
  refine W.widen (k := 4) (n := 48) (Nat.le_of_ble_eq_true rfl) (Nat.le_of_ble_eq_true rfl) ?_
  refine va_putF (D := D) (ci := 0) (v := .ref q4) (ty := .array .int) (C := R_C) (T := T_C) (N := 7) hx hb hts hin0 ty_C ty_C_ok nm_C hown hK hP hD hS 0 rfl rfl 2 (by decide) (hts _ (hfl (19, 2) (by decide)).2) (fun _ h9 => h9) rfl hin rfl (by decide +kernel) rfl rfl (Nat.le_of_ble_eq_true rfl) (show decode b_C_init 33 = .ok (.putfield 19, 3) by decide +kernel) (fun H locs hP hD hS => ?_)
  have hP : va_P D cls [(h0, .inr (0, [.ref q1, .int 0, .ref q4, .int 0, .ref q2, .ref q3, .null])), (q1, .inl (cA, 12, .inl (fun _ => 0))), (q2, .inl (cA, 12, .inl (fun _ => 0))), (q3, .inl (cA, 12, .inl (fun _ => 0))), (q4, .inl (cA, 12, .inl (fun _ => 0)))] H := hP
  have hD : va_D A [(h0, .inr (0, [.ref q1, .int 0, .ref q4, .int 0, .ref q2, .ref q3, .null])), (q1, .inl (cA, 12, .inl (fun _ => 0))), (q2, .inl (cA, 12, .inl (fun _ => 0))), (q3, .inl (cA, 12, .inl (fun _ => 0))), (q4, .inl (cA, 12, .inl (fun _ => 0)))] := hD
  refine lv_aload_n hx hb (show decode b_C_init 36 = .ok (.aload_n 0, 1) by decide +kernel) rfl (lv_at hl 0 rfl) ?_
  refine lv_bipush (v := 12) hx hb (show decode b_C_init 37 = .ok (.bipush 12, 2) by decide +kernel) (by decide) ?_
  refine va_newa (atype := .int) (ty := .int) (N' := 12) (a0 := (12, .inl (fun _ => 0))) hx hb (hts _ hn3) rfl hK hP hD hS hA (fun _ => rfl) (by decide) (by decide) (by decide) (Nat.le_of_ble_eq_true rfl) (Nat.le_of_ble_eq_true rfl) (show decode b_C_init 39 = .ok (.newarray .int, 2) by decide +kernel) (fun q5 cB H hKB hP hD hS => ?_)
  have eB : cB = cA := Option.some.inj ((hKB.2 1 _ rfl).2.symm.trans (hKB.2 0 _ rfl).2)
  subst cB
  have hP : va_P D cls [(h0, .inr (0, [.ref q1, .int 0, .ref q4, .int 0, .ref q2, .ref q3, .null])), (q1, .inl (cA, 12, .inl (fun _ => 0))), (q2, .inl (cA, 12, .inl (fun _ => 0))), (q3, .inl (cA, 12, .inl (fun _ => 0))), (q4, .inl (cA, 12, .inl (fun _ => 0))), (q5, .inl (cA, 12, .inl (fun _ => 0)))] H := hP
  have hD : va_D A [(h0, .inr (0, [.ref q1, .int 0, .ref q4, .int 0, .ref q2, .ref q3, .null])), (q1, .inl (cA, 12, .inl (fun _ => 0))), (q2, .inl (cA, 12, .inl (fun _ => 0))), (q3, .inl (cA, 12, .inl (fun _ => 0))), (q4, .inl (cA, 12, .inl (fun _ => 0))), (q5, .inl (cA, 12, .inl (fun _ => 0)))] := hD
  refine W.widen (k := 5) (n := 60) (Nat.le_of_ble_eq_true rfl) (Nat.le_of_ble_eq_true rfl) ?_
  refine va_putF (D := D) (ci := 0) (v := .ref q5) (ty := .array .int) (C := R_C) (T := T_C) (N := 7) hx hb hts hin0 ty_C ty_C_ok nm_C hown hK hP hD hS 0 rfl rfl 6 (by decide) (hts _ (hfl (22, 6) (by decide)).2) (fun _ h9 => h9) rfl hin rfl (by decide +kernel) rfl rfl (Nat.le_of_ble_eq_true rfl) (show decode b_C_init 41 = .ok (.putfield 22, 3) by decide +kernel) (fun H locs hP hD hS => ?_)
  have hP : va_P D cls [(h0, .inr (0, [.ref q1, .int 0, .ref q4, .int 0, .ref q2, .ref q3, .ref q5])), (q1, .inl (cA, 12, .inl (fun _ => 0))), (q2, .inl (cA, 12, .inl (fun _ => 0))), (q3, .inl (cA, 12, .inl (fun _ => 0))), (q4, .inl (cA, 12, .inl (fun _ => 0))), (q5, .inl (cA, 12, .inl (fun _ => 0)))] H := hP
  have hD : va_D A [(h0, .inr (0, [.ref q1, .int 0, .ref q4, .int 0, .ref q2, .ref q3, .ref q5])), (q1, .inl (cA, 12, .inl (fun _ => 0))), (q2, .inl (cA, 12, .inl (fun _ => 0))), (q3, .inl (cA, 12, .inl (fun _ => 0))), (q4, .inl (cA, 12, .inl (fun _ => 0))), (q5, .inl (cA, 12, .inl (fun _ => 0)))] := hD
  refine lv_aload_n hx hb (show decode b_C_init 44 = .ok (.aload_n 0, 1) by decide +kernel) rfl (lv_at hl 0 rfl) ?_
  refine lv_iconst (v := 0) hx hb (show decode b_C_init 45 = .ok (.iconst 0, 1) by decide +kernel) (by decide) ?_
  refine va_put (D := D) (ci := 0) (v := .int 0) (ty := .int) (C := R_C) (T := T_C) (N := 7) hx hb hts hin0 ty_C ty_C_ok nm_C hown hK hP hD hS 0 rfl rfl 1 (by decide) (hts _ (hfl (25, 1) (by decide)).2) (fun _ h9 => h9) rfl (by decide +kernel) (by decide +kernel) (by decide +kernel) (Nat.le_of_ble_eq_true rfl) (show decode b_C_init 46 = .ok (.putfield 25, 3) by decide +kernel) (fun H locs hP hD hS => ?_)
  have hP : va_P D cls [(h0, .inr (0, [.ref q1, .int 0, .ref q4, .int 0, .ref q2, .ref q3, .ref q5])), (q1, .inl (cA, 12, .inl (fun _ => 0))), (q2, .inl (cA, 12, .inl (fun _ => 0))), (q3, .inl (cA, 12, .inl (fun _ => 0))), (q4, .inl (cA, 12, .inl (fun _ => 0))), (q5, .inl (cA, 12, .inl (fun _ => 0)))] H := hP
  have hD : va_D A [(h0, .inr (0, [.ref q1, .int 0, .ref q4, .int 0, .ref q2, .ref q3, .ref q5])), (q1, .inl (cA, 12, .inl (fun _ => 0))), (q2, .inl (cA, 12, .inl (fun _ => 0))), (q3, .inl (cA, 12, .inl (fun _ => 0))), (q4, .inl (cA, 12, .inl (fun _ => 0))), (q5, .inl (cA, 12, .inl (fun _ => 0)))] := hD
  refine lv_aload_n hx hb (show decode b_C_init 49 = .ok (.aload_n 0, 1) by decide +kernel) rfl (lv_at hl 0 rfl) ?_
  refine lv_iconst (v := 0) hx hb (show decode b_C_init 50 = .ok (.iconst 0, 1) by decide +kernel) (by decide) ?_
  refine va_put (D := D) (ci := 0) (v := .int 0) (ty := .int) (C := R_C) (T := T_C) (N := 7) hx hb hts hin0 ty_C ty_C_ok nm_C hown hK hP hD hS 0 rfl rfl 3 (by decide) (hts _ (hfl (29, 3) (by decide)).2) (fun _ h9 => h9) rfl (by decide +kernel) (by decide +kernel) (by decide +kernel) (Nat.le_of_ble_eq_true rfl) (show decode b_C_init 51 = .ok (.putfield 29, 3) by decide +kernel) (fun H locs hP hD hS => ?_)
  have hP : va_P D cls [(h0, .inr (0, [.ref q1, .int 0, .ref q4, .int 0, .ref q2, .ref q3, .ref q5])), (q1, .inl (cA, 12, .inl (fun _ => 0))), (q2, .inl (cA, 12, .inl (fun _ => 0))), (q3, .inl (cA, 12, .inl (fun _ => 0))), (q4, .inl (cA, 12, .inl (fun _ => 0))), (q5, .inl (cA, 12, .inl (fun _ => 0)))] H := hP
  have hD : va_D A [(h0, .inr (0, [.ref q1, .int 0, .ref q4, .int 0, .ref q2, .ref q3, .ref q5])), (q1, .inl (cA, 12, .inl (fun _ => 0))), (q2, .inl (cA, 12, .inl (fun _ => 0))), (q3, .inl (cA, 12, .inl (fun _ => 0))), (q4, .inl (cA, 12, .inl (fun _ => 0))), (q5, .inl (cA, 12, .inl (fun _ => 0)))] := hD
  have hP9 := hP.sub (ws' := m_w 0 cA (fun k => match k with | 0 => h0 | 1 => q1 | 2 => q4 | 3 => q2 | 4 => q3 | _ => q5) freshC) [0, 1, 4, 2, 3, 5] rfl
  have hD9 := hD.sub (ws' := m_w 0 cA (fun k => match k with | 0 => h0 | 1 => q1 | 2 => q4 | 3 => q2 | 4 => q3 | _ => q5) freshC) [0, 1, 4, 2, 3, 5] (by decide) rfl
  exact W.vret hx hb hr (fun t ht hW => ⟨⟨_, rfl, rfl, by rw [ht]; exact hP9, va_K.moved hW.alike hK, hD9⟩, hS.F ht⟩) hS.2.2 (show decode b_C_init 54 = .ok (.return_, 1) by decide +kernel)
def y_M_init : MethodName := ⟨"DegreeCoresModel", "<init>", "()V"⟩
abbrev b_M_init : ByteArray := prog_3_method_1_code
def freshM : mH := mkM 0 (fun _ => 0) (zT (fun _ => 0) 1 0 (fun _ => 0) (fun _ => 0) 0 0 0 (fun _ => 0) 0 (fun _ => 0))
abbrev fs_M : List Value := [.int 0, .null, .null, .int 0, .int 0, .null, .null, .int 0, .int 0, .int 0, .null, .int 0, .null]
set_option maxHeartbeats 1000000 in
set_option maxRecDepth 100000 in
theorem c_M_init {Ts : List Cond} (hn0 : Cond.methodLink R_M 1 objectInit ∈ Ts) (hn1 : Cond.instanceMethod objectInit ∈ Ts) (hn2 : Cond.code objectInit ⟨#[0xb1]⟩ 1 none ∈ Ts) (hn3 : Cond.arrayClass .int ∈ Ts) (hin0 : ∀ w ∈ u_ws R_M T_M 13, w ∈ Ts) (hfl : ∀ q ∈ f_M, q.2 < 13 ∧ Cond.fieldLink R_M q.1 (T_M q.2).1 (T_M q.2).2.1 (T_M q.2).2.2.1 ∈ Ts) (l : Launch) (D : va_G) (cA : ClassId) (h0 sz : Nat) : Met l y_M_init (Cond.code y_M_init b_M_init 1 none :: Ts) ({ frames := 1, cells := 6, slots := 4156, locals := 12 }) (va_Pc [.ref h0] (fun U => U.heap.size = sz ∧ va_P D cls [(h0, .inr (1, fs_M))] U.heap ∧ va_K D cls [(cA, .int)] U ∧ va_D (fun _ => True) [(h0, .inr (1, fs_M))])) (va_Qv (fun ad : Nat → Nat => ad 0 = h0) (fun ad t => va_P D cls (m_w 1 cA ad freshM) t.heap ∧ va_K D cls [(cA, .int)] t ∧ va_D (va_A [(h0, .inr (1, fs_M))] sz) (m_w 1 cA ad freshM)) (va_A [(h0, .inr (1, fs_M))] sz)) 6 4156 (va_A [(h0, .inr (1, fs_M))] sz) := by
  refine Met.ofW (cc := b_M_init) (maxL := 1) (ret := none) (by decide) rfl ?_
  intro p e s m args below meth c s₁ B hml hv
  obtain ⟨rfl, hsz, hP, hK, hD0⟩ := hv
  have hx := B.exec
  have hb := B.bytes
  have hr := B.returns
  have hts0 := atoms_spec (ws := Cond.code y_M_init b_M_init 1 none :: Ts) B.pre
  have hts : ∀ w ∈ Ts, w.before [Value.ref h0].toArray s = true := fun w hw => hts0 w (List.mem_cons_of_mem _ hw)
  have hown : s.vm.findClass R_M = some m.cls := findClass_of_methodNamed B.named
  have hlocks := B.notSynchronized
  have hin : meth.name = "<init>" := (name_of_methodNamed B.named B.method).1
  subst hsz
  have hD := hD0.self (sz := s.heap.size)
  generalize hAe : va_A [(h0, .inr (1, fs_M))] s.heap.size = A at hD ⊢
  have hA : ∀ q : Nat, s.heap.size ≤ q → A q := fun q h => by rw [← hAe]; exact Or.inr h
  have hS : va_S A s.heap s.heap [] := va_S.rf
  have hl := lv_entry ([.ref h0]) (n := 1) (Nat.le_of_ble_eq_true rfl)
  rw [lg_entry_eq]
  generalize (lg_sl ([.ref h0]) ++ List.replicate (1 - (lg_sl ([.ref h0])).length) Slot.unset).toArray = ls at hl ⊢
  have hl : lv_has ls 1 [(0, .ref h0)] := hl
  refine lv_aload_n hx hb (show decode b_M_init 0 = .ok (.aload_n 0, 1) by decide +kernel) rfl (lv_at hl 0 rfl) ?_
  refine W.objInit hx hb hown (hts _ hn0) (hts _ hn1) (hts _ hn2) rfl (by rw [hml]; exact hl.1) rfl (show decode b_M_init 1 = .ok (.invokespecial 1, 3) by decide +kernel) (Nat.le_of_ble_eq_true rfl) (Nat.le_of_ble_eq_true rfl) ?_
  refine W.eq (g2 := F0 m 4 ls []) rfl ?_
  refine lv_aload_n hx hb (show decode b_M_init 4 = .ok (.aload_n 0, 1) by decide +kernel) rfl (lv_at hl 0 rfl) ?_
  refine lv_bipush (v := 12) hx hb (show decode b_M_init 5 = .ok (.bipush 12, 2) by decide +kernel) (by decide) ?_
  refine va_newa (atype := .int) (ty := .int) (N' := 12) (a0 := (12, .inl (fun _ => 0))) hx hb (hts _ hn3) rfl hK hP hD hS hA (fun _ => rfl) (by decide) (by decide) (by decide) (Nat.le_of_ble_eq_true rfl) (Nat.le_of_ble_eq_true rfl) (show decode b_M_init 7 = .ok (.newarray .int, 2) by decide +kernel) (fun q1 cB H hKB hP hD hS => ?_)
  have eB : cB = cA := Option.some.inj ((hKB.2 1 _ rfl).2.symm.trans (hKB.2 0 _ rfl).2)
  subst cB
  have hP : va_P D cls [(h0, .inr (1, [.int 0, .null, .null, .int 0, .int 0, .null, .null, .int 0, .int 0, .int 0, .null, .int 0, .null])), (q1, .inl (cA, 12, .inl (fun _ => 0)))] H := hP
  have hD : va_D A [(h0, .inr (1, [.int 0, .null, .null, .int 0, .int 0, .null, .null, .int 0, .int 0, .int 0, .null, .int 0, .null])), (q1, .inl (cA, 12, .inl (fun _ => 0)))] := hD
  refine W.widen (k := 1) (n := 12) (Nat.le_of_ble_eq_true rfl) (Nat.le_of_ble_eq_true rfl) ?_
  refine va_putF (D := D) (ci := 1) (v := .ref q1) (ty := .array .int) (C := R_M) (T := T_M) (N := 13) hx hb hts hin0 ty_M ty_M_ok nm_M hown hK hP hD hS 0 rfl rfl 1 (by decide) (hts _ (hfl (7, 1) (by decide)).2) (fun _ h9 => h9) rfl hin rfl (by decide +kernel) rfl rfl (Nat.le_of_ble_eq_true rfl) (show decode b_M_init 9 = .ok (.putfield 7, 3) by decide +kernel) (fun H locs hP hD hS => ?_)
  have hP : va_P D cls [(h0, .inr (1, [.int 0, .ref q1, .null, .int 0, .int 0, .null, .null, .int 0, .int 0, .int 0, .null, .int 0, .null])), (q1, .inl (cA, 12, .inl (fun _ => 0)))] H := hP
  have hD : va_D A [(h0, .inr (1, [.int 0, .ref q1, .null, .int 0, .int 0, .null, .null, .int 0, .int 0, .int 0, .null, .int 0, .null])), (q1, .inl (cA, 12, .inl (fun _ => 0)))] := hD
  refine lv_aload_n hx hb (show decode b_M_init 12 = .ok (.aload_n 0, 1) by decide +kernel) rfl (lv_at hl 0 rfl) ?_
  refine lv_sipush (v := 4096) hx hb (show decode b_M_init 13 = .ok (.sipush 4096, 3) by decide +kernel) (by decide) ?_
  refine va_newa (atype := .int) (ty := .int) (N' := 4096) (a0 := (4096, .inl (fun _ => 0))) hx hb (hts _ hn3) rfl hK hP hD hS hA (fun _ => rfl) (by decide) (by decide) (by decide) (Nat.le_of_ble_eq_true rfl) (Nat.le_of_ble_eq_true rfl) (show decode b_M_init 16 = .ok (.newarray .int, 2) by decide +kernel) (fun q2 cB H hKB hP hD hS => ?_)
  have eB : cB = cA := Option.some.inj ((hKB.2 1 _ rfl).2.symm.trans (hKB.2 0 _ rfl).2)
  subst cB
  have hP : va_P D cls [(h0, .inr (1, [.int 0, .ref q1, .null, .int 0, .int 0, .null, .null, .int 0, .int 0, .int 0, .null, .int 0, .null])), (q1, .inl (cA, 12, .inl (fun _ => 0))), (q2, .inl (cA, 4096, .inl (fun _ => 0)))] H := hP
  have hD : va_D A [(h0, .inr (1, [.int 0, .ref q1, .null, .int 0, .int 0, .null, .null, .int 0, .int 0, .int 0, .null, .int 0, .null])), (q1, .inl (cA, 12, .inl (fun _ => 0))), (q2, .inl (cA, 4096, .inl (fun _ => 0)))] := hD
  refine W.widen (k := 2) (n := 4108) (Nat.le_of_ble_eq_true rfl) (Nat.le_of_ble_eq_true rfl) ?_
  refine va_putF (D := D) (ci := 1) (v := .ref q2) (ty := .array .int) (C := R_M) (T := T_M) (N := 13) hx hb hts hin0 ty_M ty_M_ok nm_M hown hK hP hD hS 0 rfl rfl 2 (by decide) (hts _ (hfl (13, 2) (by decide)).2) (fun _ h9 => h9) rfl hin rfl (by decide +kernel) rfl rfl (Nat.le_of_ble_eq_true rfl) (show decode b_M_init 18 = .ok (.putfield 13, 3) by decide +kernel) (fun H locs hP hD hS => ?_)
  have hP : va_P D cls [(h0, .inr (1, [.int 0, .ref q1, .ref q2, .int 0, .int 0, .null, .null, .int 0, .int 0, .int 0, .null, .int 0, .null])), (q1, .inl (cA, 12, .inl (fun _ => 0))), (q2, .inl (cA, 4096, .inl (fun _ => 0)))] H := hP
  have hD : va_D A [(h0, .inr (1, [.int 0, .ref q1, .ref q2, .int 0, .int 0, .null, .null, .int 0, .int 0, .int 0, .null, .int 0, .null])), (q1, .inl (cA, 12, .inl (fun _ => 0))), (q2, .inl (cA, 4096, .inl (fun _ => 0)))] := hD
  refine lv_aload_n hx hb (show decode b_M_init 21 = .ok (.aload_n 0, 1) by decide +kernel) rfl (lv_at hl 0 rfl) ?_
  refine lv_iconst (v := 1) hx hb (show decode b_M_init 22 = .ok (.iconst 1, 1) by decide +kernel) (by decide) ?_
  refine va_put (D := D) (ci := 1) (v := .int 1) (ty := .boolean) (C := R_M) (T := T_M) (N := 13) hx hb hts hin0 ty_M ty_M_ok nm_M hown hK hP hD hS 0 rfl rfl 3 (by decide) (hts _ (hfl (16, 3) (by decide)).2) (fun _ h9 => h9) rfl (by decide +kernel) (by decide +kernel) (by decide +kernel) (Nat.le_of_ble_eq_true rfl) (show decode b_M_init 23 = .ok (.putfield 16, 3) by decide +kernel) (fun H locs hP hD hS => ?_)
  have hP : va_P D cls [(h0, .inr (1, [.int 0, .ref q1, .ref q2, .int 1, .int 0, .null, .null, .int 0, .int 0, .int 0, .null, .int 0, .null])), (q1, .inl (cA, 12, .inl (fun _ => 0))), (q2, .inl (cA, 4096, .inl (fun _ => 0)))] H := hP
  have hD : va_D A [(h0, .inr (1, [.int 0, .ref q1, .ref q2, .int 1, .int 0, .null, .null, .int 0, .int 0, .int 0, .null, .int 0, .null])), (q1, .inl (cA, 12, .inl (fun _ => 0))), (q2, .inl (cA, 4096, .inl (fun _ => 0)))] := hD
  refine lv_aload_n hx hb (show decode b_M_init 26 = .ok (.aload_n 0, 1) by decide +kernel) rfl (lv_at hl 0 rfl) ?_
  refine lv_bipush (v := 12) hx hb (show decode b_M_init 27 = .ok (.bipush 12, 2) by decide +kernel) (by decide) ?_
  refine va_newa (atype := .int) (ty := .int) (N' := 12) (a0 := (12, .inl (fun _ => 0))) hx hb (hts _ hn3) rfl hK hP hD hS hA (fun _ => rfl) (by decide) (by decide) (by decide) (Nat.le_of_ble_eq_true rfl) (Nat.le_of_ble_eq_true rfl) (show decode b_M_init 29 = .ok (.newarray .int, 2) by decide +kernel) (fun q3 cB H hKB hP hD hS => ?_)
  have eB : cB = cA := Option.some.inj ((hKB.2 1 _ rfl).2.symm.trans (hKB.2 0 _ rfl).2)
  subst cB
  have hP : va_P D cls [(h0, .inr (1, [.int 0, .ref q1, .ref q2, .int 1, .int 0, .null, .null, .int 0, .int 0, .int 0, .null, .int 0, .null])), (q1, .inl (cA, 12, .inl (fun _ => 0))), (q2, .inl (cA, 4096, .inl (fun _ => 0))), (q3, .inl (cA, 12, .inl (fun _ => 0)))] H := hP
  have hD : va_D A [(h0, .inr (1, [.int 0, .ref q1, .ref q2, .int 1, .int 0, .null, .null, .int 0, .int 0, .int 0, .null, .int 0, .null])), (q1, .inl (cA, 12, .inl (fun _ => 0))), (q2, .inl (cA, 4096, .inl (fun _ => 0))), (q3, .inl (cA, 12, .inl (fun _ => 0)))] := hD
  refine W.widen (k := 3) (n := 4120) (Nat.le_of_ble_eq_true rfl) (Nat.le_of_ble_eq_true rfl) ?_
  refine va_putF (D := D) (ci := 1) (v := .ref q3) (ty := .array .int) (C := R_M) (T := T_M) (N := 13) hx hb hts hin0 ty_M ty_M_ok nm_M hown hK hP hD hS 0 rfl rfl 5 (by decide) (hts _ (hfl (20, 5) (by decide)).2) (fun _ h9 => h9) rfl hin rfl (by decide +kernel) rfl rfl (Nat.le_of_ble_eq_true rfl) (show decode b_M_init 31 = .ok (.putfield 20, 3) by decide +kernel) (fun H locs hP hD hS => ?_)
  have hP : va_P D cls [(h0, .inr (1, [.int 0, .ref q1, .ref q2, .int 1, .int 0, .ref q3, .null, .int 0, .int 0, .int 0, .null, .int 0, .null])), (q1, .inl (cA, 12, .inl (fun _ => 0))), (q2, .inl (cA, 4096, .inl (fun _ => 0))), (q3, .inl (cA, 12, .inl (fun _ => 0)))] H := hP
  have hD : va_D A [(h0, .inr (1, [.int 0, .ref q1, .ref q2, .int 1, .int 0, .ref q3, .null, .int 0, .int 0, .int 0, .null, .int 0, .null])), (q1, .inl (cA, 12, .inl (fun _ => 0))), (q2, .inl (cA, 4096, .inl (fun _ => 0))), (q3, .inl (cA, 12, .inl (fun _ => 0)))] := hD
  refine lv_aload_n hx hb (show decode b_M_init 34 = .ok (.aload_n 0, 1) by decide +kernel) rfl (lv_at hl 0 rfl) ?_
  refine lv_bipush (v := 12) hx hb (show decode b_M_init 35 = .ok (.bipush 12, 2) by decide +kernel) (by decide) ?_
  refine va_newa (atype := .int) (ty := .int) (N' := 12) (a0 := (12, .inl (fun _ => 0))) hx hb (hts _ hn3) rfl hK hP hD hS hA (fun _ => rfl) (by decide) (by decide) (by decide) (Nat.le_of_ble_eq_true rfl) (Nat.le_of_ble_eq_true rfl) (show decode b_M_init 37 = .ok (.newarray .int, 2) by decide +kernel) (fun q4 cB H hKB hP hD hS => ?_)
  have eB : cB = cA := Option.some.inj ((hKB.2 1 _ rfl).2.symm.trans (hKB.2 0 _ rfl).2)
  subst cB
  have hP : va_P D cls [(h0, .inr (1, [.int 0, .ref q1, .ref q2, .int 1, .int 0, .ref q3, .null, .int 0, .int 0, .int 0, .null, .int 0, .null])), (q1, .inl (cA, 12, .inl (fun _ => 0))), (q2, .inl (cA, 4096, .inl (fun _ => 0))), (q3, .inl (cA, 12, .inl (fun _ => 0))), (q4, .inl (cA, 12, .inl (fun _ => 0)))] H := hP
  have hD : va_D A [(h0, .inr (1, [.int 0, .ref q1, .ref q2, .int 1, .int 0, .ref q3, .null, .int 0, .int 0, .int 0, .null, .int 0, .null])), (q1, .inl (cA, 12, .inl (fun _ => 0))), (q2, .inl (cA, 4096, .inl (fun _ => 0))), (q3, .inl (cA, 12, .inl (fun _ => 0))), (q4, .inl (cA, 12, .inl (fun _ => 0)))] := hD
  refine W.widen (k := 4) (n := 4132) (Nat.le_of_ble_eq_true rfl) (Nat.le_of_ble_eq_true rfl) ?_
  refine va_putF (D := D) (ci := 1) (v := .ref q4) (ty := .array .int) (C := R_M) (T := T_M) (N := 13) hx hb hts hin0 ty_M ty_M_ok nm_M hown hK hP hD hS 0 rfl rfl 6 (by decide) (hts _ (hfl (23, 6) (by decide)).2) (fun _ h9 => h9) rfl hin rfl (by decide +kernel) rfl rfl (Nat.le_of_ble_eq_true rfl) (show decode b_M_init 39 = .ok (.putfield 23, 3) by decide +kernel) (fun H locs hP hD hS => ?_)
  have hP : va_P D cls [(h0, .inr (1, [.int 0, .ref q1, .ref q2, .int 1, .int 0, .ref q3, .ref q4, .int 0, .int 0, .int 0, .null, .int 0, .null])), (q1, .inl (cA, 12, .inl (fun _ => 0))), (q2, .inl (cA, 4096, .inl (fun _ => 0))), (q3, .inl (cA, 12, .inl (fun _ => 0))), (q4, .inl (cA, 12, .inl (fun _ => 0)))] H := hP
  have hD : va_D A [(h0, .inr (1, [.int 0, .ref q1, .ref q2, .int 1, .int 0, .ref q3, .ref q4, .int 0, .int 0, .int 0, .null, .int 0, .null])), (q1, .inl (cA, 12, .inl (fun _ => 0))), (q2, .inl (cA, 4096, .inl (fun _ => 0))), (q3, .inl (cA, 12, .inl (fun _ => 0))), (q4, .inl (cA, 12, .inl (fun _ => 0)))] := hD
  refine lv_aload_n hx hb (show decode b_M_init 42 = .ok (.aload_n 0, 1) by decide +kernel) rfl (lv_at hl 0 rfl) ?_
  refine lv_bipush (v := 12) hx hb (show decode b_M_init 43 = .ok (.bipush 12, 2) by decide +kernel) (by decide) ?_
  refine va_newa (atype := .int) (ty := .int) (N' := 12) (a0 := (12, .inl (fun _ => 0))) hx hb (hts _ hn3) rfl hK hP hD hS hA (fun _ => rfl) (by decide) (by decide) (by decide) (Nat.le_of_ble_eq_true rfl) (Nat.le_of_ble_eq_true rfl) (show decode b_M_init 45 = .ok (.newarray .int, 2) by decide +kernel) (fun q5 cB H hKB hP hD hS => ?_)
  have eB : cB = cA := Option.some.inj ((hKB.2 1 _ rfl).2.symm.trans (hKB.2 0 _ rfl).2)
  subst cB
  have hP : va_P D cls [(h0, .inr (1, [.int 0, .ref q1, .ref q2, .int 1, .int 0, .ref q3, .ref q4, .int 0, .int 0, .int 0, .null, .int 0, .null])), (q1, .inl (cA, 12, .inl (fun _ => 0))), (q2, .inl (cA, 4096, .inl (fun _ => 0))), (q3, .inl (cA, 12, .inl (fun _ => 0))), (q4, .inl (cA, 12, .inl (fun _ => 0))), (q5, .inl (cA, 12, .inl (fun _ => 0)))] H := hP
  have hD : va_D A [(h0, .inr (1, [.int 0, .ref q1, .ref q2, .int 1, .int 0, .ref q3, .ref q4, .int 0, .int 0, .int 0, .null, .int 0, .null])), (q1, .inl (cA, 12, .inl (fun _ => 0))), (q2, .inl (cA, 4096, .inl (fun _ => 0))), (q3, .inl (cA, 12, .inl (fun _ => 0))), (q4, .inl (cA, 12, .inl (fun _ => 0))), (q5, .inl (cA, 12, .inl (fun _ => 0)))] := hD
  refine W.widen (k := 5) (n := 4144) (Nat.le_of_ble_eq_true rfl) (Nat.le_of_ble_eq_true rfl) ?_
  refine va_putF (D := D) (ci := 1) (v := .ref q5) (ty := .array .int) (C := R_M) (T := T_M) (N := 13) hx hb hts hin0 ty_M ty_M_ok nm_M hown hK hP hD hS 0 rfl rfl 10 (by decide) (hts _ (hfl (26, 10) (by decide)).2) (fun _ h9 => h9) rfl hin rfl (by decide +kernel) rfl rfl (Nat.le_of_ble_eq_true rfl) (show decode b_M_init 47 = .ok (.putfield 26, 3) by decide +kernel) (fun H locs hP hD hS => ?_)
  have hP : va_P D cls [(h0, .inr (1, [.int 0, .ref q1, .ref q2, .int 1, .int 0, .ref q3, .ref q4, .int 0, .int 0, .int 0, .ref q5, .int 0, .null])), (q1, .inl (cA, 12, .inl (fun _ => 0))), (q2, .inl (cA, 4096, .inl (fun _ => 0))), (q3, .inl (cA, 12, .inl (fun _ => 0))), (q4, .inl (cA, 12, .inl (fun _ => 0))), (q5, .inl (cA, 12, .inl (fun _ => 0)))] H := hP
  have hD : va_D A [(h0, .inr (1, [.int 0, .ref q1, .ref q2, .int 1, .int 0, .ref q3, .ref q4, .int 0, .int 0, .int 0, .ref q5, .int 0, .null])), (q1, .inl (cA, 12, .inl (fun _ => 0))), (q2, .inl (cA, 4096, .inl (fun _ => 0))), (q3, .inl (cA, 12, .inl (fun _ => 0))), (q4, .inl (cA, 12, .inl (fun _ => 0))), (q5, .inl (cA, 12, .inl (fun _ => 0)))] := hD
  refine lv_aload_n hx hb (show decode b_M_init 50 = .ok (.aload_n 0, 1) by decide +kernel) rfl (lv_at hl 0 rfl) ?_
  refine lv_bipush (v := 12) hx hb (show decode b_M_init 51 = .ok (.bipush 12, 2) by decide +kernel) (by decide) ?_
  refine va_newa (atype := .int) (ty := .int) (N' := 12) (a0 := (12, .inl (fun _ => 0))) hx hb (hts _ hn3) rfl hK hP hD hS hA (fun _ => rfl) (by decide) (by decide) (by decide) (Nat.le_of_ble_eq_true rfl) (Nat.le_of_ble_eq_true rfl) (show decode b_M_init 53 = .ok (.newarray .int, 2) by decide +kernel) (fun q6 cB H hKB hP hD hS => ?_)
  have eB : cB = cA := Option.some.inj ((hKB.2 1 _ rfl).2.symm.trans (hKB.2 0 _ rfl).2)
  subst cB
  have hP : va_P D cls [(h0, .inr (1, [.int 0, .ref q1, .ref q2, .int 1, .int 0, .ref q3, .ref q4, .int 0, .int 0, .int 0, .ref q5, .int 0, .null])), (q1, .inl (cA, 12, .inl (fun _ => 0))), (q2, .inl (cA, 4096, .inl (fun _ => 0))), (q3, .inl (cA, 12, .inl (fun _ => 0))), (q4, .inl (cA, 12, .inl (fun _ => 0))), (q5, .inl (cA, 12, .inl (fun _ => 0))), (q6, .inl (cA, 12, .inl (fun _ => 0)))] H := hP
  have hD : va_D A [(h0, .inr (1, [.int 0, .ref q1, .ref q2, .int 1, .int 0, .ref q3, .ref q4, .int 0, .int 0, .int 0, .ref q5, .int 0, .null])), (q1, .inl (cA, 12, .inl (fun _ => 0))), (q2, .inl (cA, 4096, .inl (fun _ => 0))), (q3, .inl (cA, 12, .inl (fun _ => 0))), (q4, .inl (cA, 12, .inl (fun _ => 0))), (q5, .inl (cA, 12, .inl (fun _ => 0))), (q6, .inl (cA, 12, .inl (fun _ => 0)))] := hD
  refine W.widen (k := 6) (n := 4156) (Nat.le_of_ble_eq_true rfl) (Nat.le_of_ble_eq_true rfl) ?_
  refine va_putF (D := D) (ci := 1) (v := .ref q6) (ty := .array .int) (C := R_M) (T := T_M) (N := 13) hx hb hts hin0 ty_M ty_M_ok nm_M hown hK hP hD hS 0 rfl rfl 12 (by decide) (hts _ (hfl (29, 12) (by decide)).2) (fun _ h9 => h9) rfl hin rfl (by decide +kernel) rfl rfl (Nat.le_of_ble_eq_true rfl) (show decode b_M_init 55 = .ok (.putfield 29, 3) by decide +kernel) (fun H locs hP hD hS => ?_)
  have hP : va_P D cls [(h0, .inr (1, [.int 0, .ref q1, .ref q2, .int 1, .int 0, .ref q3, .ref q4, .int 0, .int 0, .int 0, .ref q5, .int 0, .ref q6])), (q1, .inl (cA, 12, .inl (fun _ => 0))), (q2, .inl (cA, 4096, .inl (fun _ => 0))), (q3, .inl (cA, 12, .inl (fun _ => 0))), (q4, .inl (cA, 12, .inl (fun _ => 0))), (q5, .inl (cA, 12, .inl (fun _ => 0))), (q6, .inl (cA, 12, .inl (fun _ => 0)))] H := hP
  have hD : va_D A [(h0, .inr (1, [.int 0, .ref q1, .ref q2, .int 1, .int 0, .ref q3, .ref q4, .int 0, .int 0, .int 0, .ref q5, .int 0, .ref q6])), (q1, .inl (cA, 12, .inl (fun _ => 0))), (q2, .inl (cA, 4096, .inl (fun _ => 0))), (q3, .inl (cA, 12, .inl (fun _ => 0))), (q4, .inl (cA, 12, .inl (fun _ => 0))), (q5, .inl (cA, 12, .inl (fun _ => 0))), (q6, .inl (cA, 12, .inl (fun _ => 0)))] := hD
  have hP9 := hP.sub (ws' := m_w 1 cA (fun k => match k with | 0 => h0 | 1 => q1 | 2 => q2 | 3 => q3 | 4 => q4 | 5 => q5 | _ => q6) freshM) [0, 1, 2, 3, 4, 5, 6] rfl
  have hD9 := hD.sub (ws' := m_w 1 cA (fun k => match k with | 0 => h0 | 1 => q1 | 2 => q2 | 3 => q3 | 4 => q4 | 5 => q5 | _ => q6) freshM) [0, 1, 2, 3, 4, 5, 6] (by decide) rfl
  exact W.vret hx hb hr (fun t ht hW => ⟨⟨_, rfl, rfl, by rw [ht]; exact hP9, va_K.moved hW.alike hK, hD9⟩, hS.F ht⟩) hS.2.2 (show decode b_M_init 58 = .ok (.return_, 1) by decide +kernel)
end
section
/-! the law's own instructions (by wip/whole/gen_law.py) -/
def lawT : List (Nat × Jvm.ClassFile.Instr × Nat) := [(0, .new 7, 3), (3, .dup, 1), (4, .invokespecial 9, 3), (7, .astore_n 1, 1), (8, .new 10, 3), (11, .dup, 1), (12, .invokespecial 12, 3), (15, .astore_n 2, 1), (16, .iconst 0, 1), (17, .istore_n 3, 1), (18, .iload_n 3, 1), (19, .aload_n 0, 1), (20, .arraylength, 1), (21, .iconst 4, 1), (22, .isub, 1), (23, .if_icmp .gt 752, 3), (26, .aload_n 0, 1), (27, .iload_n 3, 1), (28, .iaload, 1), (29, .bipush 31, 2), (31, .iand, 1), (32, .tableswitch 737 0 24 #[116, 129, 188, 221, 234, 257, 280, 303, 326, 349, 362, 395, 428, 461, 494, 517, 530, 553, 586, 619, 642, 675, 698, 711, 724], 116), (148, .aload_n 1, 1), (149, .invokevirtual 13, 3), (152, .aload_n 2, 1), (153, .invokevirtual 17, 3), (156, .if_icmp .eq 613, 3), (159, .iconst 0, 1), (160, .ireturn, 1), (161, .aload_n 1, 1), (162, .aload_n 0, 1), (163, .iload_n 3, 1), (164, .iconst 1, 1), (165, .iadd, 1), (166, .iaload, 1), (167, .aload_n 0, 1), (168, .iload_n 3, 1), (169, .iconst 2, 1), (170, .iadd, 1), (171, .iaload, 1), (172, .aload_n 0, 1), (173, .iload_n 3, 1), (174, .iconst 3, 1), (175, .iadd, 1), (176, .iaload, 1), (177, .ifCond .eq 7, 3), (180, .iconst 1, 1), (181, .goto 4, 3), (184, .iconst 0, 1), (185, .invokevirtual 18, 3), (188, .aload_n 2, 1), (189, .aload_n 0, 1), (190, .iload_n 3, 1), (191, .iconst 1, 1), (192, .iadd, 1), (193, .iaload, 1), (194, .aload_n 0, 1), (195, .iload_n 3, 1), (196, .iconst 2, 1), (197, .iadd, 1), (198, .iaload, 1), (199, .aload_n 0, 1), (200, .iload_n 3, 1), (201, .iconst 3, 1), (202, .iadd, 1), (203, .iaload, 1), (204, .ifCond .eq 7, 3), (207, .iconst 1, 1), (208, .goto 4, 3), (211, .iconst 0, 1), (212, .invokevirtual 22, 3), (215, .if_icmp .eq 554, 3), (218, .iconst 0, 1), (219, .ireturn, 1), (220, .aload_n 1, 1), (221, .aload_n 0, 1), (222, .iload_n 3, 1), (223, .iconst 1, 1), (224, .iadd, 1), (225, .iaload, 1), (226, .aload_n 0, 1), (227, .iload_n 3, 1), (228, .iconst 2, 1), (229, .iadd, 1), (230, .iaload, 1), (231, .invokevirtual 23, 3), (234, .aload_n 2, 1), (235, .aload_n 0, 1), (236, .iload_n 3, 1), (237, .iconst 1, 1), (238, .iadd, 1), (239, .iaload, 1), (240, .aload_n 0, 1), (241, .iload_n 3, 1), (242, .iconst 2, 1), (243, .iadd, 1), (244, .iaload, 1), (245, .invokevirtual 27, 3), (248, .if_icmp .eq 521, 3), (251, .iconst 0, 1), (252, .ireturn, 1), (253, .aload_n 1, 1), (254, .invokevirtual 28, 3), (257, .aload_n 2, 1), (258, .invokevirtual 31, 3), (261, .if_icmp .eq 508, 3), (264, .iconst 0, 1), (265, .ireturn, 1), (266, .aload_n 1, 1), (267, .aload_n 0, 1), (268, .iload_n 3, 1), (269, .iconst 1, 1), (270, .iadd, 1), (271, .iaload, 1), (272, .invokevirtual 32, 3), (275, .aload_n 2, 1), (276, .aload_n 0, 1), (277, .iload_n 3, 1), (278, .iconst 1, 1), (279, .iadd, 1), (280, .iaload, 1), (281, .invokevirtual 36, 3), (284, .if_icmp .eq 485, 3), (287, .iconst 0, 1), (288, .ireturn, 1), (289, .aload_n 1, 1), (290, .aload_n 0, 1), (291, .iload_n 3, 1), (292, .iconst 1, 1), (293, .iadd, 1), (294, .iaload, 1), (295, .invokevirtual 37, 3), (298, .aload_n 2, 1), (299, .aload_n 0, 1), (300, .iload_n 3, 1), (301, .iconst 1, 1), (302, .iadd, 1), (303, .iaload, 1), (304, .invokevirtual 40, 3), (307, .if_icmp .eq 462, 3), (310, .iconst 0, 1), (311, .ireturn, 1), (312, .aload_n 1, 1), (313, .aload_n 0, 1), (314, .iload_n 3, 1), (315, .iconst 1, 1), (316, .iadd, 1), (317, .iaload, 1), (318, .invokevirtual 41, 3), (321, .aload_n 2, 1), (322, .aload_n 0, 1), (323, .iload_n 3, 1), (324, .iconst 1, 1), (325, .iadd, 1), (326, .iaload, 1), (327, .invokevirtual 44, 3), (330, .if_icmp .eq 439, 3), (333, .iconst 0, 1), (334, .ireturn, 1), (335, .aload_n 1, 1), (336, .aload_n 0, 1), (337, .iload_n 3, 1), (338, .iconst 1, 1), (339, .iadd, 1), (340, .iaload, 1), (341, .invokevirtual 45, 3), (344, .aload_n 2, 1), (345, .aload_n 0, 1), (346, .iload_n 3, 1), (347, .iconst 1, 1), (348, .iadd, 1), (349, .iaload, 1), (350, .invokevirtual 48, 3), (353, .if_icmp .eq 416, 3), (356, .iconst 0, 1), (357, .ireturn, 1), (358, .aload_n 1, 1), (359, .aload_n 0, 1), (360, .iload_n 3, 1), (361, .iconst 1, 1), (362, .iadd, 1), (363, .iaload, 1), (364, .invokevirtual 49, 3), (367, .aload_n 2, 1), (368, .aload_n 0, 1), (369, .iload_n 3, 1), (370, .iconst 1, 1), (371, .iadd, 1), (372, .iaload, 1), (373, .invokevirtual 52, 3), (376, .if_icmp .eq 393, 3), (379, .iconst 0, 1), (380, .ireturn, 1), (381, .aload_n 1, 1), (382, .invokevirtual 53, 3), (385, .aload_n 2, 1), (386, .invokevirtual 56, 3), (389, .if_icmp .eq 380, 3), (392, .iconst 0, 1), (393, .ireturn, 1), (394, .aload_n 1, 1), (395, .aload_n 0, 1), (396, .iload_n 3, 1), (397, .iconst 1, 1), (398, .iadd, 1), (399, .iaload, 1), (400, .aload_n 0, 1), (401, .iload_n 3, 1), (402, .iconst 2, 1), (403, .iadd, 1), (404, .iaload, 1), (405, .invokevirtual 57, 3), (408, .aload_n 2, 1), (409, .aload_n 0, 1), (410, .iload_n 3, 1), (411, .iconst 1, 1), (412, .iadd, 1), (413, .iaload, 1), (414, .aload_n 0, 1), (415, .iload_n 3, 1), (416, .iconst 2, 1), (417, .iadd, 1), (418, .iaload, 1), (419, .invokevirtual 60, 3), (422, .if_icmp .eq 347, 3), (425, .iconst 0, 1), (426, .ireturn, 1), (427, .aload_n 1, 1), (428, .aload_n 0, 1), (429, .iload_n 3, 1), (430, .iconst 1, 1), (431, .iadd, 1), (432, .iaload, 1), (433, .aload_n 0, 1), (434, .iload_n 3, 1), (435, .iconst 2, 1), (436, .iadd, 1), (437, .iaload, 1), (438, .invokevirtual 61, 3), (441, .aload_n 2, 1), (442, .aload_n 0, 1), (443, .iload_n 3, 1), (444, .iconst 1, 1), (445, .iadd, 1), (446, .iaload, 1), (447, .aload_n 0, 1), (448, .iload_n 3, 1), (449, .iconst 2, 1), (450, .iadd, 1), (451, .iaload, 1), (452, .invokevirtual 64, 3), (455, .if_icmp .eq 314, 3), (458, .iconst 0, 1), (459, .ireturn, 1), (460, .aload_n 1, 1), (461, .aload_n 0, 1), (462, .iload_n 3, 1), (463, .iconst 1, 1), (464, .iadd, 1), (465, .iaload, 1), (466, .aload_n 0, 1), (467, .iload_n 3, 1), (468, .iconst 2, 1), (469, .iadd, 1), (470, .iaload, 1), (471, .invokevirtual 65, 3), (474, .aload_n 2, 1), (475, .aload_n 0, 1), (476, .iload_n 3, 1), (477, .iconst 1, 1), (478, .iadd, 1), (479, .iaload, 1), (480, .aload_n 0, 1), (481, .iload_n 3, 1), (482, .iconst 2, 1), (483, .iadd, 1), (484, .iaload, 1), (485, .invokevirtual 68, 3), (488, .if_icmp .eq 281, 3), (491, .iconst 0, 1), (492, .ireturn, 1), (493, .aload_n 1, 1), (494, .aload_n 0, 1), (495, .iload_n 3, 1), (496, .iconst 1, 1), (497, .iadd, 1), (498, .iaload, 1), (499, .aload_n 0, 1), (500, .iload_n 3, 1), (501, .iconst 2, 1), (502, .iadd, 1), (503, .iaload, 1), (504, .invokevirtual 69, 3), (507, .aload_n 2, 1), (508, .aload_n 0, 1), (509, .iload_n 3, 1), (510, .iconst 1, 1), (511, .iadd, 1), (512, .iaload, 1), (513, .aload_n 0, 1), (514, .iload_n 3, 1), (515, .iconst 2, 1), (516, .iadd, 1), (517, .iaload, 1), (518, .invokevirtual 72, 3), (521, .if_icmp .eq 248, 3), (524, .iconst 0, 1), (525, .ireturn, 1), (526, .aload_n 1, 1), (527, .aload_n 0, 1), (528, .iload_n 3, 1), (529, .iconst 1, 1), (530, .iadd, 1), (531, .iaload, 1), (532, .invokevirtual 73, 3), (535, .aload_n 2, 1), (536, .aload_n 0, 1), (537, .iload_n 3, 1), (538, .iconst 1, 1), (539, .iadd, 1), (540, .iaload, 1), (541, .invokevirtual 76, 3), (544, .if_icmp .eq 225, 3), (547, .iconst 0, 1), (548, .ireturn, 1), (549, .aload_n 1, 1), (550, .invokevirtual 77, 3), (553, .aload_n 2, 1), (554, .invokevirtual 80, 3), (557, .if_icmp .eq 212, 3), (560, .iconst 0, 1), (561, .ireturn, 1), (562, .aload_n 1, 1), (563, .aload_n 0, 1), (564, .iload_n 3, 1), (565, .iconst 1, 1), (566, .iadd, 1), (567, .iaload, 1), (568, .invokevirtual 81, 3), (571, .aload_n 2, 1), (572, .aload_n 0, 1), (573, .iload_n 3, 1), (574, .iconst 1, 1), (575, .iadd, 1), (576, .iaload, 1), (577, .invokevirtual 84, 3), (580, .if_icmp .eq 189, 3), (583, .iconst 0, 1), (584, .ireturn, 1), (585, .aload_n 1, 1), (586, .aload_n 0, 1), (587, .iload_n 3, 1), (588, .iconst 1, 1), (589, .iadd, 1), (590, .iaload, 1), (591, .aload_n 0, 1), (592, .iload_n 3, 1), (593, .iconst 2, 1), (594, .iadd, 1), (595, .iaload, 1), (596, .invokevirtual 85, 3), (599, .aload_n 2, 1), (600, .aload_n 0, 1), (601, .iload_n 3, 1), (602, .iconst 1, 1), (603, .iadd, 1), (604, .iaload, 1), (605, .aload_n 0, 1), (606, .iload_n 3, 1), (607, .iconst 2, 1), (608, .iadd, 1), (609, .iaload, 1), (610, .invokevirtual 88, 3), (613, .if_icmp .eq 156, 3), (616, .iconst 0, 1), (617, .ireturn, 1), (618, .aload_n 1, 1), (619, .aload_n 0, 1), (620, .iload_n 3, 1), (621, .iconst 1, 1), (622, .iadd, 1), (623, .iaload, 1), (624, .aload_n 0, 1), (625, .iload_n 3, 1), (626, .iconst 2, 1), (627, .iadd, 1), (628, .iaload, 1), (629, .invokevirtual 89, 3), (632, .aload_n 2, 1), (633, .aload_n 0, 1), (634, .iload_n 3, 1), (635, .iconst 1, 1), (636, .iadd, 1), (637, .iaload, 1), (638, .aload_n 0, 1), (639, .iload_n 3, 1), (640, .iconst 2, 1), (641, .iadd, 1), (642, .iaload, 1), (643, .invokevirtual 92, 3), (646, .if_icmp .eq 123, 3), (649, .iconst 0, 1), (650, .ireturn, 1), (651, .aload_n 1, 1), (652, .aload_n 0, 1), (653, .iload_n 3, 1), (654, .iconst 1, 1), (655, .iadd, 1), (656, .iaload, 1), (657, .invokevirtual 93, 3), (660, .aload_n 2, 1), (661, .aload_n 0, 1), (662, .iload_n 3, 1), (663, .iconst 1, 1), (664, .iadd, 1), (665, .iaload, 1), (666, .invokevirtual 96, 3), (669, .if_icmp .eq 100, 3), (672, .iconst 0, 1), (673, .ireturn, 1), (674, .aload_n 1, 1), (675, .aload_n 0, 1), (676, .iload_n 3, 1), (677, .iconst 1, 1), (678, .iadd, 1), (679, .iaload, 1), (680, .aload_n 0, 1), (681, .iload_n 3, 1), (682, .iconst 2, 1), (683, .iadd, 1), (684, .iaload, 1), (685, .invokevirtual 97, 3), (688, .aload_n 2, 1), (689, .aload_n 0, 1), (690, .iload_n 3, 1), (691, .iconst 1, 1), (692, .iadd, 1), (693, .iaload, 1), (694, .aload_n 0, 1), (695, .iload_n 3, 1), (696, .iconst 2, 1), (697, .iadd, 1), (698, .iaload, 1), (699, .invokevirtual 100, 3), (702, .if_icmp .eq 67, 3), (705, .iconst 0, 1), (706, .ireturn, 1), (707, .aload_n 1, 1), (708, .aload_n 0, 1), (709, .iload_n 3, 1), (710, .iconst 1, 1), (711, .iadd, 1), (712, .iaload, 1), (713, .invokevirtual 101, 3), (716, .aload_n 2, 1), (717, .aload_n 0, 1), (718, .iload_n 3, 1), (719, .iconst 1, 1), (720, .iadd, 1), (721, .iaload, 1), (722, .invokevirtual 104, 3), (725, .if_icmp .eq 44, 3), (728, .iconst 0, 1), (729, .ireturn, 1), (730, .aload_n 1, 1), (731, .invokevirtual 105, 3), (734, .aload_n 2, 1), (735, .invokevirtual 108, 3), (738, .if_icmp .eq 31, 3), (741, .iconst 0, 1), (742, .ireturn, 1), (743, .aload_n 1, 1), (744, .invokevirtual 109, 3), (747, .aload_n 2, 1), (748, .invokevirtual 112, 3), (751, .if_icmp .eq 18, 3), (754, .iconst 0, 1), (755, .ireturn, 1), (756, .aload_n 1, 1), (757, .invokevirtual 113, 3), (760, .aload_n 2, 1), (761, .invokevirtual 116, 3), (764, .if_icmp .eq 5, 3), (767, .iconst 0, 1), (768, .ireturn, 1), (769, .iinc 3 4, 3), (772, .goto (-754), 3), (775, .iconst 1, 1), (776, .ireturn, 1)]
theorem lawT_ok : lawT.all (fun q => decide (decode code q.1 = .ok (q.2.1, q.2.2))) = true := by decide +kernel
theorem law_dg {cc : ByteArray} {T : List (Nat × Jvm.ClassFile.Instr × Nat)} (hT : T.all (fun q => decide (decode cc q.1 = .ok (q.2.1, q.2.2))) = true) {pc : Nat} {i : Jvm.ClassFile.Instr} {n : Nat} (h : m_lk T pc = some (i, n)) : decode cc pc = .ok (i, n) := by
  have h1 := List.all_eq_true.mp hT (pc, i, n) (m_lk_mem h)
  exact of_decide_eq_true h1
theorem dl_0 : decode code 0 = .ok (.new 7, 3) := law_dg lawT_ok (by decide +kernel)
theorem dl_3 : decode code 3 = .ok (.dup, 1) := law_dg lawT_ok (by decide +kernel)
theorem dl_4 : decode code 4 = .ok (.invokespecial 9, 3) := law_dg lawT_ok (by decide +kernel)
theorem dl_7 : decode code 7 = .ok (.astore_n 1, 1) := law_dg lawT_ok (by decide +kernel)
theorem dl_8 : decode code 8 = .ok (.new 10, 3) := law_dg lawT_ok (by decide +kernel)
theorem dl_11 : decode code 11 = .ok (.dup, 1) := law_dg lawT_ok (by decide +kernel)
theorem dl_12 : decode code 12 = .ok (.invokespecial 12, 3) := law_dg lawT_ok (by decide +kernel)
theorem dl_15 : decode code 15 = .ok (.astore_n 2, 1) := law_dg lawT_ok (by decide +kernel)
theorem dl_16 : decode code 16 = .ok (.iconst 0, 1) := law_dg lawT_ok (by decide +kernel)
theorem dl_17 : decode code 17 = .ok (.istore_n 3, 1) := law_dg lawT_ok (by decide +kernel)
theorem dl_18 : decode code 18 = .ok (.iload_n 3, 1) := law_dg lawT_ok (by decide +kernel)
theorem dl_19 : decode code 19 = .ok (.aload_n 0, 1) := law_dg lawT_ok (by decide +kernel)
theorem dl_20 : decode code 20 = .ok (.arraylength, 1) := law_dg lawT_ok (by decide +kernel)
theorem dl_21 : decode code 21 = .ok (.iconst 4, 1) := law_dg lawT_ok (by decide +kernel)
theorem dl_22 : decode code 22 = .ok (.isub, 1) := law_dg lawT_ok (by decide +kernel)
theorem dl_23 : decode code 23 = .ok (.if_icmp .gt 752, 3) := law_dg lawT_ok (by decide +kernel)
theorem dl_26 : decode code 26 = .ok (.aload_n 0, 1) := law_dg lawT_ok (by decide +kernel)
theorem dl_27 : decode code 27 = .ok (.iload_n 3, 1) := law_dg lawT_ok (by decide +kernel)
theorem dl_28 : decode code 28 = .ok (.iaload, 1) := law_dg lawT_ok (by decide +kernel)
theorem dl_29 : decode code 29 = .ok (.bipush 31, 2) := law_dg lawT_ok (by decide +kernel)
theorem dl_31 : decode code 31 = .ok (.iand, 1) := law_dg lawT_ok (by decide +kernel)
theorem dl_32 : decode code 32 = .ok (.tableswitch 737 0 24 #[116, 129, 188, 221, 234, 257, 280, 303, 326, 349, 362, 395, 428, 461, 494, 517, 530, 553, 586, 619, 642, 675, 698, 711, 724], 116) := law_dg lawT_ok (by decide +kernel)
theorem dl_148 : decode code 148 = .ok (.aload_n 1, 1) := law_dg lawT_ok (by decide +kernel)
theorem dl_149 : decode code 149 = .ok (.invokevirtual 13, 3) := law_dg lawT_ok (by decide +kernel)
theorem dl_152 : decode code 152 = .ok (.aload_n 2, 1) := law_dg lawT_ok (by decide +kernel)
theorem dl_153 : decode code 153 = .ok (.invokevirtual 17, 3) := law_dg lawT_ok (by decide +kernel)
theorem dl_156 : decode code 156 = .ok (.if_icmp .eq 613, 3) := law_dg lawT_ok (by decide +kernel)
theorem dl_159 : decode code 159 = .ok (.iconst 0, 1) := law_dg lawT_ok (by decide +kernel)
theorem dl_160 : decode code 160 = .ok (.ireturn, 1) := law_dg lawT_ok (by decide +kernel)
theorem dl_161 : decode code 161 = .ok (.aload_n 1, 1) := law_dg lawT_ok (by decide +kernel)
theorem dl_162 : decode code 162 = .ok (.aload_n 0, 1) := law_dg lawT_ok (by decide +kernel)
theorem dl_163 : decode code 163 = .ok (.iload_n 3, 1) := law_dg lawT_ok (by decide +kernel)
theorem dl_164 : decode code 164 = .ok (.iconst 1, 1) := law_dg lawT_ok (by decide +kernel)
theorem dl_165 : decode code 165 = .ok (.iadd, 1) := law_dg lawT_ok (by decide +kernel)
theorem dl_166 : decode code 166 = .ok (.iaload, 1) := law_dg lawT_ok (by decide +kernel)
theorem dl_167 : decode code 167 = .ok (.aload_n 0, 1) := law_dg lawT_ok (by decide +kernel)
theorem dl_168 : decode code 168 = .ok (.iload_n 3, 1) := law_dg lawT_ok (by decide +kernel)
theorem dl_169 : decode code 169 = .ok (.iconst 2, 1) := law_dg lawT_ok (by decide +kernel)
theorem dl_170 : decode code 170 = .ok (.iadd, 1) := law_dg lawT_ok (by decide +kernel)
theorem dl_171 : decode code 171 = .ok (.iaload, 1) := law_dg lawT_ok (by decide +kernel)
theorem dl_172 : decode code 172 = .ok (.aload_n 0, 1) := law_dg lawT_ok (by decide +kernel)
theorem dl_173 : decode code 173 = .ok (.iload_n 3, 1) := law_dg lawT_ok (by decide +kernel)
theorem dl_174 : decode code 174 = .ok (.iconst 3, 1) := law_dg lawT_ok (by decide +kernel)
theorem dl_175 : decode code 175 = .ok (.iadd, 1) := law_dg lawT_ok (by decide +kernel)
theorem dl_176 : decode code 176 = .ok (.iaload, 1) := law_dg lawT_ok (by decide +kernel)
theorem dl_177 : decode code 177 = .ok (.ifCond .eq 7, 3) := law_dg lawT_ok (by decide +kernel)
theorem dl_180 : decode code 180 = .ok (.iconst 1, 1) := law_dg lawT_ok (by decide +kernel)
theorem dl_181 : decode code 181 = .ok (.goto 4, 3) := law_dg lawT_ok (by decide +kernel)
theorem dl_184 : decode code 184 = .ok (.iconst 0, 1) := law_dg lawT_ok (by decide +kernel)
theorem dl_185 : decode code 185 = .ok (.invokevirtual 18, 3) := law_dg lawT_ok (by decide +kernel)
theorem dl_188 : decode code 188 = .ok (.aload_n 2, 1) := law_dg lawT_ok (by decide +kernel)
theorem dl_189 : decode code 189 = .ok (.aload_n 0, 1) := law_dg lawT_ok (by decide +kernel)
theorem dl_190 : decode code 190 = .ok (.iload_n 3, 1) := law_dg lawT_ok (by decide +kernel)
theorem dl_191 : decode code 191 = .ok (.iconst 1, 1) := law_dg lawT_ok (by decide +kernel)
theorem dl_192 : decode code 192 = .ok (.iadd, 1) := law_dg lawT_ok (by decide +kernel)
theorem dl_193 : decode code 193 = .ok (.iaload, 1) := law_dg lawT_ok (by decide +kernel)
theorem dl_194 : decode code 194 = .ok (.aload_n 0, 1) := law_dg lawT_ok (by decide +kernel)
theorem dl_195 : decode code 195 = .ok (.iload_n 3, 1) := law_dg lawT_ok (by decide +kernel)
theorem dl_196 : decode code 196 = .ok (.iconst 2, 1) := law_dg lawT_ok (by decide +kernel)
theorem dl_197 : decode code 197 = .ok (.iadd, 1) := law_dg lawT_ok (by decide +kernel)
theorem dl_198 : decode code 198 = .ok (.iaload, 1) := law_dg lawT_ok (by decide +kernel)
theorem dl_199 : decode code 199 = .ok (.aload_n 0, 1) := law_dg lawT_ok (by decide +kernel)
theorem dl_200 : decode code 200 = .ok (.iload_n 3, 1) := law_dg lawT_ok (by decide +kernel)
theorem dl_201 : decode code 201 = .ok (.iconst 3, 1) := law_dg lawT_ok (by decide +kernel)
theorem dl_202 : decode code 202 = .ok (.iadd, 1) := law_dg lawT_ok (by decide +kernel)
theorem dl_203 : decode code 203 = .ok (.iaload, 1) := law_dg lawT_ok (by decide +kernel)
theorem dl_204 : decode code 204 = .ok (.ifCond .eq 7, 3) := law_dg lawT_ok (by decide +kernel)
theorem dl_207 : decode code 207 = .ok (.iconst 1, 1) := law_dg lawT_ok (by decide +kernel)
theorem dl_208 : decode code 208 = .ok (.goto 4, 3) := law_dg lawT_ok (by decide +kernel)
theorem dl_211 : decode code 211 = .ok (.iconst 0, 1) := law_dg lawT_ok (by decide +kernel)
theorem dl_212 : decode code 212 = .ok (.invokevirtual 22, 3) := law_dg lawT_ok (by decide +kernel)
theorem dl_215 : decode code 215 = .ok (.if_icmp .eq 554, 3) := law_dg lawT_ok (by decide +kernel)
theorem dl_218 : decode code 218 = .ok (.iconst 0, 1) := law_dg lawT_ok (by decide +kernel)
theorem dl_219 : decode code 219 = .ok (.ireturn, 1) := law_dg lawT_ok (by decide +kernel)
theorem dl_220 : decode code 220 = .ok (.aload_n 1, 1) := law_dg lawT_ok (by decide +kernel)
theorem dl_221 : decode code 221 = .ok (.aload_n 0, 1) := law_dg lawT_ok (by decide +kernel)
theorem dl_222 : decode code 222 = .ok (.iload_n 3, 1) := law_dg lawT_ok (by decide +kernel)
theorem dl_223 : decode code 223 = .ok (.iconst 1, 1) := law_dg lawT_ok (by decide +kernel)
theorem dl_224 : decode code 224 = .ok (.iadd, 1) := law_dg lawT_ok (by decide +kernel)
theorem dl_225 : decode code 225 = .ok (.iaload, 1) := law_dg lawT_ok (by decide +kernel)
theorem dl_226 : decode code 226 = .ok (.aload_n 0, 1) := law_dg lawT_ok (by decide +kernel)
theorem dl_227 : decode code 227 = .ok (.iload_n 3, 1) := law_dg lawT_ok (by decide +kernel)
theorem dl_228 : decode code 228 = .ok (.iconst 2, 1) := law_dg lawT_ok (by decide +kernel)
theorem dl_229 : decode code 229 = .ok (.iadd, 1) := law_dg lawT_ok (by decide +kernel)
theorem dl_230 : decode code 230 = .ok (.iaload, 1) := law_dg lawT_ok (by decide +kernel)
theorem dl_231 : decode code 231 = .ok (.invokevirtual 23, 3) := law_dg lawT_ok (by decide +kernel)
theorem dl_234 : decode code 234 = .ok (.aload_n 2, 1) := law_dg lawT_ok (by decide +kernel)
theorem dl_235 : decode code 235 = .ok (.aload_n 0, 1) := law_dg lawT_ok (by decide +kernel)
theorem dl_236 : decode code 236 = .ok (.iload_n 3, 1) := law_dg lawT_ok (by decide +kernel)
theorem dl_237 : decode code 237 = .ok (.iconst 1, 1) := law_dg lawT_ok (by decide +kernel)
theorem dl_238 : decode code 238 = .ok (.iadd, 1) := law_dg lawT_ok (by decide +kernel)
theorem dl_239 : decode code 239 = .ok (.iaload, 1) := law_dg lawT_ok (by decide +kernel)
theorem dl_240 : decode code 240 = .ok (.aload_n 0, 1) := law_dg lawT_ok (by decide +kernel)
theorem dl_241 : decode code 241 = .ok (.iload_n 3, 1) := law_dg lawT_ok (by decide +kernel)
theorem dl_242 : decode code 242 = .ok (.iconst 2, 1) := law_dg lawT_ok (by decide +kernel)
theorem dl_243 : decode code 243 = .ok (.iadd, 1) := law_dg lawT_ok (by decide +kernel)
theorem dl_244 : decode code 244 = .ok (.iaload, 1) := law_dg lawT_ok (by decide +kernel)
theorem dl_245 : decode code 245 = .ok (.invokevirtual 27, 3) := law_dg lawT_ok (by decide +kernel)
theorem dl_248 : decode code 248 = .ok (.if_icmp .eq 521, 3) := law_dg lawT_ok (by decide +kernel)
theorem dl_251 : decode code 251 = .ok (.iconst 0, 1) := law_dg lawT_ok (by decide +kernel)
theorem dl_252 : decode code 252 = .ok (.ireturn, 1) := law_dg lawT_ok (by decide +kernel)
theorem dl_253 : decode code 253 = .ok (.aload_n 1, 1) := law_dg lawT_ok (by decide +kernel)
theorem dl_254 : decode code 254 = .ok (.invokevirtual 28, 3) := law_dg lawT_ok (by decide +kernel)
theorem dl_257 : decode code 257 = .ok (.aload_n 2, 1) := law_dg lawT_ok (by decide +kernel)
theorem dl_258 : decode code 258 = .ok (.invokevirtual 31, 3) := law_dg lawT_ok (by decide +kernel)
theorem dl_261 : decode code 261 = .ok (.if_icmp .eq 508, 3) := law_dg lawT_ok (by decide +kernel)
theorem dl_264 : decode code 264 = .ok (.iconst 0, 1) := law_dg lawT_ok (by decide +kernel)
theorem dl_265 : decode code 265 = .ok (.ireturn, 1) := law_dg lawT_ok (by decide +kernel)
theorem dl_266 : decode code 266 = .ok (.aload_n 1, 1) := law_dg lawT_ok (by decide +kernel)
theorem dl_267 : decode code 267 = .ok (.aload_n 0, 1) := law_dg lawT_ok (by decide +kernel)
theorem dl_268 : decode code 268 = .ok (.iload_n 3, 1) := law_dg lawT_ok (by decide +kernel)
theorem dl_269 : decode code 269 = .ok (.iconst 1, 1) := law_dg lawT_ok (by decide +kernel)
theorem dl_270 : decode code 270 = .ok (.iadd, 1) := law_dg lawT_ok (by decide +kernel)
theorem dl_271 : decode code 271 = .ok (.iaload, 1) := law_dg lawT_ok (by decide +kernel)
theorem dl_272 : decode code 272 = .ok (.invokevirtual 32, 3) := law_dg lawT_ok (by decide +kernel)
theorem dl_275 : decode code 275 = .ok (.aload_n 2, 1) := law_dg lawT_ok (by decide +kernel)
theorem dl_276 : decode code 276 = .ok (.aload_n 0, 1) := law_dg lawT_ok (by decide +kernel)
theorem dl_277 : decode code 277 = .ok (.iload_n 3, 1) := law_dg lawT_ok (by decide +kernel)
theorem dl_278 : decode code 278 = .ok (.iconst 1, 1) := law_dg lawT_ok (by decide +kernel)
theorem dl_279 : decode code 279 = .ok (.iadd, 1) := law_dg lawT_ok (by decide +kernel)
theorem dl_280 : decode code 280 = .ok (.iaload, 1) := law_dg lawT_ok (by decide +kernel)
theorem dl_281 : decode code 281 = .ok (.invokevirtual 36, 3) := law_dg lawT_ok (by decide +kernel)
theorem dl_284 : decode code 284 = .ok (.if_icmp .eq 485, 3) := law_dg lawT_ok (by decide +kernel)
theorem dl_287 : decode code 287 = .ok (.iconst 0, 1) := law_dg lawT_ok (by decide +kernel)
theorem dl_288 : decode code 288 = .ok (.ireturn, 1) := law_dg lawT_ok (by decide +kernel)
theorem dl_289 : decode code 289 = .ok (.aload_n 1, 1) := law_dg lawT_ok (by decide +kernel)
theorem dl_290 : decode code 290 = .ok (.aload_n 0, 1) := law_dg lawT_ok (by decide +kernel)
theorem dl_291 : decode code 291 = .ok (.iload_n 3, 1) := law_dg lawT_ok (by decide +kernel)
theorem dl_292 : decode code 292 = .ok (.iconst 1, 1) := law_dg lawT_ok (by decide +kernel)
theorem dl_293 : decode code 293 = .ok (.iadd, 1) := law_dg lawT_ok (by decide +kernel)
theorem dl_294 : decode code 294 = .ok (.iaload, 1) := law_dg lawT_ok (by decide +kernel)
theorem dl_295 : decode code 295 = .ok (.invokevirtual 37, 3) := law_dg lawT_ok (by decide +kernel)
theorem dl_298 : decode code 298 = .ok (.aload_n 2, 1) := law_dg lawT_ok (by decide +kernel)
theorem dl_299 : decode code 299 = .ok (.aload_n 0, 1) := law_dg lawT_ok (by decide +kernel)
theorem dl_300 : decode code 300 = .ok (.iload_n 3, 1) := law_dg lawT_ok (by decide +kernel)
theorem dl_301 : decode code 301 = .ok (.iconst 1, 1) := law_dg lawT_ok (by decide +kernel)
theorem dl_302 : decode code 302 = .ok (.iadd, 1) := law_dg lawT_ok (by decide +kernel)
theorem dl_303 : decode code 303 = .ok (.iaload, 1) := law_dg lawT_ok (by decide +kernel)
theorem dl_304 : decode code 304 = .ok (.invokevirtual 40, 3) := law_dg lawT_ok (by decide +kernel)
theorem dl_307 : decode code 307 = .ok (.if_icmp .eq 462, 3) := law_dg lawT_ok (by decide +kernel)
theorem dl_310 : decode code 310 = .ok (.iconst 0, 1) := law_dg lawT_ok (by decide +kernel)
theorem dl_311 : decode code 311 = .ok (.ireturn, 1) := law_dg lawT_ok (by decide +kernel)
theorem dl_312 : decode code 312 = .ok (.aload_n 1, 1) := law_dg lawT_ok (by decide +kernel)
theorem dl_313 : decode code 313 = .ok (.aload_n 0, 1) := law_dg lawT_ok (by decide +kernel)
theorem dl_314 : decode code 314 = .ok (.iload_n 3, 1) := law_dg lawT_ok (by decide +kernel)
theorem dl_315 : decode code 315 = .ok (.iconst 1, 1) := law_dg lawT_ok (by decide +kernel)
theorem dl_316 : decode code 316 = .ok (.iadd, 1) := law_dg lawT_ok (by decide +kernel)
theorem dl_317 : decode code 317 = .ok (.iaload, 1) := law_dg lawT_ok (by decide +kernel)
theorem dl_318 : decode code 318 = .ok (.invokevirtual 41, 3) := law_dg lawT_ok (by decide +kernel)
theorem dl_321 : decode code 321 = .ok (.aload_n 2, 1) := law_dg lawT_ok (by decide +kernel)
theorem dl_322 : decode code 322 = .ok (.aload_n 0, 1) := law_dg lawT_ok (by decide +kernel)
theorem dl_323 : decode code 323 = .ok (.iload_n 3, 1) := law_dg lawT_ok (by decide +kernel)
theorem dl_324 : decode code 324 = .ok (.iconst 1, 1) := law_dg lawT_ok (by decide +kernel)
theorem dl_325 : decode code 325 = .ok (.iadd, 1) := law_dg lawT_ok (by decide +kernel)
theorem dl_326 : decode code 326 = .ok (.iaload, 1) := law_dg lawT_ok (by decide +kernel)
theorem dl_327 : decode code 327 = .ok (.invokevirtual 44, 3) := law_dg lawT_ok (by decide +kernel)
theorem dl_330 : decode code 330 = .ok (.if_icmp .eq 439, 3) := law_dg lawT_ok (by decide +kernel)
theorem dl_333 : decode code 333 = .ok (.iconst 0, 1) := law_dg lawT_ok (by decide +kernel)
theorem dl_334 : decode code 334 = .ok (.ireturn, 1) := law_dg lawT_ok (by decide +kernel)
theorem dl_335 : decode code 335 = .ok (.aload_n 1, 1) := law_dg lawT_ok (by decide +kernel)
theorem dl_336 : decode code 336 = .ok (.aload_n 0, 1) := law_dg lawT_ok (by decide +kernel)
theorem dl_337 : decode code 337 = .ok (.iload_n 3, 1) := law_dg lawT_ok (by decide +kernel)
theorem dl_338 : decode code 338 = .ok (.iconst 1, 1) := law_dg lawT_ok (by decide +kernel)
theorem dl_339 : decode code 339 = .ok (.iadd, 1) := law_dg lawT_ok (by decide +kernel)
theorem dl_340 : decode code 340 = .ok (.iaload, 1) := law_dg lawT_ok (by decide +kernel)
theorem dl_341 : decode code 341 = .ok (.invokevirtual 45, 3) := law_dg lawT_ok (by decide +kernel)
theorem dl_344 : decode code 344 = .ok (.aload_n 2, 1) := law_dg lawT_ok (by decide +kernel)
theorem dl_345 : decode code 345 = .ok (.aload_n 0, 1) := law_dg lawT_ok (by decide +kernel)
theorem dl_346 : decode code 346 = .ok (.iload_n 3, 1) := law_dg lawT_ok (by decide +kernel)
theorem dl_347 : decode code 347 = .ok (.iconst 1, 1) := law_dg lawT_ok (by decide +kernel)
theorem dl_348 : decode code 348 = .ok (.iadd, 1) := law_dg lawT_ok (by decide +kernel)
theorem dl_349 : decode code 349 = .ok (.iaload, 1) := law_dg lawT_ok (by decide +kernel)
theorem dl_350 : decode code 350 = .ok (.invokevirtual 48, 3) := law_dg lawT_ok (by decide +kernel)
theorem dl_353 : decode code 353 = .ok (.if_icmp .eq 416, 3) := law_dg lawT_ok (by decide +kernel)
theorem dl_356 : decode code 356 = .ok (.iconst 0, 1) := law_dg lawT_ok (by decide +kernel)
theorem dl_357 : decode code 357 = .ok (.ireturn, 1) := law_dg lawT_ok (by decide +kernel)
theorem dl_358 : decode code 358 = .ok (.aload_n 1, 1) := law_dg lawT_ok (by decide +kernel)
theorem dl_359 : decode code 359 = .ok (.aload_n 0, 1) := law_dg lawT_ok (by decide +kernel)
theorem dl_360 : decode code 360 = .ok (.iload_n 3, 1) := law_dg lawT_ok (by decide +kernel)
theorem dl_361 : decode code 361 = .ok (.iconst 1, 1) := law_dg lawT_ok (by decide +kernel)
theorem dl_362 : decode code 362 = .ok (.iadd, 1) := law_dg lawT_ok (by decide +kernel)
theorem dl_363 : decode code 363 = .ok (.iaload, 1) := law_dg lawT_ok (by decide +kernel)
theorem dl_364 : decode code 364 = .ok (.invokevirtual 49, 3) := law_dg lawT_ok (by decide +kernel)
theorem dl_367 : decode code 367 = .ok (.aload_n 2, 1) := law_dg lawT_ok (by decide +kernel)
theorem dl_368 : decode code 368 = .ok (.aload_n 0, 1) := law_dg lawT_ok (by decide +kernel)
theorem dl_369 : decode code 369 = .ok (.iload_n 3, 1) := law_dg lawT_ok (by decide +kernel)
theorem dl_370 : decode code 370 = .ok (.iconst 1, 1) := law_dg lawT_ok (by decide +kernel)
theorem dl_371 : decode code 371 = .ok (.iadd, 1) := law_dg lawT_ok (by decide +kernel)
theorem dl_372 : decode code 372 = .ok (.iaload, 1) := law_dg lawT_ok (by decide +kernel)
theorem dl_373 : decode code 373 = .ok (.invokevirtual 52, 3) := law_dg lawT_ok (by decide +kernel)
theorem dl_376 : decode code 376 = .ok (.if_icmp .eq 393, 3) := law_dg lawT_ok (by decide +kernel)
theorem dl_379 : decode code 379 = .ok (.iconst 0, 1) := law_dg lawT_ok (by decide +kernel)
theorem dl_380 : decode code 380 = .ok (.ireturn, 1) := law_dg lawT_ok (by decide +kernel)
theorem dl_381 : decode code 381 = .ok (.aload_n 1, 1) := law_dg lawT_ok (by decide +kernel)
theorem dl_382 : decode code 382 = .ok (.invokevirtual 53, 3) := law_dg lawT_ok (by decide +kernel)
theorem dl_385 : decode code 385 = .ok (.aload_n 2, 1) := law_dg lawT_ok (by decide +kernel)
theorem dl_386 : decode code 386 = .ok (.invokevirtual 56, 3) := law_dg lawT_ok (by decide +kernel)
theorem dl_389 : decode code 389 = .ok (.if_icmp .eq 380, 3) := law_dg lawT_ok (by decide +kernel)
theorem dl_392 : decode code 392 = .ok (.iconst 0, 1) := law_dg lawT_ok (by decide +kernel)
theorem dl_393 : decode code 393 = .ok (.ireturn, 1) := law_dg lawT_ok (by decide +kernel)
theorem dl_394 : decode code 394 = .ok (.aload_n 1, 1) := law_dg lawT_ok (by decide +kernel)
theorem dl_395 : decode code 395 = .ok (.aload_n 0, 1) := law_dg lawT_ok (by decide +kernel)
theorem dl_396 : decode code 396 = .ok (.iload_n 3, 1) := law_dg lawT_ok (by decide +kernel)
theorem dl_397 : decode code 397 = .ok (.iconst 1, 1) := law_dg lawT_ok (by decide +kernel)
theorem dl_398 : decode code 398 = .ok (.iadd, 1) := law_dg lawT_ok (by decide +kernel)
theorem dl_399 : decode code 399 = .ok (.iaload, 1) := law_dg lawT_ok (by decide +kernel)
theorem dl_400 : decode code 400 = .ok (.aload_n 0, 1) := law_dg lawT_ok (by decide +kernel)
theorem dl_401 : decode code 401 = .ok (.iload_n 3, 1) := law_dg lawT_ok (by decide +kernel)
theorem dl_402 : decode code 402 = .ok (.iconst 2, 1) := law_dg lawT_ok (by decide +kernel)
theorem dl_403 : decode code 403 = .ok (.iadd, 1) := law_dg lawT_ok (by decide +kernel)
theorem dl_404 : decode code 404 = .ok (.iaload, 1) := law_dg lawT_ok (by decide +kernel)
theorem dl_405 : decode code 405 = .ok (.invokevirtual 57, 3) := law_dg lawT_ok (by decide +kernel)
theorem dl_408 : decode code 408 = .ok (.aload_n 2, 1) := law_dg lawT_ok (by decide +kernel)
theorem dl_409 : decode code 409 = .ok (.aload_n 0, 1) := law_dg lawT_ok (by decide +kernel)
theorem dl_410 : decode code 410 = .ok (.iload_n 3, 1) := law_dg lawT_ok (by decide +kernel)
theorem dl_411 : decode code 411 = .ok (.iconst 1, 1) := law_dg lawT_ok (by decide +kernel)
theorem dl_412 : decode code 412 = .ok (.iadd, 1) := law_dg lawT_ok (by decide +kernel)
theorem dl_413 : decode code 413 = .ok (.iaload, 1) := law_dg lawT_ok (by decide +kernel)
theorem dl_414 : decode code 414 = .ok (.aload_n 0, 1) := law_dg lawT_ok (by decide +kernel)
theorem dl_415 : decode code 415 = .ok (.iload_n 3, 1) := law_dg lawT_ok (by decide +kernel)
theorem dl_416 : decode code 416 = .ok (.iconst 2, 1) := law_dg lawT_ok (by decide +kernel)
theorem dl_417 : decode code 417 = .ok (.iadd, 1) := law_dg lawT_ok (by decide +kernel)
theorem dl_418 : decode code 418 = .ok (.iaload, 1) := law_dg lawT_ok (by decide +kernel)
theorem dl_419 : decode code 419 = .ok (.invokevirtual 60, 3) := law_dg lawT_ok (by decide +kernel)
theorem dl_422 : decode code 422 = .ok (.if_icmp .eq 347, 3) := law_dg lawT_ok (by decide +kernel)
theorem dl_425 : decode code 425 = .ok (.iconst 0, 1) := law_dg lawT_ok (by decide +kernel)
theorem dl_426 : decode code 426 = .ok (.ireturn, 1) := law_dg lawT_ok (by decide +kernel)
theorem dl_427 : decode code 427 = .ok (.aload_n 1, 1) := law_dg lawT_ok (by decide +kernel)
theorem dl_428 : decode code 428 = .ok (.aload_n 0, 1) := law_dg lawT_ok (by decide +kernel)
theorem dl_429 : decode code 429 = .ok (.iload_n 3, 1) := law_dg lawT_ok (by decide +kernel)
theorem dl_430 : decode code 430 = .ok (.iconst 1, 1) := law_dg lawT_ok (by decide +kernel)
theorem dl_431 : decode code 431 = .ok (.iadd, 1) := law_dg lawT_ok (by decide +kernel)
theorem dl_432 : decode code 432 = .ok (.iaload, 1) := law_dg lawT_ok (by decide +kernel)
theorem dl_433 : decode code 433 = .ok (.aload_n 0, 1) := law_dg lawT_ok (by decide +kernel)
theorem dl_434 : decode code 434 = .ok (.iload_n 3, 1) := law_dg lawT_ok (by decide +kernel)
theorem dl_435 : decode code 435 = .ok (.iconst 2, 1) := law_dg lawT_ok (by decide +kernel)
theorem dl_436 : decode code 436 = .ok (.iadd, 1) := law_dg lawT_ok (by decide +kernel)
theorem dl_437 : decode code 437 = .ok (.iaload, 1) := law_dg lawT_ok (by decide +kernel)
theorem dl_438 : decode code 438 = .ok (.invokevirtual 61, 3) := law_dg lawT_ok (by decide +kernel)
theorem dl_441 : decode code 441 = .ok (.aload_n 2, 1) := law_dg lawT_ok (by decide +kernel)
theorem dl_442 : decode code 442 = .ok (.aload_n 0, 1) := law_dg lawT_ok (by decide +kernel)
theorem dl_443 : decode code 443 = .ok (.iload_n 3, 1) := law_dg lawT_ok (by decide +kernel)
theorem dl_444 : decode code 444 = .ok (.iconst 1, 1) := law_dg lawT_ok (by decide +kernel)
theorem dl_445 : decode code 445 = .ok (.iadd, 1) := law_dg lawT_ok (by decide +kernel)
theorem dl_446 : decode code 446 = .ok (.iaload, 1) := law_dg lawT_ok (by decide +kernel)
theorem dl_447 : decode code 447 = .ok (.aload_n 0, 1) := law_dg lawT_ok (by decide +kernel)
theorem dl_448 : decode code 448 = .ok (.iload_n 3, 1) := law_dg lawT_ok (by decide +kernel)
theorem dl_449 : decode code 449 = .ok (.iconst 2, 1) := law_dg lawT_ok (by decide +kernel)
theorem dl_450 : decode code 450 = .ok (.iadd, 1) := law_dg lawT_ok (by decide +kernel)
theorem dl_451 : decode code 451 = .ok (.iaload, 1) := law_dg lawT_ok (by decide +kernel)
theorem dl_452 : decode code 452 = .ok (.invokevirtual 64, 3) := law_dg lawT_ok (by decide +kernel)
theorem dl_455 : decode code 455 = .ok (.if_icmp .eq 314, 3) := law_dg lawT_ok (by decide +kernel)
theorem dl_458 : decode code 458 = .ok (.iconst 0, 1) := law_dg lawT_ok (by decide +kernel)
theorem dl_459 : decode code 459 = .ok (.ireturn, 1) := law_dg lawT_ok (by decide +kernel)
theorem dl_460 : decode code 460 = .ok (.aload_n 1, 1) := law_dg lawT_ok (by decide +kernel)
theorem dl_461 : decode code 461 = .ok (.aload_n 0, 1) := law_dg lawT_ok (by decide +kernel)
theorem dl_462 : decode code 462 = .ok (.iload_n 3, 1) := law_dg lawT_ok (by decide +kernel)
theorem dl_463 : decode code 463 = .ok (.iconst 1, 1) := law_dg lawT_ok (by decide +kernel)
theorem dl_464 : decode code 464 = .ok (.iadd, 1) := law_dg lawT_ok (by decide +kernel)
theorem dl_465 : decode code 465 = .ok (.iaload, 1) := law_dg lawT_ok (by decide +kernel)
theorem dl_466 : decode code 466 = .ok (.aload_n 0, 1) := law_dg lawT_ok (by decide +kernel)
theorem dl_467 : decode code 467 = .ok (.iload_n 3, 1) := law_dg lawT_ok (by decide +kernel)
theorem dl_468 : decode code 468 = .ok (.iconst 2, 1) := law_dg lawT_ok (by decide +kernel)
theorem dl_469 : decode code 469 = .ok (.iadd, 1) := law_dg lawT_ok (by decide +kernel)
theorem dl_470 : decode code 470 = .ok (.iaload, 1) := law_dg lawT_ok (by decide +kernel)
theorem dl_471 : decode code 471 = .ok (.invokevirtual 65, 3) := law_dg lawT_ok (by decide +kernel)
theorem dl_474 : decode code 474 = .ok (.aload_n 2, 1) := law_dg lawT_ok (by decide +kernel)
theorem dl_475 : decode code 475 = .ok (.aload_n 0, 1) := law_dg lawT_ok (by decide +kernel)
theorem dl_476 : decode code 476 = .ok (.iload_n 3, 1) := law_dg lawT_ok (by decide +kernel)
theorem dl_477 : decode code 477 = .ok (.iconst 1, 1) := law_dg lawT_ok (by decide +kernel)
theorem dl_478 : decode code 478 = .ok (.iadd, 1) := law_dg lawT_ok (by decide +kernel)
theorem dl_479 : decode code 479 = .ok (.iaload, 1) := law_dg lawT_ok (by decide +kernel)
theorem dl_480 : decode code 480 = .ok (.aload_n 0, 1) := law_dg lawT_ok (by decide +kernel)
theorem dl_481 : decode code 481 = .ok (.iload_n 3, 1) := law_dg lawT_ok (by decide +kernel)
theorem dl_482 : decode code 482 = .ok (.iconst 2, 1) := law_dg lawT_ok (by decide +kernel)
theorem dl_483 : decode code 483 = .ok (.iadd, 1) := law_dg lawT_ok (by decide +kernel)
theorem dl_484 : decode code 484 = .ok (.iaload, 1) := law_dg lawT_ok (by decide +kernel)
theorem dl_485 : decode code 485 = .ok (.invokevirtual 68, 3) := law_dg lawT_ok (by decide +kernel)
theorem dl_488 : decode code 488 = .ok (.if_icmp .eq 281, 3) := law_dg lawT_ok (by decide +kernel)
theorem dl_491 : decode code 491 = .ok (.iconst 0, 1) := law_dg lawT_ok (by decide +kernel)
theorem dl_492 : decode code 492 = .ok (.ireturn, 1) := law_dg lawT_ok (by decide +kernel)
theorem dl_493 : decode code 493 = .ok (.aload_n 1, 1) := law_dg lawT_ok (by decide +kernel)
theorem dl_494 : decode code 494 = .ok (.aload_n 0, 1) := law_dg lawT_ok (by decide +kernel)
theorem dl_495 : decode code 495 = .ok (.iload_n 3, 1) := law_dg lawT_ok (by decide +kernel)
theorem dl_496 : decode code 496 = .ok (.iconst 1, 1) := law_dg lawT_ok (by decide +kernel)
theorem dl_497 : decode code 497 = .ok (.iadd, 1) := law_dg lawT_ok (by decide +kernel)
theorem dl_498 : decode code 498 = .ok (.iaload, 1) := law_dg lawT_ok (by decide +kernel)
theorem dl_499 : decode code 499 = .ok (.aload_n 0, 1) := law_dg lawT_ok (by decide +kernel)
theorem dl_500 : decode code 500 = .ok (.iload_n 3, 1) := law_dg lawT_ok (by decide +kernel)
theorem dl_501 : decode code 501 = .ok (.iconst 2, 1) := law_dg lawT_ok (by decide +kernel)
theorem dl_502 : decode code 502 = .ok (.iadd, 1) := law_dg lawT_ok (by decide +kernel)
theorem dl_503 : decode code 503 = .ok (.iaload, 1) := law_dg lawT_ok (by decide +kernel)
theorem dl_504 : decode code 504 = .ok (.invokevirtual 69, 3) := law_dg lawT_ok (by decide +kernel)
theorem dl_507 : decode code 507 = .ok (.aload_n 2, 1) := law_dg lawT_ok (by decide +kernel)
theorem dl_508 : decode code 508 = .ok (.aload_n 0, 1) := law_dg lawT_ok (by decide +kernel)
theorem dl_509 : decode code 509 = .ok (.iload_n 3, 1) := law_dg lawT_ok (by decide +kernel)
theorem dl_510 : decode code 510 = .ok (.iconst 1, 1) := law_dg lawT_ok (by decide +kernel)
theorem dl_511 : decode code 511 = .ok (.iadd, 1) := law_dg lawT_ok (by decide +kernel)
theorem dl_512 : decode code 512 = .ok (.iaload, 1) := law_dg lawT_ok (by decide +kernel)
theorem dl_513 : decode code 513 = .ok (.aload_n 0, 1) := law_dg lawT_ok (by decide +kernel)
theorem dl_514 : decode code 514 = .ok (.iload_n 3, 1) := law_dg lawT_ok (by decide +kernel)
theorem dl_515 : decode code 515 = .ok (.iconst 2, 1) := law_dg lawT_ok (by decide +kernel)
theorem dl_516 : decode code 516 = .ok (.iadd, 1) := law_dg lawT_ok (by decide +kernel)
theorem dl_517 : decode code 517 = .ok (.iaload, 1) := law_dg lawT_ok (by decide +kernel)
theorem dl_518 : decode code 518 = .ok (.invokevirtual 72, 3) := law_dg lawT_ok (by decide +kernel)
theorem dl_521 : decode code 521 = .ok (.if_icmp .eq 248, 3) := law_dg lawT_ok (by decide +kernel)
theorem dl_524 : decode code 524 = .ok (.iconst 0, 1) := law_dg lawT_ok (by decide +kernel)
theorem dl_525 : decode code 525 = .ok (.ireturn, 1) := law_dg lawT_ok (by decide +kernel)
theorem dl_526 : decode code 526 = .ok (.aload_n 1, 1) := law_dg lawT_ok (by decide +kernel)
theorem dl_527 : decode code 527 = .ok (.aload_n 0, 1) := law_dg lawT_ok (by decide +kernel)
theorem dl_528 : decode code 528 = .ok (.iload_n 3, 1) := law_dg lawT_ok (by decide +kernel)
theorem dl_529 : decode code 529 = .ok (.iconst 1, 1) := law_dg lawT_ok (by decide +kernel)
theorem dl_530 : decode code 530 = .ok (.iadd, 1) := law_dg lawT_ok (by decide +kernel)
theorem dl_531 : decode code 531 = .ok (.iaload, 1) := law_dg lawT_ok (by decide +kernel)
theorem dl_532 : decode code 532 = .ok (.invokevirtual 73, 3) := law_dg lawT_ok (by decide +kernel)
theorem dl_535 : decode code 535 = .ok (.aload_n 2, 1) := law_dg lawT_ok (by decide +kernel)
theorem dl_536 : decode code 536 = .ok (.aload_n 0, 1) := law_dg lawT_ok (by decide +kernel)
theorem dl_537 : decode code 537 = .ok (.iload_n 3, 1) := law_dg lawT_ok (by decide +kernel)
theorem dl_538 : decode code 538 = .ok (.iconst 1, 1) := law_dg lawT_ok (by decide +kernel)
theorem dl_539 : decode code 539 = .ok (.iadd, 1) := law_dg lawT_ok (by decide +kernel)
theorem dl_540 : decode code 540 = .ok (.iaload, 1) := law_dg lawT_ok (by decide +kernel)
theorem dl_541 : decode code 541 = .ok (.invokevirtual 76, 3) := law_dg lawT_ok (by decide +kernel)
theorem dl_544 : decode code 544 = .ok (.if_icmp .eq 225, 3) := law_dg lawT_ok (by decide +kernel)
theorem dl_547 : decode code 547 = .ok (.iconst 0, 1) := law_dg lawT_ok (by decide +kernel)
theorem dl_548 : decode code 548 = .ok (.ireturn, 1) := law_dg lawT_ok (by decide +kernel)
theorem dl_549 : decode code 549 = .ok (.aload_n 1, 1) := law_dg lawT_ok (by decide +kernel)
theorem dl_550 : decode code 550 = .ok (.invokevirtual 77, 3) := law_dg lawT_ok (by decide +kernel)
theorem dl_553 : decode code 553 = .ok (.aload_n 2, 1) := law_dg lawT_ok (by decide +kernel)
theorem dl_554 : decode code 554 = .ok (.invokevirtual 80, 3) := law_dg lawT_ok (by decide +kernel)
theorem dl_557 : decode code 557 = .ok (.if_icmp .eq 212, 3) := law_dg lawT_ok (by decide +kernel)
theorem dl_560 : decode code 560 = .ok (.iconst 0, 1) := law_dg lawT_ok (by decide +kernel)
theorem dl_561 : decode code 561 = .ok (.ireturn, 1) := law_dg lawT_ok (by decide +kernel)
theorem dl_562 : decode code 562 = .ok (.aload_n 1, 1) := law_dg lawT_ok (by decide +kernel)
theorem dl_563 : decode code 563 = .ok (.aload_n 0, 1) := law_dg lawT_ok (by decide +kernel)
theorem dl_564 : decode code 564 = .ok (.iload_n 3, 1) := law_dg lawT_ok (by decide +kernel)
theorem dl_565 : decode code 565 = .ok (.iconst 1, 1) := law_dg lawT_ok (by decide +kernel)
theorem dl_566 : decode code 566 = .ok (.iadd, 1) := law_dg lawT_ok (by decide +kernel)
theorem dl_567 : decode code 567 = .ok (.iaload, 1) := law_dg lawT_ok (by decide +kernel)
theorem dl_568 : decode code 568 = .ok (.invokevirtual 81, 3) := law_dg lawT_ok (by decide +kernel)
theorem dl_571 : decode code 571 = .ok (.aload_n 2, 1) := law_dg lawT_ok (by decide +kernel)
theorem dl_572 : decode code 572 = .ok (.aload_n 0, 1) := law_dg lawT_ok (by decide +kernel)
theorem dl_573 : decode code 573 = .ok (.iload_n 3, 1) := law_dg lawT_ok (by decide +kernel)
theorem dl_574 : decode code 574 = .ok (.iconst 1, 1) := law_dg lawT_ok (by decide +kernel)
theorem dl_575 : decode code 575 = .ok (.iadd, 1) := law_dg lawT_ok (by decide +kernel)
theorem dl_576 : decode code 576 = .ok (.iaload, 1) := law_dg lawT_ok (by decide +kernel)
theorem dl_577 : decode code 577 = .ok (.invokevirtual 84, 3) := law_dg lawT_ok (by decide +kernel)
theorem dl_580 : decode code 580 = .ok (.if_icmp .eq 189, 3) := law_dg lawT_ok (by decide +kernel)
theorem dl_583 : decode code 583 = .ok (.iconst 0, 1) := law_dg lawT_ok (by decide +kernel)
theorem dl_584 : decode code 584 = .ok (.ireturn, 1) := law_dg lawT_ok (by decide +kernel)
theorem dl_585 : decode code 585 = .ok (.aload_n 1, 1) := law_dg lawT_ok (by decide +kernel)
theorem dl_586 : decode code 586 = .ok (.aload_n 0, 1) := law_dg lawT_ok (by decide +kernel)
theorem dl_587 : decode code 587 = .ok (.iload_n 3, 1) := law_dg lawT_ok (by decide +kernel)
theorem dl_588 : decode code 588 = .ok (.iconst 1, 1) := law_dg lawT_ok (by decide +kernel)
theorem dl_589 : decode code 589 = .ok (.iadd, 1) := law_dg lawT_ok (by decide +kernel)
theorem dl_590 : decode code 590 = .ok (.iaload, 1) := law_dg lawT_ok (by decide +kernel)
theorem dl_591 : decode code 591 = .ok (.aload_n 0, 1) := law_dg lawT_ok (by decide +kernel)
theorem dl_592 : decode code 592 = .ok (.iload_n 3, 1) := law_dg lawT_ok (by decide +kernel)
theorem dl_593 : decode code 593 = .ok (.iconst 2, 1) := law_dg lawT_ok (by decide +kernel)
theorem dl_594 : decode code 594 = .ok (.iadd, 1) := law_dg lawT_ok (by decide +kernel)
theorem dl_595 : decode code 595 = .ok (.iaload, 1) := law_dg lawT_ok (by decide +kernel)
theorem dl_596 : decode code 596 = .ok (.invokevirtual 85, 3) := law_dg lawT_ok (by decide +kernel)
theorem dl_599 : decode code 599 = .ok (.aload_n 2, 1) := law_dg lawT_ok (by decide +kernel)
theorem dl_600 : decode code 600 = .ok (.aload_n 0, 1) := law_dg lawT_ok (by decide +kernel)
theorem dl_601 : decode code 601 = .ok (.iload_n 3, 1) := law_dg lawT_ok (by decide +kernel)
theorem dl_602 : decode code 602 = .ok (.iconst 1, 1) := law_dg lawT_ok (by decide +kernel)
theorem dl_603 : decode code 603 = .ok (.iadd, 1) := law_dg lawT_ok (by decide +kernel)
theorem dl_604 : decode code 604 = .ok (.iaload, 1) := law_dg lawT_ok (by decide +kernel)
theorem dl_605 : decode code 605 = .ok (.aload_n 0, 1) := law_dg lawT_ok (by decide +kernel)
theorem dl_606 : decode code 606 = .ok (.iload_n 3, 1) := law_dg lawT_ok (by decide +kernel)
theorem dl_607 : decode code 607 = .ok (.iconst 2, 1) := law_dg lawT_ok (by decide +kernel)
theorem dl_608 : decode code 608 = .ok (.iadd, 1) := law_dg lawT_ok (by decide +kernel)
theorem dl_609 : decode code 609 = .ok (.iaload, 1) := law_dg lawT_ok (by decide +kernel)
theorem dl_610 : decode code 610 = .ok (.invokevirtual 88, 3) := law_dg lawT_ok (by decide +kernel)
theorem dl_613 : decode code 613 = .ok (.if_icmp .eq 156, 3) := law_dg lawT_ok (by decide +kernel)
theorem dl_616 : decode code 616 = .ok (.iconst 0, 1) := law_dg lawT_ok (by decide +kernel)
theorem dl_617 : decode code 617 = .ok (.ireturn, 1) := law_dg lawT_ok (by decide +kernel)
theorem dl_618 : decode code 618 = .ok (.aload_n 1, 1) := law_dg lawT_ok (by decide +kernel)
theorem dl_619 : decode code 619 = .ok (.aload_n 0, 1) := law_dg lawT_ok (by decide +kernel)
theorem dl_620 : decode code 620 = .ok (.iload_n 3, 1) := law_dg lawT_ok (by decide +kernel)
theorem dl_621 : decode code 621 = .ok (.iconst 1, 1) := law_dg lawT_ok (by decide +kernel)
theorem dl_622 : decode code 622 = .ok (.iadd, 1) := law_dg lawT_ok (by decide +kernel)
theorem dl_623 : decode code 623 = .ok (.iaload, 1) := law_dg lawT_ok (by decide +kernel)
theorem dl_624 : decode code 624 = .ok (.aload_n 0, 1) := law_dg lawT_ok (by decide +kernel)
theorem dl_625 : decode code 625 = .ok (.iload_n 3, 1) := law_dg lawT_ok (by decide +kernel)
theorem dl_626 : decode code 626 = .ok (.iconst 2, 1) := law_dg lawT_ok (by decide +kernel)
theorem dl_627 : decode code 627 = .ok (.iadd, 1) := law_dg lawT_ok (by decide +kernel)
theorem dl_628 : decode code 628 = .ok (.iaload, 1) := law_dg lawT_ok (by decide +kernel)
theorem dl_629 : decode code 629 = .ok (.invokevirtual 89, 3) := law_dg lawT_ok (by decide +kernel)
theorem dl_632 : decode code 632 = .ok (.aload_n 2, 1) := law_dg lawT_ok (by decide +kernel)
theorem dl_633 : decode code 633 = .ok (.aload_n 0, 1) := law_dg lawT_ok (by decide +kernel)
theorem dl_634 : decode code 634 = .ok (.iload_n 3, 1) := law_dg lawT_ok (by decide +kernel)
theorem dl_635 : decode code 635 = .ok (.iconst 1, 1) := law_dg lawT_ok (by decide +kernel)
theorem dl_636 : decode code 636 = .ok (.iadd, 1) := law_dg lawT_ok (by decide +kernel)
theorem dl_637 : decode code 637 = .ok (.iaload, 1) := law_dg lawT_ok (by decide +kernel)
theorem dl_638 : decode code 638 = .ok (.aload_n 0, 1) := law_dg lawT_ok (by decide +kernel)
theorem dl_639 : decode code 639 = .ok (.iload_n 3, 1) := law_dg lawT_ok (by decide +kernel)
theorem dl_640 : decode code 640 = .ok (.iconst 2, 1) := law_dg lawT_ok (by decide +kernel)
theorem dl_641 : decode code 641 = .ok (.iadd, 1) := law_dg lawT_ok (by decide +kernel)
theorem dl_642 : decode code 642 = .ok (.iaload, 1) := law_dg lawT_ok (by decide +kernel)
theorem dl_643 : decode code 643 = .ok (.invokevirtual 92, 3) := law_dg lawT_ok (by decide +kernel)
theorem dl_646 : decode code 646 = .ok (.if_icmp .eq 123, 3) := law_dg lawT_ok (by decide +kernel)
theorem dl_649 : decode code 649 = .ok (.iconst 0, 1) := law_dg lawT_ok (by decide +kernel)
theorem dl_650 : decode code 650 = .ok (.ireturn, 1) := law_dg lawT_ok (by decide +kernel)
theorem dl_651 : decode code 651 = .ok (.aload_n 1, 1) := law_dg lawT_ok (by decide +kernel)
theorem dl_652 : decode code 652 = .ok (.aload_n 0, 1) := law_dg lawT_ok (by decide +kernel)
theorem dl_653 : decode code 653 = .ok (.iload_n 3, 1) := law_dg lawT_ok (by decide +kernel)
theorem dl_654 : decode code 654 = .ok (.iconst 1, 1) := law_dg lawT_ok (by decide +kernel)
theorem dl_655 : decode code 655 = .ok (.iadd, 1) := law_dg lawT_ok (by decide +kernel)
theorem dl_656 : decode code 656 = .ok (.iaload, 1) := law_dg lawT_ok (by decide +kernel)
theorem dl_657 : decode code 657 = .ok (.invokevirtual 93, 3) := law_dg lawT_ok (by decide +kernel)
theorem dl_660 : decode code 660 = .ok (.aload_n 2, 1) := law_dg lawT_ok (by decide +kernel)
theorem dl_661 : decode code 661 = .ok (.aload_n 0, 1) := law_dg lawT_ok (by decide +kernel)
theorem dl_662 : decode code 662 = .ok (.iload_n 3, 1) := law_dg lawT_ok (by decide +kernel)
theorem dl_663 : decode code 663 = .ok (.iconst 1, 1) := law_dg lawT_ok (by decide +kernel)
theorem dl_664 : decode code 664 = .ok (.iadd, 1) := law_dg lawT_ok (by decide +kernel)
theorem dl_665 : decode code 665 = .ok (.iaload, 1) := law_dg lawT_ok (by decide +kernel)
theorem dl_666 : decode code 666 = .ok (.invokevirtual 96, 3) := law_dg lawT_ok (by decide +kernel)
theorem dl_669 : decode code 669 = .ok (.if_icmp .eq 100, 3) := law_dg lawT_ok (by decide +kernel)
theorem dl_672 : decode code 672 = .ok (.iconst 0, 1) := law_dg lawT_ok (by decide +kernel)
theorem dl_673 : decode code 673 = .ok (.ireturn, 1) := law_dg lawT_ok (by decide +kernel)
theorem dl_674 : decode code 674 = .ok (.aload_n 1, 1) := law_dg lawT_ok (by decide +kernel)
theorem dl_675 : decode code 675 = .ok (.aload_n 0, 1) := law_dg lawT_ok (by decide +kernel)
theorem dl_676 : decode code 676 = .ok (.iload_n 3, 1) := law_dg lawT_ok (by decide +kernel)
theorem dl_677 : decode code 677 = .ok (.iconst 1, 1) := law_dg lawT_ok (by decide +kernel)
theorem dl_678 : decode code 678 = .ok (.iadd, 1) := law_dg lawT_ok (by decide +kernel)
theorem dl_679 : decode code 679 = .ok (.iaload, 1) := law_dg lawT_ok (by decide +kernel)
theorem dl_680 : decode code 680 = .ok (.aload_n 0, 1) := law_dg lawT_ok (by decide +kernel)
theorem dl_681 : decode code 681 = .ok (.iload_n 3, 1) := law_dg lawT_ok (by decide +kernel)
theorem dl_682 : decode code 682 = .ok (.iconst 2, 1) := law_dg lawT_ok (by decide +kernel)
theorem dl_683 : decode code 683 = .ok (.iadd, 1) := law_dg lawT_ok (by decide +kernel)
theorem dl_684 : decode code 684 = .ok (.iaload, 1) := law_dg lawT_ok (by decide +kernel)
theorem dl_685 : decode code 685 = .ok (.invokevirtual 97, 3) := law_dg lawT_ok (by decide +kernel)
theorem dl_688 : decode code 688 = .ok (.aload_n 2, 1) := law_dg lawT_ok (by decide +kernel)
theorem dl_689 : decode code 689 = .ok (.aload_n 0, 1) := law_dg lawT_ok (by decide +kernel)
theorem dl_690 : decode code 690 = .ok (.iload_n 3, 1) := law_dg lawT_ok (by decide +kernel)
theorem dl_691 : decode code 691 = .ok (.iconst 1, 1) := law_dg lawT_ok (by decide +kernel)
theorem dl_692 : decode code 692 = .ok (.iadd, 1) := law_dg lawT_ok (by decide +kernel)
theorem dl_693 : decode code 693 = .ok (.iaload, 1) := law_dg lawT_ok (by decide +kernel)
theorem dl_694 : decode code 694 = .ok (.aload_n 0, 1) := law_dg lawT_ok (by decide +kernel)
theorem dl_695 : decode code 695 = .ok (.iload_n 3, 1) := law_dg lawT_ok (by decide +kernel)
theorem dl_696 : decode code 696 = .ok (.iconst 2, 1) := law_dg lawT_ok (by decide +kernel)
theorem dl_697 : decode code 697 = .ok (.iadd, 1) := law_dg lawT_ok (by decide +kernel)
theorem dl_698 : decode code 698 = .ok (.iaload, 1) := law_dg lawT_ok (by decide +kernel)
theorem dl_699 : decode code 699 = .ok (.invokevirtual 100, 3) := law_dg lawT_ok (by decide +kernel)
theorem dl_702 : decode code 702 = .ok (.if_icmp .eq 67, 3) := law_dg lawT_ok (by decide +kernel)
theorem dl_705 : decode code 705 = .ok (.iconst 0, 1) := law_dg lawT_ok (by decide +kernel)
theorem dl_706 : decode code 706 = .ok (.ireturn, 1) := law_dg lawT_ok (by decide +kernel)
theorem dl_707 : decode code 707 = .ok (.aload_n 1, 1) := law_dg lawT_ok (by decide +kernel)
theorem dl_708 : decode code 708 = .ok (.aload_n 0, 1) := law_dg lawT_ok (by decide +kernel)
theorem dl_709 : decode code 709 = .ok (.iload_n 3, 1) := law_dg lawT_ok (by decide +kernel)
theorem dl_710 : decode code 710 = .ok (.iconst 1, 1) := law_dg lawT_ok (by decide +kernel)
theorem dl_711 : decode code 711 = .ok (.iadd, 1) := law_dg lawT_ok (by decide +kernel)
theorem dl_712 : decode code 712 = .ok (.iaload, 1) := law_dg lawT_ok (by decide +kernel)
theorem dl_713 : decode code 713 = .ok (.invokevirtual 101, 3) := law_dg lawT_ok (by decide +kernel)
theorem dl_716 : decode code 716 = .ok (.aload_n 2, 1) := law_dg lawT_ok (by decide +kernel)
theorem dl_717 : decode code 717 = .ok (.aload_n 0, 1) := law_dg lawT_ok (by decide +kernel)
theorem dl_718 : decode code 718 = .ok (.iload_n 3, 1) := law_dg lawT_ok (by decide +kernel)
theorem dl_719 : decode code 719 = .ok (.iconst 1, 1) := law_dg lawT_ok (by decide +kernel)
theorem dl_720 : decode code 720 = .ok (.iadd, 1) := law_dg lawT_ok (by decide +kernel)
theorem dl_721 : decode code 721 = .ok (.iaload, 1) := law_dg lawT_ok (by decide +kernel)
theorem dl_722 : decode code 722 = .ok (.invokevirtual 104, 3) := law_dg lawT_ok (by decide +kernel)
theorem dl_725 : decode code 725 = .ok (.if_icmp .eq 44, 3) := law_dg lawT_ok (by decide +kernel)
theorem dl_728 : decode code 728 = .ok (.iconst 0, 1) := law_dg lawT_ok (by decide +kernel)
theorem dl_729 : decode code 729 = .ok (.ireturn, 1) := law_dg lawT_ok (by decide +kernel)
theorem dl_730 : decode code 730 = .ok (.aload_n 1, 1) := law_dg lawT_ok (by decide +kernel)
theorem dl_731 : decode code 731 = .ok (.invokevirtual 105, 3) := law_dg lawT_ok (by decide +kernel)
theorem dl_734 : decode code 734 = .ok (.aload_n 2, 1) := law_dg lawT_ok (by decide +kernel)
theorem dl_735 : decode code 735 = .ok (.invokevirtual 108, 3) := law_dg lawT_ok (by decide +kernel)
theorem dl_738 : decode code 738 = .ok (.if_icmp .eq 31, 3) := law_dg lawT_ok (by decide +kernel)
theorem dl_741 : decode code 741 = .ok (.iconst 0, 1) := law_dg lawT_ok (by decide +kernel)
theorem dl_742 : decode code 742 = .ok (.ireturn, 1) := law_dg lawT_ok (by decide +kernel)
theorem dl_743 : decode code 743 = .ok (.aload_n 1, 1) := law_dg lawT_ok (by decide +kernel)
theorem dl_744 : decode code 744 = .ok (.invokevirtual 109, 3) := law_dg lawT_ok (by decide +kernel)
theorem dl_747 : decode code 747 = .ok (.aload_n 2, 1) := law_dg lawT_ok (by decide +kernel)
theorem dl_748 : decode code 748 = .ok (.invokevirtual 112, 3) := law_dg lawT_ok (by decide +kernel)
theorem dl_751 : decode code 751 = .ok (.if_icmp .eq 18, 3) := law_dg lawT_ok (by decide +kernel)
theorem dl_754 : decode code 754 = .ok (.iconst 0, 1) := law_dg lawT_ok (by decide +kernel)
theorem dl_755 : decode code 755 = .ok (.ireturn, 1) := law_dg lawT_ok (by decide +kernel)
theorem dl_756 : decode code 756 = .ok (.aload_n 1, 1) := law_dg lawT_ok (by decide +kernel)
theorem dl_757 : decode code 757 = .ok (.invokevirtual 113, 3) := law_dg lawT_ok (by decide +kernel)
theorem dl_760 : decode code 760 = .ok (.aload_n 2, 1) := law_dg lawT_ok (by decide +kernel)
theorem dl_761 : decode code 761 = .ok (.invokevirtual 116, 3) := law_dg lawT_ok (by decide +kernel)
theorem dl_764 : decode code 764 = .ok (.if_icmp .eq 5, 3) := law_dg lawT_ok (by decide +kernel)
theorem dl_767 : decode code 767 = .ok (.iconst 0, 1) := law_dg lawT_ok (by decide +kernel)
theorem dl_768 : decode code 768 = .ok (.ireturn, 1) := law_dg lawT_ok (by decide +kernel)
theorem dl_769 : decode code 769 = .ok (.iinc 3 4, 3) := law_dg lawT_ok (by decide +kernel)
theorem dl_772 : decode code 772 = .ok (.goto (-754), 3) := law_dg lawT_ok (by decide +kernel)
theorem dl_775 : decode code 775 = .ok (.iconst 1, 1) := law_dg lawT_ok (by decide +kernel)
theorem dl_776 : decode code 776 = .ok (.ireturn, 1) := law_dg lawT_ok (by decide +kernel)
theorem w_L9 : ∀ w ∈ ([.methodLink "DegreeCoresLaw" 9 y_C_init, .instanceMethod y_C_init, .initialized R_C, Cond.code y_C_init b_C_init 1 (none)] : List Cond), w ∈ TB := by decide +kernel
theorem w_L12 : ∀ w ∈ ([.methodLink "DegreeCoresLaw" 12 y_M_init, .instanceMethod y_M_init, .initialized R_M, Cond.code y_M_init b_M_init 1 (none)] : List Cond), w ∈ TB := by decide +kernel
theorem w_L13 : ∀ w ∈ ([.methodLink "DegreeCoresLaw" 13 y_C_node, .instanceMethod y_C_node, .selects R_C y_C_node y_C_node, .initialized R_C, Cond.code y_C_node b_C_node 1 (some .int)] : List Cond), w ∈ TB := by decide +kernel
theorem w_L17 : ∀ w ∈ ([.methodLink "DegreeCoresLaw" 17 y_M_node, .instanceMethod y_M_node, .selects R_M y_M_node y_M_node, .initialized R_M, Cond.code y_M_node b_M_node 1 (some .int)] : List Cond), w ∈ TB := by decide +kernel
theorem w_L18 : ∀ w ∈ ([.methodLink "DegreeCoresLaw" 18 y_C_join, .instanceMethod y_C_join, .selects R_C y_C_join y_C_join, .initialized R_C, Cond.code y_C_join b_C_join 4 (some .int)] : List Cond), w ∈ TB := by decide +kernel
theorem w_L22 : ∀ w ∈ ([.methodLink "DegreeCoresLaw" 22 y_M_join, .instanceMethod y_M_join, .selects R_M y_M_join y_M_join, .initialized R_M, Cond.code y_M_join b_M_join 5 (some .int)] : List Cond), w ∈ TB := by decide +kernel
theorem w_L23 : ∀ w ∈ ([.methodLink "DegreeCoresLaw" 23 y_C_joined, .instanceMethod y_C_joined, .selects R_C y_C_joined y_C_joined, .initialized R_C, Cond.code y_C_joined b_C_joined 3 (some .int)] : List Cond), w ∈ TB := by decide +kernel
theorem w_L27 : ∀ w ∈ ([.methodLink "DegreeCoresLaw" 27 y_M_joined, .instanceMethod y_M_joined, .selects R_M y_M_joined y_M_joined, .initialized R_M, Cond.code y_M_joined b_M_joined 3 (some .int)] : List Cond), w ∈ TB := by decide +kernel
theorem w_L28 : ∀ w ∈ ([.methodLink "DegreeCoresLaw" 28 y_C_clear, .instanceMethod y_C_clear, .selects R_C y_C_clear y_C_clear, .initialized R_C, Cond.code y_C_clear b_C_clear 2 (some .int)] : List Cond), w ∈ TB := by decide +kernel
theorem w_L31 : ∀ w ∈ ([.methodLink "DegreeCoresLaw" 31 y_M_clear, .instanceMethod y_M_clear, .selects R_M y_M_clear y_M_clear, .initialized R_M, Cond.code y_M_clear b_M_clear 2 (some .int)] : List Cond), w ∈ TB := by decide +kernel
theorem w_L32 : ∀ w ∈ ([.methodLink "DegreeCoresLaw" 32 y_C_degree, .instanceMethod y_C_degree, .selects R_C y_C_degree y_C_degree, .initialized R_C, Cond.code y_C_degree b_C_degree 2 (some .int)] : List Cond), w ∈ TB := by decide +kernel
theorem w_L36 : ∀ w ∈ ([.methodLink "DegreeCoresLaw" 36 y_M_degree, .instanceMethod y_M_degree, .selects R_M y_M_degree y_M_degree, .initialized R_M, Cond.code y_M_degree b_M_degree 2 (some .int)] : List Cond), w ∈ TB := by decide +kernel
theorem w_L37 : ∀ w ∈ ([.methodLink "DegreeCoresLaw" 37 y_C_core, .instanceMethod y_C_core, .selects R_C y_C_core y_C_core, .initialized R_C, Cond.code y_C_core b_C_core 4 (some .int)] : List Cond), w ∈ TB := by decide +kernel
theorem w_L40 : ∀ w ∈ ([.methodLink "DegreeCoresLaw" 40 y_M_core, .instanceMethod y_M_core, .selects R_M y_M_core y_M_core, .initialized R_M, Cond.code y_M_core b_M_core 3 (some .int)] : List Cond), w ∈ TB := by decide +kernel
theorem w_L41 : ∀ w ∈ ([.methodLink "DegreeCoresLaw" 41 y_C_coreSet, .instanceMethod y_C_coreSet, .selects R_C y_C_coreSet y_C_coreSet, .initialized R_C, Cond.code y_C_coreSet b_C_coreSet 2 (some .int)] : List Cond), w ∈ TB := by decide +kernel
theorem w_L44 : ∀ w ∈ ([.methodLink "DegreeCoresLaw" 44 y_M_coreSet, .instanceMethod y_M_coreSet, .selects R_M y_M_coreSet y_M_coreSet, .initialized R_M, Cond.code y_M_coreSet b_M_coreSet 2 (some .int)] : List Cond), w ∈ TB := by decide +kernel
theorem w_L45 : ∀ w ∈ ([.methodLink "DegreeCoresLaw" 45 y_C_peeled, .instanceMethod y_C_peeled, .selects R_C y_C_peeled y_C_peeled, .initialized R_C, Cond.code y_C_peeled b_C_peeled 5 (some .int)] : List Cond), w ∈ TB := by decide +kernel
theorem w_L48 : ∀ w ∈ ([.methodLink "DegreeCoresLaw" 48 y_M_peeled, .instanceMethod y_M_peeled, .selects R_M y_M_peeled y_M_peeled, .initialized R_M, Cond.code y_M_peeled b_M_peeled 6 (some .int)] : List Cond), w ∈ TB := by decide +kernel
theorem w_L49 : ∀ w ∈ ([.methodLink "DegreeCoresLaw" 49 y_C_layer, .instanceMethod y_C_layer, .selects R_C y_C_layer y_C_layer, .initialized R_C, Cond.code y_C_layer b_C_layer 5 (some .int)] : List Cond), w ∈ TB := by decide +kernel
theorem w_L52 : ∀ w ∈ ([.methodLink "DegreeCoresLaw" 52 y_M_layer, .instanceMethod y_M_layer, .selects R_M y_M_layer y_M_layer, .initialized R_M, Cond.code y_M_layer b_M_layer 8 (some .int)] : List Cond), w ∈ TB := by decide +kernel
theorem w_L53 : ∀ w ∈ ([.methodLink "DegreeCoresLaw" 53 y_C_triangles, .instanceMethod y_C_triangles, .selects R_C y_C_triangles y_C_triangles, .initialized R_C, Cond.code y_C_triangles b_C_triangles 1 (some .int)] : List Cond), w ∈ TB := by decide +kernel
theorem w_L56 : ∀ w ∈ ([.methodLink "DegreeCoresLaw" 56 y_M_triangles, .instanceMethod y_M_triangles, .selects R_M y_M_triangles y_M_triangles, .initialized R_M, Cond.code y_M_triangles b_M_triangles 1 (some .int)] : List Cond), w ∈ TB := by decide +kernel
theorem w_L57 : ∀ w ∈ ([.methodLink "DegreeCoresLaw" 57 y_C_triangle, .instanceMethod y_C_triangle, .selects R_C y_C_triangle y_C_triangle, .initialized R_C, Cond.code y_C_triangle b_C_triangle 7 (some .int)] : List Cond), w ∈ TB := by decide +kernel
theorem w_L60 : ∀ w ∈ ([.methodLink "DegreeCoresLaw" 60 y_M_triangle, .instanceMethod y_M_triangle, .selects R_M y_M_triangle y_M_triangle, .initialized R_M, Cond.code y_M_triangle b_M_triangle 3 (some .int)] : List Cond), w ∈ TB := by decide +kernel
theorem w_L61 : ∀ w ∈ ([.methodLink "DegreeCoresLaw" 61 y_C_support, .instanceMethod y_C_support, .selects R_C y_C_support y_C_support, .initialized R_C, Cond.code y_C_support b_C_support 3 (some .int)] : List Cond), w ∈ TB := by decide +kernel
theorem w_L64 : ∀ w ∈ ([.methodLink "DegreeCoresLaw" 64 y_M_support, .instanceMethod y_M_support, .selects R_M y_M_support y_M_support, .initialized R_M, Cond.code y_M_support b_M_support 3 (some .int)] : List Cond), w ∈ TB := by decide +kernel
theorem w_L65 : ∀ w ∈ ([.methodLink "DegreeCoresLaw" 65 y_C_truss, .instanceMethod y_C_truss, .selects R_C y_C_truss y_C_truss, .initialized R_C, Cond.code y_C_truss b_C_truss 5 (some .int)] : List Cond), w ∈ TB := by decide +kernel
theorem w_L68 : ∀ w ∈ ([.methodLink "DegreeCoresLaw" 68 y_M_truss, .instanceMethod y_M_truss, .selects R_M y_M_truss y_M_truss, .initialized R_M, Cond.code y_M_truss b_M_truss 5 (some .int)] : List Cond), w ∈ TB := by decide +kernel
theorem w_L69 : ∀ w ∈ ([.methodLink "DegreeCoresLaw" 69 y_C_cluster, .instanceMethod y_C_cluster, .selects R_C y_C_cluster y_C_cluster, .initialized R_C, Cond.code y_C_cluster b_C_cluster 3 (some .int)] : List Cond), w ∈ TB := by decide +kernel
theorem w_L72 : ∀ w ∈ ([.methodLink "DegreeCoresLaw" 72 y_M_cluster, .instanceMethod y_M_cluster, .selects R_M y_M_cluster y_M_cluster, .initialized R_M, Cond.code y_M_cluster b_M_cluster 6 (some .int)] : List Cond), w ∈ TB := by decide +kernel
theorem w_L73 : ∀ w ∈ ([.methodLink "DegreeCoresLaw" 73 y_C_closed, .instanceMethod y_C_closed, .selects R_C y_C_closed y_C_closed, .initialized R_C, Cond.code y_C_closed b_C_closed 4 (some .int)] : List Cond), w ∈ TB := by decide +kernel
theorem w_L76 : ∀ w ∈ ([.methodLink "DegreeCoresLaw" 76 y_M_closed, .instanceMethod y_M_closed, .selects R_M y_M_closed y_M_closed, .initialized R_M, Cond.code y_M_closed b_M_closed 5 (some .int)] : List Cond), w ∈ TB := by decide +kernel
theorem w_L77 : ∀ w ∈ ([.methodLink "DegreeCoresLaw" 77 y_C_densest, .instanceMethod y_C_densest, .selects R_C y_C_densest y_C_densest, .initialized R_C, Cond.code y_C_densest b_C_densest 1 (some .int)] : List Cond), w ∈ TB := by decide +kernel
theorem w_L80 : ∀ w ∈ ([.methodLink "DegreeCoresLaw" 80 y_M_densest, .instanceMethod y_M_densest, .selects R_M y_M_densest y_M_densest, .initialized R_M, Cond.code y_M_densest b_M_densest 1 (some .int)] : List Cond), w ∈ TB := by decide +kernel
theorem w_L81 : ∀ w ∈ ([.methodLink "DegreeCoresLaw" 81 y_C_density, .instanceMethod y_C_density, .selects R_C y_C_density y_C_density, .initialized R_C, Cond.code y_C_density b_C_density 3 (some .int)] : List Cond), w ∈ TB := by decide +kernel
theorem w_L84 : ∀ w ∈ ([.methodLink "DegreeCoresLaw" 84 y_M_density, .instanceMethod y_M_density, .selects R_M y_M_density y_M_density, .initialized R_M, Cond.code y_M_density b_M_density 3 (some .int)] : List Cond), w ∈ TB := by decide +kernel
theorem w_L85 : ∀ w ∈ ([.methodLink "DegreeCoresLaw" 85 y_C_firm, .instanceMethod y_C_firm, .selects R_C y_C_firm y_C_firm, .initialized R_C, Cond.code y_C_firm b_C_firm 9 (some .int)] : List Cond), w ∈ TB := by decide +kernel
theorem w_L88 : ∀ w ∈ ([.methodLink "DegreeCoresLaw" 88 y_M_firm, .instanceMethod y_M_firm, .selects R_M y_M_firm y_M_firm, .initialized R_M, Cond.code y_M_firm b_M_firm 3 (some .int)] : List Cond), w ∈ TB := by decide +kernel
theorem w_L89 : ∀ w ∈ ([.methodLink "DegreeCoresLaw" 89 y_C_classOf, .instanceMethod y_C_classOf, .selects R_C y_C_classOf y_C_classOf, .initialized R_C, Cond.code y_C_classOf b_C_classOf 3 (some .int)] : List Cond), w ∈ TB := by decide +kernel
theorem w_L92 : ∀ w ∈ ([.methodLink "DegreeCoresLaw" 92 y_M_classOf, .instanceMethod y_M_classOf, .selects R_M y_M_classOf y_M_classOf, .initialized R_M, Cond.code y_M_classOf b_M_classOf 4 (some .int)] : List Cond), w ∈ TB := by decide +kernel
theorem w_L93 : ∀ w ∈ ([.methodLink "DegreeCoresLaw" 93 y_C_likeness, .instanceMethod y_C_likeness, .selects R_C y_C_likeness y_C_likeness, .initialized R_C, Cond.code y_C_likeness b_C_likeness 10 (some .int)] : List Cond), w ∈ TB := by decide +kernel
theorem w_L96 : ∀ w ∈ ([.methodLink "DegreeCoresLaw" 96 y_M_likeness, .instanceMethod y_M_likeness, .selects R_M y_M_likeness y_M_likeness, .initialized R_M, Cond.code y_M_likeness b_M_likeness 10 (some .int)] : List Cond), w ∈ TB := by decide +kernel
theorem w_L97 : ∀ w ∈ ([.methodLink "DegreeCoresLaw" 97 y_C_rich, .instanceMethod y_C_rich, .selects R_C y_C_rich y_C_rich, .initialized R_C, Cond.code y_C_rich b_C_rich 4 (some .int)] : List Cond), w ∈ TB := by decide +kernel
theorem w_L100 : ∀ w ∈ ([.methodLink "DegreeCoresLaw" 100 y_M_rich, .instanceMethod y_M_rich, .selects R_M y_M_rich y_M_rich, .initialized R_M, Cond.code y_M_rich b_M_rich 5 (some .int)] : List Cond), w ∈ TB := by decide +kernel
theorem w_L101 : ∀ w ∈ ([.methodLink "DegreeCoresLaw" 101 y_C_want, .instanceMethod y_C_want, .selects R_C y_C_want y_C_want, .initialized R_C, Cond.code y_C_want b_C_want 2 (some .int)] : List Cond), w ∈ TB := by decide +kernel
theorem w_L104 : ∀ w ∈ ([.methodLink "DegreeCoresLaw" 104 y_M_want, .instanceMethod y_M_want, .selects R_M y_M_want y_M_want, .initialized R_M, Cond.code y_M_want b_M_want 2 (some .int)] : List Cond), w ∈ TB := by decide +kernel
theorem w_L105 : ∀ w ∈ ([.methodLink "DegreeCoresLaw" 105 y_C_unwant, .instanceMethod y_C_unwant, .selects R_C y_C_unwant y_C_unwant, .initialized R_C, Cond.code y_C_unwant b_C_unwant 2 (some .int)] : List Cond), w ∈ TB := by decide +kernel
theorem w_L108 : ∀ w ∈ ([.methodLink "DegreeCoresLaw" 108 y_M_unwant, .instanceMethod y_M_unwant, .selects R_M y_M_unwant y_M_unwant, .initialized R_M, Cond.code y_M_unwant b_M_unwant 2 (some .int)] : List Cond), w ∈ TB := by decide +kernel
theorem w_L109 : ∀ w ∈ ([.methodLink "DegreeCoresLaw" 109 y_C_graphic, .instanceMethod y_C_graphic, .selects R_C y_C_graphic y_C_graphic, .initialized R_C, Cond.code y_C_graphic b_C_graphic 1 (some .int)] : List Cond), w ∈ TB := by decide +kernel
theorem w_L112 : ∀ w ∈ ([.methodLink "DegreeCoresLaw" 112 y_M_graphic, .instanceMethod y_M_graphic, .selects R_M y_M_graphic y_M_graphic, .initialized R_M, Cond.code y_M_graphic b_M_graphic 1 (some .int)] : List Cond), w ∈ TB := by decide +kernel
theorem w_L113 : ∀ w ∈ ([.methodLink "DegreeCoresLaw" 113 y_C_make, .instanceMethod y_C_make, .selects R_C y_C_make y_C_make, .initialized R_C, Cond.code y_C_make b_C_make 1 (some .int)] : List Cond), w ∈ TB := by decide +kernel
theorem w_L116 : ∀ w ∈ ([.methodLink "DegreeCoresLaw" 116 y_M_make, .instanceMethod y_M_make, .selects R_M y_M_make y_M_make, .initialized R_M, Cond.code y_M_make b_M_make 2 (some .int)] : List Cond), w ∈ TB := by decide +kernel
end
section
/-! calls and pushes of the law -/
theorem lw_join {A0 : Nat → Prop} {D : va_G} {cl : List vw_C} {pre w1 post w1' : va_W} {H H1 : Heap} (hP : va_P D cl (pre ++ (w1 ++ post)) H) (hD : va_D A0 (pre ++ (w1 ++ post)))
    (hk : ∀ q : Nat, q < H.size → ¬ va_A w1 H.size q → H1[q]? = H[q]?) (hF : ∀ q, va_A w1 H.size q → A0 q) (hP1 : va_P D cl w1' H1) (hD1 : va_D (va_A w1 H.size) w1') : va_P D cl (pre ++ (w1' ++ post)) H1 ∧ va_D A0 (pre ++ (w1' ++ post)) := by
  have g0 : ∀ (k : Nat) (q : Nat × va_E), pre[k]? = some q → (pre ++ (w1 ++ post))[k]? = some q ∧ k < pre.length := fun k q h => by
    have hl := (List.getElem?_eq_some_iff.mp h).1
    exact ⟨by rw [List.getElem?_append_left hl]; exact h, hl⟩
  have g1 : ∀ (k : Nat) (q : Nat × va_E), w1[k]? = some q → (pre ++ (w1 ++ post))[pre.length + k]? = some q ∧ k < w1.length := fun k q h => by
    have hl := (List.getElem?_eq_some_iff.mp h).1
    refine ⟨?_, hl⟩
    rw [List.getElem?_append_right (by omega), show pre.length + k - pre.length = k by omega, List.getElem?_append_left hl]
    exact h
  have g2 : ∀ (k : Nat) (q : Nat × va_E), post[k]? = some q → (pre ++ (w1 ++ post))[pre.length + (w1.length + k)]? = some q := fun k q h => by
    rw [List.getElem?_append_right (by omega), show pre.length + (w1.length + k) - pre.length = w1.length + k by omega, List.getElem?_append_right (by omega), show w1.length + k - w1.length = k by omega]
    exact h
  have a0 : ∀ (k : Nat) (q : Nat × va_E), pre[k]? = some q → q.1 < H.size ∧ ¬ va_A w1 H.size q.1 := fun k q h => by
    obtain ⟨h1, h2⟩ := g0 k q h
    have hl := (hP k q h1).lt
    refine ⟨hl, fun z => ?_⟩
    rcases z with ⟨k2, e, z⟩ | z
    · obtain ⟨h3, h4⟩ := g1 k2 (q.1, e) z
      have := hD.1 k (pre.length + k2) q (q.1, e) h1 h3 rfl
      omega
    · omega
  have a2 : ∀ (k : Nat) (q : Nat × va_E), post[k]? = some q → q.1 < H.size ∧ ¬ va_A w1 H.size q.1 := fun k q h => by
    have h1 := g2 k q h
    have hl := (hP _ q h1).lt
    refine ⟨hl, fun z => ?_⟩
    rcases z with ⟨k2, e, z⟩ | z
    · obtain ⟨h3, h4⟩ := g1 k2 (q.1, e) z
      have := hD.1 _ (pre.length + k2) q (q.1, e) h1 h3 rfl
      omega
    · omega
  have p0 : va_P D cl pre H1 := fun k q h => (hP k q (g0 k q h).1).kept (hk q.1 (a0 k q h).1 (a0 k q h).2)
  have p2 : va_P D cl post H1 := fun k q h => (hP _ q (g2 k q h)).kept (hk q.1 (a2 k q h).1 (a2 k q h).2)
  have d0 : va_D A0 pre := ⟨fun i j x y hx hy e => hD.1 i j x y (g0 i x hx).1 (g0 j y hy).1 e, fun k q h => hD.2 k q (g0 k q h).1⟩
  have d2 : va_D A0 post := ⟨fun i j x y hx hy e => by
    have := hD.1 _ _ x y (g2 i x hx) (g2 j y hy) e
    omega, fun k q h => hD.2 _ q (g2 k q h)⟩
  refine ⟨va_P.app p0 (va_P.app hP1 p2), va_D.app d0 (va_D.app (hD1.weaken (fun _ q _ h => hF q.1 h)) d2 (fun i j x y hx hy e => ?_)) (fun i j x y hx hy e => ?_)⟩
  · exact (a2 j y hy).2 (by rw [← e]; exact hD1.2 i x hx)
  · obtain ⟨h1, h2⟩ := g0 i x hx
    by_cases hj : j < w1'.length
    · rw [List.getElem?_append_left hj] at hy
      exact (a0 i x hx).2 (by rw [e]; exact hD1.2 j y hy)
    · rw [List.getElem?_append_right (by omega)] at hy
      have h3 := g2 _ y hy
      have := hD.1 i _ x y h1 h3 e
      omega
/-- what the law keeps -/
def lwC (p : Program) (s : State) (m : MethodId) (meth : Method) (c : Code) (b L : Nat) (xs : Nat → Int32) (Ts : List Cond) (D : va_G) (cA : ClassId) : Prop :=
  p.tables.exec = Jvm.exec ∧ c.code = code ∧ meth.sig.returnType = ret ∧ c.maxLocals = 4 ∧ s.vm.findClass "DegreeCoresLaw" = some m.cls ∧ (∀ w ∈ Ts, w.before #[Value.ref b] s = true) ∧ va_X b L xs s s.heap ∧ b < s.heap.size ∧ meth.locks = false ∧ va_K D cls [(cA, .int)] s ∧ L ≤ 2048
section LC
variable {p : Program} {l : Launch} {e : Env} {s : State} {m : MethodId} {below : List Frame} {meth : Method} {c : Code} {b L : Nat} {xs : Nat → Int32} {Ts : List Cond} {D : va_G} {cA : ClassId} {Q : State → Prop}
theorem lw_call {ci : Nat} {C : String} {Tu : u_T} {N : Nat} (hcl : cls[ci]? = some (C, Tu, N)) {y : MethodName} {bytes : ByteArray} {maxL d idx na : Nat} {T : mT} (hC : m_Con cls ci Ts y bytes maxL (some .int) 0 d T) (hgood : ∀ w ∈ Ts, ((w.onTables && w.keeps) = true ∨ ∃ ty, w = .arrayClass ty))
    (hws : ∀ w ∈ ([.methodLink "DegreeCoresLaw" idx y, .instanceMethod y, .selects C y y, .initialized C, Cond.code y bytes maxL (some .int)] : List Cond), w ∈ Ts) (hyc : y.cls = C ∧ y.cls ≠ "java/lang/invoke/MethodHandle" ∧ y.cls ≠ "java/lang/invoke/VarHandle" ∧ (parseMethodDescriptor y.desc).map (fun d => d.parameters.length) = some na) (hmx : maxL ≤ 13) (hd : d ≤ 7)
    (hc0 : lwC p s m meth c b L xs Ts D cA) {pc : Nat} {ls : Array Slot} {rest : List Value} {as : List mV} {h : mH} {ad : Nat → Nat} {k : Option Int32 → mH → Prop} {H : Heap} {locs : List Loc} {pre post : va_W} {fs : List mV}
    (hT : T (.inr 0 :: as) h k) (has : as.length = na) (h0 : m_at h 0 = some (.inl fs)) (hdg : decode code pc = .ok (.invokevirtual idx, 3)) (hls : ls.size = 4) (hrest : (rest.map fun v => v.category).sum ≤ 8)
    (hP : va_P D cls (pre ++ (m_w ci cA ad h ++ post)) H) (hD : va_D (fun q => s.heap.size ≤ q) (pre ++ (m_w ci cA ad h ++ post))) (hS : va_S (fun q => s.heap.size ≤ q) s.heap H locs)
    (kk : ∀ (r : Int32) (h' : mH) (H1 : Heap) (locs1 : List Loc), k (some r) h' → va_P D cls (pre ++ (m_w ci cA ad h' ++ post)) H1 → va_D (fun q => s.heap.size ≤ q) (pre ++ (m_w ci cA ad h' ++ post)) → va_S (fun q => s.heap.size ≤ q) s.heap H1 locs1 → W p l e room_1 s m #[Value.ref b] below meth c H1 locs1 13 4236 Q (F0 m (pc + 3) ls (.int r :: rest))) :
    W p l e room_1 s m #[Value.ref b] below meth c H locs 13 4236 Q (F0 m pc ls ((as.map (m_v ad)).reverse ++ .ref (ad 0) :: rest)) := by
  obtain ⟨hx, hb, hr, hml, hown, hts, hX, hbl, hlk, hK, hL⟩ := hc0
  have hG : GoodIn Ts (wsV "DegreeCoresLaw" idx C y (Cond.code y bytes maxL (some .int) :: Ts)) := by
    intro w hw
    have hin : w ∈ Ts := by
      unfold wsV at hw
      rcases List.mem_append.mp hw with h1 | h1
      · exact hws w (by simp only [List.mem_cons, List.not_mem_nil, or_false] at h1 ⊢; rcases h1 with h1 | h1 | h1 | h1 <;> simp [h1])
      · rcases List.mem_cons.mp h1 with h1 | h1
        · exact hws w (by simp [h1])
        · exact h1
    exact ⟨hin, hgood w hin⟩
  have hPc : va_P D cls (m_w ci cA ad h) H := fun k2 q hq => hP (pre.length + k2) q (by
    have hl := (List.getElem?_eq_some_iff.mp hq).1
    rw [List.getElem?_append_right (by omega), show pre.length + k2 - pre.length = k2 by omega, List.getElem?_append_left hl]
    exact hq)
  have hDc : va_D (fun q => s.heap.size ≤ q) (m_w ci cA ad h) := by
    have g1 : ∀ (k2 : Nat) (q : Nat × va_E), (m_w ci cA ad h)[k2]? = some q → (pre ++ (m_w ci cA ad h ++ post))[pre.length + k2]? = some q := fun k2 q hq => by
      have hl := (List.getElem?_eq_some_iff.mp hq).1
      rw [List.getElem?_append_right (by omega), show pre.length + k2 - pre.length = k2 by omega, List.getElem?_append_left hl]
      exact hq
    exact ⟨fun i j x y hx hy ee => by have := hD.1 _ _ x y (g1 i x hx) (g1 j y hy) ee; omega, fun k2 q hq => hD.2 _ q (g1 k2 q hq)⟩
  have hF : ∀ q, va_A (m_w ci cA ad h) H.size q → s.heap.size ≤ q := by
    rintro q (⟨k2, e2, h2⟩ | h2)
    · exact hDc.2 k2 (q, e2) h2
    · exact Nat.le_trans hS.1 h2
  have hrun := va_runV (As := as.map (m_v ad)) (rest := rest) (b := ad 0) (C := C) (R := room_1) (e := e) (below := below) (meth := meth) (H := H) (locs := locs) (cells := 13) (slots := 4236) (g := F0 m pc ls ((as.map (m_v ad)).reverse ++ .ref (ad 0) :: rest)) ⟨hx, hb, hml, hown, hts⟩ (hC l D cA ad H.size _ h k hT) (cwV na hts hG rfl rfl rfl hyc ⟨by show d + 1 ≤ 8; omega, by show 8 + (maxL + 11) + 32 * d ≤ 262; omega⟩)
    ⟨m_blind D cls cA ci ad H.size _ h, va_recv hK hPc hcl (m_w_get h0), fun U hU hW => ⟨rfl, by rw [hU], by rw [hU]; exact hPc, va_K.moved hW.alike hK, hDc.weaken (fun _ _ _ _ => trivial)⟩⟩ rfl (by rw [List.length_map]; exact has) hls rfl (lv_room hrest) hdg ⟨Nat.le_refl _, Nat.le_refl _⟩
  refine va_calli (a := (Value.ref (ad 0) :: as.map (m_v ad)).toArray) (A1 := va_A (m_w ci cA ad h) H.size) (post := fun (r : Int32) (u : mH) => k (some r) u) (B := m_B D cls cA ci ad (va_A (m_w ci cA ad h) H.size)) hrun hS (fun q _ h => hF q h) hF (fun r u t H1 locs1 ht hvm hpost hB hsz hk2 hS1 => ?_)
  obtain ⟨hP1, hD1⟩ := lw_join hP hD hk2 hF (by rw [← ht]; exact hB.1) hB.2.2
  exact kk r u H1 locs1 hpost hP1 hD1 hS1
def pshOK : Nat → List Nat → Prop
  | _, [] => True
  | pc, k :: t => decode code pc = .ok (.aload_n 0, 1) ∧ decode code (pc + 1) = .ok (.iload_n 3, 1) ∧ decode code (pc + 2) = .ok (.iconst (k : Int), 1) ∧ decode code (pc + 3) = .ok (.iadd, 1) ∧ decode code (pc + 4) = .ok (.iaload, 1) ∧ pshOK (pc + 5) t
theorem lw_push (hc0 : lwC p s m meth c b L xs Ts D cA) {H : Heap} {locs : List Loc} (hS : va_S (fun q => s.heap.size ≤ q) s.heap H locs) {i : Nat} (hi : i + 4 ≤ L) {ls : Array Slot} {x1 x2 : Nat} (hl : lv_has ls 4 [(0, .ref b), (1, .ref x1), (2, .ref x2), (3, .int (nI i))]) (ks : List Nat) : (∀ k ∈ ks, k ≤ 3) → ∀ (pc : Nat) (st : List Value), pshOK pc ks →
    W p l e room_1 s m #[Value.ref b] below meth c H locs 13 4236 Q (F0 m (pc + 5 * ks.length) ls ((ks.map (fun k => Value.int (xs (i + k)))).reverse ++ st)) → W p l e room_1 s m #[Value.ref b] below meth c H locs 13 4236 Q (F0 m pc ls st) := by
  obtain ⟨hx, hb, hr, hml, hown, hts, hX, hbl, hlk, hK, hL⟩ := hc0
  induction ks with
  | nil => intro _ pc st _ h; exact h
  | cons k t ih =>
    intro hks pc st hd h
    obtain ⟨d0, d1, d2, d3, d4, d5⟩ := hd
    have hk : k ≤ 3 := hks k List.mem_cons_self
    have hkv : Int32.ofInt (k : Int) = nI k := by
      rcases (show k = 0 ∨ k = 1 ∨ k = 2 ∨ k = 3 by omega) with rfl | rfl | rfl | rfl <;> decide
    refine lv_aload_n hx hb d0 rfl (lv_at hl 0 rfl) (lv_iload_n hx hb d1 rfl (lv_at hl 3 rfl) (lv_iconst (v := nI k) hx hb d2 hkv (lv_iadd hx hb d3 ?_)))
    rw [nI_add]
    refine va_sld hx hb hX hbl (Nat.not_le.mpr hbl) hS (vp_in_nI (by omega) (by omega)) d4 ?_
    rw [nI_clamp (by omega)]
    have e1 : pc + 5 * (k :: t).length = pc + 5 + 5 * t.length := by simp; omega
    have e2 : ((k :: t).map (fun k => Value.int (xs (i + k)))).reverse ++ st = (t.map (fun k => Value.int (xs (i + k)))).reverse ++ (.int (xs (i + k)) :: st) := by simp
    rw [e1, e2] at h
    exact ih (fun k' hk' => hks k' (List.mem_cons_of_mem _ hk')) (pc + 5) _ d5 h
theorem m_map_int (ad : Nat → Nat) (g : Nat → Int32) (ks : List Nat) : (ks.map (fun k => (Sum.inl (g k) : mV))).map (m_v ad) = ks.map (fun k => Value.int (g k)) := by
  rw [List.map_map]
  rfl
/-- one case of the switch: both are asked, and answer alike -/
theorem lw_case {yC yM : MethodName} {bC bM : ByteArray} {lC lM dC dM iC iM na : Nat} {TC TM : mT} (hC : m_Con cls 0 Ts yC bC lC (some .int) 0 dC TC) (hM : m_Con cls 1 Ts yM bM lM (some .int) 0 dM TM) (hgood : ∀ w ∈ Ts, ((w.onTables && w.keeps) = true ∨ ∃ ty, w = .arrayClass ty))
    (wC : ∀ w ∈ ([.methodLink "DegreeCoresLaw" iC yC, .instanceMethod yC, .selects R_C yC yC, .initialized R_C, Cond.code yC bC lC (some .int)] : List Cond), w ∈ Ts) (wM : ∀ w ∈ ([.methodLink "DegreeCoresLaw" iM yM, .instanceMethod yM, .selects R_M yM yM, .initialized R_M, Cond.code yM bM lM (some .int)] : List Cond), w ∈ Ts)
    (cC : yC.cls = R_C ∧ yC.cls ≠ "java/lang/invoke/MethodHandle" ∧ yC.cls ≠ "java/lang/invoke/VarHandle" ∧ (parseMethodDescriptor yC.desc).map (fun d => d.parameters.length) = some na) (cM : yM.cls = R_M ∧ yM.cls ≠ "java/lang/invoke/MethodHandle" ∧ yM.cls ≠ "java/lang/invoke/VarHandle" ∧ (parseMethodDescriptor yM.desc).map (fun d => d.parameters.length) = some na)
    (mC : lC ≤ 13) (mM : lM ≤ 13) (gC : dC ≤ 7) (gM : dM ≤ 7) (ks : List Nat) (hks : ∀ k ∈ ks, k ≤ 3) (hna : ks.length = na) (hsim : ∀ i, sim TC TM (ks.map (fun k => (Sum.inl (xs (i + k)) : mV)))) {pc p1 p2 p4 p5 : Nat} (e1 : pc + 1 + 5 * ks.length = p1) (e2 : p1 + 3 = p2) (e3 : p2 + 1 + 5 * ks.length = p4) (e5 : p4 + 3 = p5) {off : Int}
    (d0 : decode code pc = .ok (.aload_n 1, 1)) (u1 : pshOK (pc + 1) ks) (d1 : decode code p1 = .ok (.invokevirtual iC, 3)) (d2 : decode code p2 = .ok (.aload_n 2, 1)) (u2 : pshOK (p2 + 1) ks) (d4 : decode code p4 = .ok (.invokevirtual iM, 3)) (d5 : decode code p5 = .ok (.if_icmp .eq off, 3)) (hoff : (p5 : Int) + off = ((769 : Nat) : Int))
    (hc0 : lwC p s m meth c b L xs Ts D cA) {H : Heap} {locs : List Loc} {i : Nat} (hi : i + 4 ≤ L) {ls : Array Slot} {hc hm : mH} {adC adM : Nat → Nat} (hl : lv_has ls 4 [(0, .ref b), (1, .ref (adC 0)), (2, .ref (adM 0)), (3, .int (nI i))]) (hLs : Lsm hc hm)
    (hP : va_P D cls (m_w 0 cA adC hc ++ m_w 1 cA adM hm) H) (hD : va_D (fun q => s.heap.size ≤ q) (m_w 0 cA adC hc ++ m_w 1 cA adM hm)) (hS : va_S (fun q => s.heap.size ≤ q) s.heap H locs)
    (kk : ∀ (hc' hm' : mH) (H1 : Heap) (locs1 : List Loc), Lsm hc' hm' → va_P D cls (m_w 0 cA adC hc' ++ m_w 1 cA adM hm') H1 → va_D (fun q => s.heap.size ≤ q) (m_w 0 cA adC hc' ++ m_w 1 cA adM hm') → va_S (fun q => s.heap.size ≤ q) s.heap H1 locs1 → W p l e room_1 s m #[Value.ref b] below meth c H1 locs1 13 4236 Q (F0 m 769 ls [])) :
    W p l e room_1 s m #[Value.ref b] below meth c H locs 13 4236 Q (F0 m pc ls []) := by
  obtain ⟨hx, hb, hr, hml, hown, hts, hX, hbl, hlk, hK, hL⟩ := id hc0
  have f0 : ∃ fs, m_at hc 0 = some (.inl fs) := by
    obtain ⟨n, f, q, g, j, r, t, d, w, jm, c, bb, gm, l, x0, x1, x2, kp, md, mg, rfl, rfl, -⟩ := hLs
    exact ⟨_, rfl⟩
  have f1 : ∃ fs, m_at hm 0 = some (.inl fs) := by
    obtain ⟨n, f, q, g, j, r, t, d, w, jm, c, bb, gm, l, x0, x1, x2, kp, md, mg, rfl, rfl, -⟩ := hLs
    exact ⟨_, rfl⟩
  obtain ⟨fs0, hf0⟩ := f0
  obtain ⟨fs1, hf1⟩ := f1
  refine lv_aload_n hx hb d0 rfl (lv_at hl 1 rfl) ?_
  refine lw_push hc0 hS hi hl ks hks (pc + 1) _ u1 ?_
  rw [e1]
  have hT := hsim i hc hm hLs
  have call1 := lw_call (l := l) (e := e) (below := below) (Q := Q) (pre := []) (post := m_w 1 cA adM hm) (rest := []) (ad := adC) (locs := locs) (hcl := (rfl : cls[0]? = some (R_C, T_C, 7))) hC hgood wC cC mC gC hc0 hT (by rw [List.length_map]; exact hna) hf0 d1 hl.1 (Nat.zero_le _) hP hD hS (fun r hc' H1 locs1 hT1 hP1 hD1 hS1 => ?_)
  · rw [m_map_int] at call1
    exact call1
  rw [e2]
  refine lv_aload_n hx hb d2 rfl (lv_at hl 2 rfl) ?_
  refine lw_push hc0 hS1 hi hl ks hks (p2 + 1) _ u2 ?_
  rw [e3]
  have hP1' : va_P D cls (m_w 0 cA adC hc' ++ (m_w 1 cA adM hm ++ [])) H1 := by rw [List.append_nil]; exact hP1
  have hD1' : va_D (fun q => s.heap.size ≤ q) (m_w 0 cA adC hc' ++ (m_w 1 cA adM hm ++ [])) := by rw [List.append_nil]; exact hD1
  have call2 := lw_call (l := l) (e := e) (below := below) (Q := Q) (pre := m_w 0 cA adC hc') (post := []) (rest := [.int r]) (ad := adM) (locs := locs1) (hcl := (rfl : cls[1]? = some (R_M, T_M, 13))) hM hgood wM cM mM gM hc0 hT1 (by rw [List.length_map]; exact hna) hf1 d4 hl.1 (Nat.le_of_ble_eq_true rfl) hP1' hD1' hS1 (fun r' hm' H2 locs2 hT2 hP2 hD2 hS2 => ?_)
  · rw [m_map_int] at call2
    exact call2
  rw [e5]
  rw [List.append_nil] at hP2 hD2
  obtain ⟨hrr, hLs2⟩ := hT2
  have hrr : r' = r := Option.some.inj hrr
  refine lv_icmp_eq (tgt := 769) hx hb d5 hoff (fun _ => kk hc' hm' H2 locs2 hLs2 hP2 hD2 hS2) (fun z => absurd hrr.symm z)
end LC
end
section
/-! the law: its cases, its loop, its start (by wip/whole/gen_law2.py) -/
set_option maxHeartbeats 4000000 in
theorem lw_c0 {p : Program} {l : Launch} {e : Env} {s : State} {m : MethodId} {below : List Frame} {meth : Method} {c : Code} {b L : Nat} {xs : Nat → Int32} {D : va_G} {cA : ClassId} {Q : State → Prop} (hc0 : lwC p s m meth c b L xs TB D cA) {H : Heap} {locs : List Loc} {i : Nat} (hi : i + 4 ≤ L) {ls : Array Slot} {hc hm : mH} {adC adM : Nat → Nat} (hl : lv_has ls 4 [(0, .ref b), (1, .ref (adC 0)), (2, .ref (adM 0)), (3, .int (nI i))]) (hLs : Lsm hc hm)
    (hP : va_P D cls (m_w 0 cA adC hc ++ m_w 1 cA adM hm) H) (hD : va_D (fun q => s.heap.size ≤ q) (m_w 0 cA adC hc ++ m_w 1 cA adM hm)) (hS : va_S (fun q => s.heap.size ≤ q) s.heap H locs)
    (kk : ∀ (hc' hm' : mH) (H1 : Heap) (locs1 : List Loc), Lsm hc' hm' → va_P D cls (m_w 0 cA adC hc' ++ m_w 1 cA adM hm') H1 → va_D (fun q => s.heap.size ≤ q) (m_w 0 cA adC hc' ++ m_w 1 cA adM hm') → va_S (fun q => s.heap.size ≤ q) s.heap H1 locs1 → W p l e room_1 s m #[Value.ref b] below meth c H1 locs1 13 4236 Q (F0 m 769 ls [])) :
    W p l e room_1 s m #[Value.ref b] below meth c H locs 13 4236 Q (F0 m 148 ls []) :=
  lw_case c_C_node c_M_node tb_good w_L13 w_L17 ⟨rfl, by decide +kernel, by decide +kernel, by decide +kernel⟩ ⟨rfl, by decide +kernel, by decide +kernel, by decide +kernel⟩ (by decide) (by decide) (by decide) (by decide) [] (by decide) rfl (fun i => sim_node) (p1 := 149) (p2 := 152) (p4 := 153) (p5 := 156) rfl rfl rfl rfl dl_148 trivial dl_149 dl_152 trivial dl_153 dl_156 (by decide) hc0 hi hl hLs hP hD hS kk
-- case 1 is join: below
set_option maxHeartbeats 4000000 in
theorem lw_c2 {p : Program} {l : Launch} {e : Env} {s : State} {m : MethodId} {below : List Frame} {meth : Method} {c : Code} {b L : Nat} {xs : Nat → Int32} {D : va_G} {cA : ClassId} {Q : State → Prop} (hc0 : lwC p s m meth c b L xs TB D cA) {H : Heap} {locs : List Loc} {i : Nat} (hi : i + 4 ≤ L) {ls : Array Slot} {hc hm : mH} {adC adM : Nat → Nat} (hl : lv_has ls 4 [(0, .ref b), (1, .ref (adC 0)), (2, .ref (adM 0)), (3, .int (nI i))]) (hLs : Lsm hc hm)
    (hP : va_P D cls (m_w 0 cA adC hc ++ m_w 1 cA adM hm) H) (hD : va_D (fun q => s.heap.size ≤ q) (m_w 0 cA adC hc ++ m_w 1 cA adM hm)) (hS : va_S (fun q => s.heap.size ≤ q) s.heap H locs)
    (kk : ∀ (hc' hm' : mH) (H1 : Heap) (locs1 : List Loc), Lsm hc' hm' → va_P D cls (m_w 0 cA adC hc' ++ m_w 1 cA adM hm') H1 → va_D (fun q => s.heap.size ≤ q) (m_w 0 cA adC hc' ++ m_w 1 cA adM hm') → va_S (fun q => s.heap.size ≤ q) s.heap H1 locs1 → W p l e room_1 s m #[Value.ref b] below meth c H1 locs1 13 4236 Q (F0 m 769 ls [])) :
    W p l e room_1 s m #[Value.ref b] below meth c H locs 13 4236 Q (F0 m 220 ls []) :=
  lw_case c_C_joined c_M_joined tb_good w_L23 w_L27 ⟨rfl, by decide +kernel, by decide +kernel, by decide +kernel⟩ ⟨rfl, by decide +kernel, by decide +kernel, by decide +kernel⟩ (by decide) (by decide) (by decide) (by decide) [1, 2] (by decide) rfl (fun i => sim_joined (xs (i + 1)) (xs (i + 2))) (p1 := 231) (p2 := 234) (p4 := 245) (p5 := 248) rfl rfl rfl rfl dl_220 ⟨dl_221, dl_222, dl_223, dl_224, dl_225, ⟨dl_226, dl_227, dl_228, dl_229, dl_230, trivial⟩⟩ dl_231 dl_234 ⟨dl_235, dl_236, dl_237, dl_238, dl_239, ⟨dl_240, dl_241, dl_242, dl_243, dl_244, trivial⟩⟩ dl_245 dl_248 (by decide) hc0 hi hl hLs hP hD hS kk
set_option maxHeartbeats 4000000 in
theorem lw_c3 {p : Program} {l : Launch} {e : Env} {s : State} {m : MethodId} {below : List Frame} {meth : Method} {c : Code} {b L : Nat} {xs : Nat → Int32} {D : va_G} {cA : ClassId} {Q : State → Prop} (hc0 : lwC p s m meth c b L xs TB D cA) {H : Heap} {locs : List Loc} {i : Nat} (hi : i + 4 ≤ L) {ls : Array Slot} {hc hm : mH} {adC adM : Nat → Nat} (hl : lv_has ls 4 [(0, .ref b), (1, .ref (adC 0)), (2, .ref (adM 0)), (3, .int (nI i))]) (hLs : Lsm hc hm)
    (hP : va_P D cls (m_w 0 cA adC hc ++ m_w 1 cA adM hm) H) (hD : va_D (fun q => s.heap.size ≤ q) (m_w 0 cA adC hc ++ m_w 1 cA adM hm)) (hS : va_S (fun q => s.heap.size ≤ q) s.heap H locs)
    (kk : ∀ (hc' hm' : mH) (H1 : Heap) (locs1 : List Loc), Lsm hc' hm' → va_P D cls (m_w 0 cA adC hc' ++ m_w 1 cA adM hm') H1 → va_D (fun q => s.heap.size ≤ q) (m_w 0 cA adC hc' ++ m_w 1 cA adM hm') → va_S (fun q => s.heap.size ≤ q) s.heap H1 locs1 → W p l e room_1 s m #[Value.ref b] below meth c H1 locs1 13 4236 Q (F0 m 769 ls [])) :
    W p l e room_1 s m #[Value.ref b] below meth c H locs 13 4236 Q (F0 m 253 ls []) :=
  lw_case c_C_clear c_M_clear tb_good w_L28 w_L31 ⟨rfl, by decide +kernel, by decide +kernel, by decide +kernel⟩ ⟨rfl, by decide +kernel, by decide +kernel, by decide +kernel⟩ (by decide) (by decide) (by decide) (by decide) [] (by decide) rfl (fun i => sim_clear) (p1 := 254) (p2 := 257) (p4 := 258) (p5 := 261) rfl rfl rfl rfl dl_253 trivial dl_254 dl_257 trivial dl_258 dl_261 (by decide) hc0 hi hl hLs hP hD hS kk
set_option maxHeartbeats 4000000 in
theorem lw_c4 {p : Program} {l : Launch} {e : Env} {s : State} {m : MethodId} {below : List Frame} {meth : Method} {c : Code} {b L : Nat} {xs : Nat → Int32} {D : va_G} {cA : ClassId} {Q : State → Prop} (hc0 : lwC p s m meth c b L xs TB D cA) {H : Heap} {locs : List Loc} {i : Nat} (hi : i + 4 ≤ L) {ls : Array Slot} {hc hm : mH} {adC adM : Nat → Nat} (hl : lv_has ls 4 [(0, .ref b), (1, .ref (adC 0)), (2, .ref (adM 0)), (3, .int (nI i))]) (hLs : Lsm hc hm)
    (hP : va_P D cls (m_w 0 cA adC hc ++ m_w 1 cA adM hm) H) (hD : va_D (fun q => s.heap.size ≤ q) (m_w 0 cA adC hc ++ m_w 1 cA adM hm)) (hS : va_S (fun q => s.heap.size ≤ q) s.heap H locs)
    (kk : ∀ (hc' hm' : mH) (H1 : Heap) (locs1 : List Loc), Lsm hc' hm' → va_P D cls (m_w 0 cA adC hc' ++ m_w 1 cA adM hm') H1 → va_D (fun q => s.heap.size ≤ q) (m_w 0 cA adC hc' ++ m_w 1 cA adM hm') → va_S (fun q => s.heap.size ≤ q) s.heap H1 locs1 → W p l e room_1 s m #[Value.ref b] below meth c H1 locs1 13 4236 Q (F0 m 769 ls [])) :
    W p l e room_1 s m #[Value.ref b] below meth c H locs 13 4236 Q (F0 m 266 ls []) :=
  lw_case c_C_degree c_M_degree tb_good w_L32 w_L36 ⟨rfl, by decide +kernel, by decide +kernel, by decide +kernel⟩ ⟨rfl, by decide +kernel, by decide +kernel, by decide +kernel⟩ (by decide) (by decide) (by decide) (by decide) [1] (by decide) rfl (fun i => sim_degree (xs (i + 1))) (p1 := 272) (p2 := 275) (p4 := 281) (p5 := 284) rfl rfl rfl rfl dl_266 ⟨dl_267, dl_268, dl_269, dl_270, dl_271, trivial⟩ dl_272 dl_275 ⟨dl_276, dl_277, dl_278, dl_279, dl_280, trivial⟩ dl_281 dl_284 (by decide) hc0 hi hl hLs hP hD hS kk
set_option maxHeartbeats 4000000 in
theorem lw_c5 {p : Program} {l : Launch} {e : Env} {s : State} {m : MethodId} {below : List Frame} {meth : Method} {c : Code} {b L : Nat} {xs : Nat → Int32} {D : va_G} {cA : ClassId} {Q : State → Prop} (hc0 : lwC p s m meth c b L xs TB D cA) {H : Heap} {locs : List Loc} {i : Nat} (hi : i + 4 ≤ L) {ls : Array Slot} {hc hm : mH} {adC adM : Nat → Nat} (hl : lv_has ls 4 [(0, .ref b), (1, .ref (adC 0)), (2, .ref (adM 0)), (3, .int (nI i))]) (hLs : Lsm hc hm)
    (hP : va_P D cls (m_w 0 cA adC hc ++ m_w 1 cA adM hm) H) (hD : va_D (fun q => s.heap.size ≤ q) (m_w 0 cA adC hc ++ m_w 1 cA adM hm)) (hS : va_S (fun q => s.heap.size ≤ q) s.heap H locs)
    (kk : ∀ (hc' hm' : mH) (H1 : Heap) (locs1 : List Loc), Lsm hc' hm' → va_P D cls (m_w 0 cA adC hc' ++ m_w 1 cA adM hm') H1 → va_D (fun q => s.heap.size ≤ q) (m_w 0 cA adC hc' ++ m_w 1 cA adM hm') → va_S (fun q => s.heap.size ≤ q) s.heap H1 locs1 → W p l e room_1 s m #[Value.ref b] below meth c H1 locs1 13 4236 Q (F0 m 769 ls [])) :
    W p l e room_1 s m #[Value.ref b] below meth c H locs 13 4236 Q (F0 m 289 ls []) :=
  lw_case c_C_core c_M_core tb_good w_L37 w_L40 ⟨rfl, by decide +kernel, by decide +kernel, by decide +kernel⟩ ⟨rfl, by decide +kernel, by decide +kernel, by decide +kernel⟩ (by decide) (by decide) (by decide) (by decide) [1] (by decide) rfl (fun i => sim_core (xs (i + 1))) (p1 := 295) (p2 := 298) (p4 := 304) (p5 := 307) rfl rfl rfl rfl dl_289 ⟨dl_290, dl_291, dl_292, dl_293, dl_294, trivial⟩ dl_295 dl_298 ⟨dl_299, dl_300, dl_301, dl_302, dl_303, trivial⟩ dl_304 dl_307 (by decide) hc0 hi hl hLs hP hD hS kk
set_option maxHeartbeats 4000000 in
theorem lw_c6 {p : Program} {l : Launch} {e : Env} {s : State} {m : MethodId} {below : List Frame} {meth : Method} {c : Code} {b L : Nat} {xs : Nat → Int32} {D : va_G} {cA : ClassId} {Q : State → Prop} (hc0 : lwC p s m meth c b L xs TB D cA) {H : Heap} {locs : List Loc} {i : Nat} (hi : i + 4 ≤ L) {ls : Array Slot} {hc hm : mH} {adC adM : Nat → Nat} (hl : lv_has ls 4 [(0, .ref b), (1, .ref (adC 0)), (2, .ref (adM 0)), (3, .int (nI i))]) (hLs : Lsm hc hm)
    (hP : va_P D cls (m_w 0 cA adC hc ++ m_w 1 cA adM hm) H) (hD : va_D (fun q => s.heap.size ≤ q) (m_w 0 cA adC hc ++ m_w 1 cA adM hm)) (hS : va_S (fun q => s.heap.size ≤ q) s.heap H locs)
    (kk : ∀ (hc' hm' : mH) (H1 : Heap) (locs1 : List Loc), Lsm hc' hm' → va_P D cls (m_w 0 cA adC hc' ++ m_w 1 cA adM hm') H1 → va_D (fun q => s.heap.size ≤ q) (m_w 0 cA adC hc' ++ m_w 1 cA adM hm') → va_S (fun q => s.heap.size ≤ q) s.heap H1 locs1 → W p l e room_1 s m #[Value.ref b] below meth c H1 locs1 13 4236 Q (F0 m 769 ls [])) :
    W p l e room_1 s m #[Value.ref b] below meth c H locs 13 4236 Q (F0 m 312 ls []) :=
  lw_case c_C_coreSet c_M_coreSet tb_good w_L41 w_L44 ⟨rfl, by decide +kernel, by decide +kernel, by decide +kernel⟩ ⟨rfl, by decide +kernel, by decide +kernel, by decide +kernel⟩ (by decide) (by decide) (by decide) (by decide) [1] (by decide) rfl (fun i => sim_coreSet (xs (i + 1))) (p1 := 318) (p2 := 321) (p4 := 327) (p5 := 330) rfl rfl rfl rfl dl_312 ⟨dl_313, dl_314, dl_315, dl_316, dl_317, trivial⟩ dl_318 dl_321 ⟨dl_322, dl_323, dl_324, dl_325, dl_326, trivial⟩ dl_327 dl_330 (by decide) hc0 hi hl hLs hP hD hS kk
set_option maxHeartbeats 4000000 in
theorem lw_c7 {p : Program} {l : Launch} {e : Env} {s : State} {m : MethodId} {below : List Frame} {meth : Method} {c : Code} {b L : Nat} {xs : Nat → Int32} {D : va_G} {cA : ClassId} {Q : State → Prop} (hc0 : lwC p s m meth c b L xs TB D cA) {H : Heap} {locs : List Loc} {i : Nat} (hi : i + 4 ≤ L) {ls : Array Slot} {hc hm : mH} {adC adM : Nat → Nat} (hl : lv_has ls 4 [(0, .ref b), (1, .ref (adC 0)), (2, .ref (adM 0)), (3, .int (nI i))]) (hLs : Lsm hc hm)
    (hP : va_P D cls (m_w 0 cA adC hc ++ m_w 1 cA adM hm) H) (hD : va_D (fun q => s.heap.size ≤ q) (m_w 0 cA adC hc ++ m_w 1 cA adM hm)) (hS : va_S (fun q => s.heap.size ≤ q) s.heap H locs)
    (kk : ∀ (hc' hm' : mH) (H1 : Heap) (locs1 : List Loc), Lsm hc' hm' → va_P D cls (m_w 0 cA adC hc' ++ m_w 1 cA adM hm') H1 → va_D (fun q => s.heap.size ≤ q) (m_w 0 cA adC hc' ++ m_w 1 cA adM hm') → va_S (fun q => s.heap.size ≤ q) s.heap H1 locs1 → W p l e room_1 s m #[Value.ref b] below meth c H1 locs1 13 4236 Q (F0 m 769 ls [])) :
    W p l e room_1 s m #[Value.ref b] below meth c H locs 13 4236 Q (F0 m 335 ls []) :=
  lw_case c_C_peeled c_M_peeled tb_good w_L45 w_L48 ⟨rfl, by decide +kernel, by decide +kernel, by decide +kernel⟩ ⟨rfl, by decide +kernel, by decide +kernel, by decide +kernel⟩ (by decide) (by decide) (by decide) (by decide) [1] (by decide) rfl (fun i => sim_peeled (xs (i + 1))) (p1 := 341) (p2 := 344) (p4 := 350) (p5 := 353) rfl rfl rfl rfl dl_335 ⟨dl_336, dl_337, dl_338, dl_339, dl_340, trivial⟩ dl_341 dl_344 ⟨dl_345, dl_346, dl_347, dl_348, dl_349, trivial⟩ dl_350 dl_353 (by decide) hc0 hi hl hLs hP hD hS kk
set_option maxHeartbeats 4000000 in
theorem lw_c8 {p : Program} {l : Launch} {e : Env} {s : State} {m : MethodId} {below : List Frame} {meth : Method} {c : Code} {b L : Nat} {xs : Nat → Int32} {D : va_G} {cA : ClassId} {Q : State → Prop} (hc0 : lwC p s m meth c b L xs TB D cA) {H : Heap} {locs : List Loc} {i : Nat} (hi : i + 4 ≤ L) {ls : Array Slot} {hc hm : mH} {adC adM : Nat → Nat} (hl : lv_has ls 4 [(0, .ref b), (1, .ref (adC 0)), (2, .ref (adM 0)), (3, .int (nI i))]) (hLs : Lsm hc hm)
    (hP : va_P D cls (m_w 0 cA adC hc ++ m_w 1 cA adM hm) H) (hD : va_D (fun q => s.heap.size ≤ q) (m_w 0 cA adC hc ++ m_w 1 cA adM hm)) (hS : va_S (fun q => s.heap.size ≤ q) s.heap H locs)
    (kk : ∀ (hc' hm' : mH) (H1 : Heap) (locs1 : List Loc), Lsm hc' hm' → va_P D cls (m_w 0 cA adC hc' ++ m_w 1 cA adM hm') H1 → va_D (fun q => s.heap.size ≤ q) (m_w 0 cA adC hc' ++ m_w 1 cA adM hm') → va_S (fun q => s.heap.size ≤ q) s.heap H1 locs1 → W p l e room_1 s m #[Value.ref b] below meth c H1 locs1 13 4236 Q (F0 m 769 ls [])) :
    W p l e room_1 s m #[Value.ref b] below meth c H locs 13 4236 Q (F0 m 358 ls []) :=
  lw_case c_C_layer c_M_layer tb_good w_L49 w_L52 ⟨rfl, by decide +kernel, by decide +kernel, by decide +kernel⟩ ⟨rfl, by decide +kernel, by decide +kernel, by decide +kernel⟩ (by decide) (by decide) (by decide) (by decide) [1] (by decide) rfl (fun i => sim_layer (xs (i + 1))) (p1 := 364) (p2 := 367) (p4 := 373) (p5 := 376) rfl rfl rfl rfl dl_358 ⟨dl_359, dl_360, dl_361, dl_362, dl_363, trivial⟩ dl_364 dl_367 ⟨dl_368, dl_369, dl_370, dl_371, dl_372, trivial⟩ dl_373 dl_376 (by decide) hc0 hi hl hLs hP hD hS kk
set_option maxHeartbeats 4000000 in
theorem lw_c9 {p : Program} {l : Launch} {e : Env} {s : State} {m : MethodId} {below : List Frame} {meth : Method} {c : Code} {b L : Nat} {xs : Nat → Int32} {D : va_G} {cA : ClassId} {Q : State → Prop} (hc0 : lwC p s m meth c b L xs TB D cA) {H : Heap} {locs : List Loc} {i : Nat} (hi : i + 4 ≤ L) {ls : Array Slot} {hc hm : mH} {adC adM : Nat → Nat} (hl : lv_has ls 4 [(0, .ref b), (1, .ref (adC 0)), (2, .ref (adM 0)), (3, .int (nI i))]) (hLs : Lsm hc hm)
    (hP : va_P D cls (m_w 0 cA adC hc ++ m_w 1 cA adM hm) H) (hD : va_D (fun q => s.heap.size ≤ q) (m_w 0 cA adC hc ++ m_w 1 cA adM hm)) (hS : va_S (fun q => s.heap.size ≤ q) s.heap H locs)
    (kk : ∀ (hc' hm' : mH) (H1 : Heap) (locs1 : List Loc), Lsm hc' hm' → va_P D cls (m_w 0 cA adC hc' ++ m_w 1 cA adM hm') H1 → va_D (fun q => s.heap.size ≤ q) (m_w 0 cA adC hc' ++ m_w 1 cA adM hm') → va_S (fun q => s.heap.size ≤ q) s.heap H1 locs1 → W p l e room_1 s m #[Value.ref b] below meth c H1 locs1 13 4236 Q (F0 m 769 ls [])) :
    W p l e room_1 s m #[Value.ref b] below meth c H locs 13 4236 Q (F0 m 381 ls []) :=
  lw_case c_C_triangles c_M_triangles tb_good w_L53 w_L56 ⟨rfl, by decide +kernel, by decide +kernel, by decide +kernel⟩ ⟨rfl, by decide +kernel, by decide +kernel, by decide +kernel⟩ (by decide) (by decide) (by decide) (by decide) [] (by decide) rfl (fun i => sim_triangles) (p1 := 382) (p2 := 385) (p4 := 386) (p5 := 389) rfl rfl rfl rfl dl_381 trivial dl_382 dl_385 trivial dl_386 dl_389 (by decide) hc0 hi hl hLs hP hD hS kk
set_option maxHeartbeats 4000000 in
theorem lw_c10 {p : Program} {l : Launch} {e : Env} {s : State} {m : MethodId} {below : List Frame} {meth : Method} {c : Code} {b L : Nat} {xs : Nat → Int32} {D : va_G} {cA : ClassId} {Q : State → Prop} (hc0 : lwC p s m meth c b L xs TB D cA) {H : Heap} {locs : List Loc} {i : Nat} (hi : i + 4 ≤ L) {ls : Array Slot} {hc hm : mH} {adC adM : Nat → Nat} (hl : lv_has ls 4 [(0, .ref b), (1, .ref (adC 0)), (2, .ref (adM 0)), (3, .int (nI i))]) (hLs : Lsm hc hm)
    (hP : va_P D cls (m_w 0 cA adC hc ++ m_w 1 cA adM hm) H) (hD : va_D (fun q => s.heap.size ≤ q) (m_w 0 cA adC hc ++ m_w 1 cA adM hm)) (hS : va_S (fun q => s.heap.size ≤ q) s.heap H locs)
    (kk : ∀ (hc' hm' : mH) (H1 : Heap) (locs1 : List Loc), Lsm hc' hm' → va_P D cls (m_w 0 cA adC hc' ++ m_w 1 cA adM hm') H1 → va_D (fun q => s.heap.size ≤ q) (m_w 0 cA adC hc' ++ m_w 1 cA adM hm') → va_S (fun q => s.heap.size ≤ q) s.heap H1 locs1 → W p l e room_1 s m #[Value.ref b] below meth c H1 locs1 13 4236 Q (F0 m 769 ls [])) :
    W p l e room_1 s m #[Value.ref b] below meth c H locs 13 4236 Q (F0 m 394 ls []) :=
  lw_case c_C_triangle c_M_triangle tb_good w_L57 w_L60 ⟨rfl, by decide +kernel, by decide +kernel, by decide +kernel⟩ ⟨rfl, by decide +kernel, by decide +kernel, by decide +kernel⟩ (by decide) (by decide) (by decide) (by decide) [1, 2] (by decide) rfl (fun i => sim_triangle (xs (i + 1)) (xs (i + 2))) (p1 := 405) (p2 := 408) (p4 := 419) (p5 := 422) rfl rfl rfl rfl dl_394 ⟨dl_395, dl_396, dl_397, dl_398, dl_399, ⟨dl_400, dl_401, dl_402, dl_403, dl_404, trivial⟩⟩ dl_405 dl_408 ⟨dl_409, dl_410, dl_411, dl_412, dl_413, ⟨dl_414, dl_415, dl_416, dl_417, dl_418, trivial⟩⟩ dl_419 dl_422 (by decide) hc0 hi hl hLs hP hD hS kk
set_option maxHeartbeats 4000000 in
theorem lw_c11 {p : Program} {l : Launch} {e : Env} {s : State} {m : MethodId} {below : List Frame} {meth : Method} {c : Code} {b L : Nat} {xs : Nat → Int32} {D : va_G} {cA : ClassId} {Q : State → Prop} (hc0 : lwC p s m meth c b L xs TB D cA) {H : Heap} {locs : List Loc} {i : Nat} (hi : i + 4 ≤ L) {ls : Array Slot} {hc hm : mH} {adC adM : Nat → Nat} (hl : lv_has ls 4 [(0, .ref b), (1, .ref (adC 0)), (2, .ref (adM 0)), (3, .int (nI i))]) (hLs : Lsm hc hm)
    (hP : va_P D cls (m_w 0 cA adC hc ++ m_w 1 cA adM hm) H) (hD : va_D (fun q => s.heap.size ≤ q) (m_w 0 cA adC hc ++ m_w 1 cA adM hm)) (hS : va_S (fun q => s.heap.size ≤ q) s.heap H locs)
    (kk : ∀ (hc' hm' : mH) (H1 : Heap) (locs1 : List Loc), Lsm hc' hm' → va_P D cls (m_w 0 cA adC hc' ++ m_w 1 cA adM hm') H1 → va_D (fun q => s.heap.size ≤ q) (m_w 0 cA adC hc' ++ m_w 1 cA adM hm') → va_S (fun q => s.heap.size ≤ q) s.heap H1 locs1 → W p l e room_1 s m #[Value.ref b] below meth c H1 locs1 13 4236 Q (F0 m 769 ls [])) :
    W p l e room_1 s m #[Value.ref b] below meth c H locs 13 4236 Q (F0 m 427 ls []) :=
  lw_case c_C_support c_M_support tb_good w_L61 w_L64 ⟨rfl, by decide +kernel, by decide +kernel, by decide +kernel⟩ ⟨rfl, by decide +kernel, by decide +kernel, by decide +kernel⟩ (by decide) (by decide) (by decide) (by decide) [1, 2] (by decide) rfl (fun i => sim_support (xs (i + 1)) (xs (i + 2))) (p1 := 438) (p2 := 441) (p4 := 452) (p5 := 455) rfl rfl rfl rfl dl_427 ⟨dl_428, dl_429, dl_430, dl_431, dl_432, ⟨dl_433, dl_434, dl_435, dl_436, dl_437, trivial⟩⟩ dl_438 dl_441 ⟨dl_442, dl_443, dl_444, dl_445, dl_446, ⟨dl_447, dl_448, dl_449, dl_450, dl_451, trivial⟩⟩ dl_452 dl_455 (by decide) hc0 hi hl hLs hP hD hS kk
set_option maxHeartbeats 4000000 in
theorem lw_c12 {p : Program} {l : Launch} {e : Env} {s : State} {m : MethodId} {below : List Frame} {meth : Method} {c : Code} {b L : Nat} {xs : Nat → Int32} {D : va_G} {cA : ClassId} {Q : State → Prop} (hc0 : lwC p s m meth c b L xs TB D cA) {H : Heap} {locs : List Loc} {i : Nat} (hi : i + 4 ≤ L) {ls : Array Slot} {hc hm : mH} {adC adM : Nat → Nat} (hl : lv_has ls 4 [(0, .ref b), (1, .ref (adC 0)), (2, .ref (adM 0)), (3, .int (nI i))]) (hLs : Lsm hc hm)
    (hP : va_P D cls (m_w 0 cA adC hc ++ m_w 1 cA adM hm) H) (hD : va_D (fun q => s.heap.size ≤ q) (m_w 0 cA adC hc ++ m_w 1 cA adM hm)) (hS : va_S (fun q => s.heap.size ≤ q) s.heap H locs)
    (kk : ∀ (hc' hm' : mH) (H1 : Heap) (locs1 : List Loc), Lsm hc' hm' → va_P D cls (m_w 0 cA adC hc' ++ m_w 1 cA adM hm') H1 → va_D (fun q => s.heap.size ≤ q) (m_w 0 cA adC hc' ++ m_w 1 cA adM hm') → va_S (fun q => s.heap.size ≤ q) s.heap H1 locs1 → W p l e room_1 s m #[Value.ref b] below meth c H1 locs1 13 4236 Q (F0 m 769 ls [])) :
    W p l e room_1 s m #[Value.ref b] below meth c H locs 13 4236 Q (F0 m 460 ls []) :=
  lw_case c_C_truss c_M_truss tb_good w_L65 w_L68 ⟨rfl, by decide +kernel, by decide +kernel, by decide +kernel⟩ ⟨rfl, by decide +kernel, by decide +kernel, by decide +kernel⟩ (by decide) (by decide) (by decide) (by decide) [1, 2] (by decide) rfl (fun i => sim_truss (xs (i + 1)) (xs (i + 2))) (p1 := 471) (p2 := 474) (p4 := 485) (p5 := 488) rfl rfl rfl rfl dl_460 ⟨dl_461, dl_462, dl_463, dl_464, dl_465, ⟨dl_466, dl_467, dl_468, dl_469, dl_470, trivial⟩⟩ dl_471 dl_474 ⟨dl_475, dl_476, dl_477, dl_478, dl_479, ⟨dl_480, dl_481, dl_482, dl_483, dl_484, trivial⟩⟩ dl_485 dl_488 (by decide) hc0 hi hl hLs hP hD hS kk
set_option maxHeartbeats 4000000 in
theorem lw_c13 {p : Program} {l : Launch} {e : Env} {s : State} {m : MethodId} {below : List Frame} {meth : Method} {c : Code} {b L : Nat} {xs : Nat → Int32} {D : va_G} {cA : ClassId} {Q : State → Prop} (hc0 : lwC p s m meth c b L xs TB D cA) {H : Heap} {locs : List Loc} {i : Nat} (hi : i + 4 ≤ L) {ls : Array Slot} {hc hm : mH} {adC adM : Nat → Nat} (hl : lv_has ls 4 [(0, .ref b), (1, .ref (adC 0)), (2, .ref (adM 0)), (3, .int (nI i))]) (hLs : Lsm hc hm)
    (hP : va_P D cls (m_w 0 cA adC hc ++ m_w 1 cA adM hm) H) (hD : va_D (fun q => s.heap.size ≤ q) (m_w 0 cA adC hc ++ m_w 1 cA adM hm)) (hS : va_S (fun q => s.heap.size ≤ q) s.heap H locs)
    (kk : ∀ (hc' hm' : mH) (H1 : Heap) (locs1 : List Loc), Lsm hc' hm' → va_P D cls (m_w 0 cA adC hc' ++ m_w 1 cA adM hm') H1 → va_D (fun q => s.heap.size ≤ q) (m_w 0 cA adC hc' ++ m_w 1 cA adM hm') → va_S (fun q => s.heap.size ≤ q) s.heap H1 locs1 → W p l e room_1 s m #[Value.ref b] below meth c H1 locs1 13 4236 Q (F0 m 769 ls [])) :
    W p l e room_1 s m #[Value.ref b] below meth c H locs 13 4236 Q (F0 m 493 ls []) :=
  lw_case c_C_cluster c_M_cluster tb_good w_L69 w_L72 ⟨rfl, by decide +kernel, by decide +kernel, by decide +kernel⟩ ⟨rfl, by decide +kernel, by decide +kernel, by decide +kernel⟩ (by decide) (by decide) (by decide) (by decide) [1, 2] (by decide) rfl (fun i => sim_cluster (xs (i + 1)) (xs (i + 2))) (p1 := 504) (p2 := 507) (p4 := 518) (p5 := 521) rfl rfl rfl rfl dl_493 ⟨dl_494, dl_495, dl_496, dl_497, dl_498, ⟨dl_499, dl_500, dl_501, dl_502, dl_503, trivial⟩⟩ dl_504 dl_507 ⟨dl_508, dl_509, dl_510, dl_511, dl_512, ⟨dl_513, dl_514, dl_515, dl_516, dl_517, trivial⟩⟩ dl_518 dl_521 (by decide) hc0 hi hl hLs hP hD hS kk
set_option maxHeartbeats 4000000 in
theorem lw_c14 {p : Program} {l : Launch} {e : Env} {s : State} {m : MethodId} {below : List Frame} {meth : Method} {c : Code} {b L : Nat} {xs : Nat → Int32} {D : va_G} {cA : ClassId} {Q : State → Prop} (hc0 : lwC p s m meth c b L xs TB D cA) {H : Heap} {locs : List Loc} {i : Nat} (hi : i + 4 ≤ L) {ls : Array Slot} {hc hm : mH} {adC adM : Nat → Nat} (hl : lv_has ls 4 [(0, .ref b), (1, .ref (adC 0)), (2, .ref (adM 0)), (3, .int (nI i))]) (hLs : Lsm hc hm)
    (hP : va_P D cls (m_w 0 cA adC hc ++ m_w 1 cA adM hm) H) (hD : va_D (fun q => s.heap.size ≤ q) (m_w 0 cA adC hc ++ m_w 1 cA adM hm)) (hS : va_S (fun q => s.heap.size ≤ q) s.heap H locs)
    (kk : ∀ (hc' hm' : mH) (H1 : Heap) (locs1 : List Loc), Lsm hc' hm' → va_P D cls (m_w 0 cA adC hc' ++ m_w 1 cA adM hm') H1 → va_D (fun q => s.heap.size ≤ q) (m_w 0 cA adC hc' ++ m_w 1 cA adM hm') → va_S (fun q => s.heap.size ≤ q) s.heap H1 locs1 → W p l e room_1 s m #[Value.ref b] below meth c H1 locs1 13 4236 Q (F0 m 769 ls [])) :
    W p l e room_1 s m #[Value.ref b] below meth c H locs 13 4236 Q (F0 m 526 ls []) :=
  lw_case c_C_closed c_M_closed tb_good w_L73 w_L76 ⟨rfl, by decide +kernel, by decide +kernel, by decide +kernel⟩ ⟨rfl, by decide +kernel, by decide +kernel, by decide +kernel⟩ (by decide) (by decide) (by decide) (by decide) [1] (by decide) rfl (fun i => sim_closed (xs (i + 1))) (p1 := 532) (p2 := 535) (p4 := 541) (p5 := 544) rfl rfl rfl rfl dl_526 ⟨dl_527, dl_528, dl_529, dl_530, dl_531, trivial⟩ dl_532 dl_535 ⟨dl_536, dl_537, dl_538, dl_539, dl_540, trivial⟩ dl_541 dl_544 (by decide) hc0 hi hl hLs hP hD hS kk
set_option maxHeartbeats 4000000 in
theorem lw_c15 {p : Program} {l : Launch} {e : Env} {s : State} {m : MethodId} {below : List Frame} {meth : Method} {c : Code} {b L : Nat} {xs : Nat → Int32} {D : va_G} {cA : ClassId} {Q : State → Prop} (hc0 : lwC p s m meth c b L xs TB D cA) {H : Heap} {locs : List Loc} {i : Nat} (hi : i + 4 ≤ L) {ls : Array Slot} {hc hm : mH} {adC adM : Nat → Nat} (hl : lv_has ls 4 [(0, .ref b), (1, .ref (adC 0)), (2, .ref (adM 0)), (3, .int (nI i))]) (hLs : Lsm hc hm)
    (hP : va_P D cls (m_w 0 cA adC hc ++ m_w 1 cA adM hm) H) (hD : va_D (fun q => s.heap.size ≤ q) (m_w 0 cA adC hc ++ m_w 1 cA adM hm)) (hS : va_S (fun q => s.heap.size ≤ q) s.heap H locs)
    (kk : ∀ (hc' hm' : mH) (H1 : Heap) (locs1 : List Loc), Lsm hc' hm' → va_P D cls (m_w 0 cA adC hc' ++ m_w 1 cA adM hm') H1 → va_D (fun q => s.heap.size ≤ q) (m_w 0 cA adC hc' ++ m_w 1 cA adM hm') → va_S (fun q => s.heap.size ≤ q) s.heap H1 locs1 → W p l e room_1 s m #[Value.ref b] below meth c H1 locs1 13 4236 Q (F0 m 769 ls [])) :
    W p l e room_1 s m #[Value.ref b] below meth c H locs 13 4236 Q (F0 m 549 ls []) :=
  lw_case c_C_densest c_M_densest tb_good w_L77 w_L80 ⟨rfl, by decide +kernel, by decide +kernel, by decide +kernel⟩ ⟨rfl, by decide +kernel, by decide +kernel, by decide +kernel⟩ (by decide) (by decide) (by decide) (by decide) [] (by decide) rfl (fun i => sim_densest) (p1 := 550) (p2 := 553) (p4 := 554) (p5 := 557) rfl rfl rfl rfl dl_549 trivial dl_550 dl_553 trivial dl_554 dl_557 (by decide) hc0 hi hl hLs hP hD hS kk
set_option maxHeartbeats 4000000 in
theorem lw_c16 {p : Program} {l : Launch} {e : Env} {s : State} {m : MethodId} {below : List Frame} {meth : Method} {c : Code} {b L : Nat} {xs : Nat → Int32} {D : va_G} {cA : ClassId} {Q : State → Prop} (hc0 : lwC p s m meth c b L xs TB D cA) {H : Heap} {locs : List Loc} {i : Nat} (hi : i + 4 ≤ L) {ls : Array Slot} {hc hm : mH} {adC adM : Nat → Nat} (hl : lv_has ls 4 [(0, .ref b), (1, .ref (adC 0)), (2, .ref (adM 0)), (3, .int (nI i))]) (hLs : Lsm hc hm)
    (hP : va_P D cls (m_w 0 cA adC hc ++ m_w 1 cA adM hm) H) (hD : va_D (fun q => s.heap.size ≤ q) (m_w 0 cA adC hc ++ m_w 1 cA adM hm)) (hS : va_S (fun q => s.heap.size ≤ q) s.heap H locs)
    (kk : ∀ (hc' hm' : mH) (H1 : Heap) (locs1 : List Loc), Lsm hc' hm' → va_P D cls (m_w 0 cA adC hc' ++ m_w 1 cA adM hm') H1 → va_D (fun q => s.heap.size ≤ q) (m_w 0 cA adC hc' ++ m_w 1 cA adM hm') → va_S (fun q => s.heap.size ≤ q) s.heap H1 locs1 → W p l e room_1 s m #[Value.ref b] below meth c H1 locs1 13 4236 Q (F0 m 769 ls [])) :
    W p l e room_1 s m #[Value.ref b] below meth c H locs 13 4236 Q (F0 m 562 ls []) :=
  lw_case c_C_density c_M_density tb_good w_L81 w_L84 ⟨rfl, by decide +kernel, by decide +kernel, by decide +kernel⟩ ⟨rfl, by decide +kernel, by decide +kernel, by decide +kernel⟩ (by decide) (by decide) (by decide) (by decide) [1] (by decide) rfl (fun i => sim_density (xs (i + 1))) (p1 := 568) (p2 := 571) (p4 := 577) (p5 := 580) rfl rfl rfl rfl dl_562 ⟨dl_563, dl_564, dl_565, dl_566, dl_567, trivial⟩ dl_568 dl_571 ⟨dl_572, dl_573, dl_574, dl_575, dl_576, trivial⟩ dl_577 dl_580 (by decide) hc0 hi hl hLs hP hD hS kk
set_option maxHeartbeats 4000000 in
theorem lw_c17 {p : Program} {l : Launch} {e : Env} {s : State} {m : MethodId} {below : List Frame} {meth : Method} {c : Code} {b L : Nat} {xs : Nat → Int32} {D : va_G} {cA : ClassId} {Q : State → Prop} (hc0 : lwC p s m meth c b L xs TB D cA) {H : Heap} {locs : List Loc} {i : Nat} (hi : i + 4 ≤ L) {ls : Array Slot} {hc hm : mH} {adC adM : Nat → Nat} (hl : lv_has ls 4 [(0, .ref b), (1, .ref (adC 0)), (2, .ref (adM 0)), (3, .int (nI i))]) (hLs : Lsm hc hm)
    (hP : va_P D cls (m_w 0 cA adC hc ++ m_w 1 cA adM hm) H) (hD : va_D (fun q => s.heap.size ≤ q) (m_w 0 cA adC hc ++ m_w 1 cA adM hm)) (hS : va_S (fun q => s.heap.size ≤ q) s.heap H locs)
    (kk : ∀ (hc' hm' : mH) (H1 : Heap) (locs1 : List Loc), Lsm hc' hm' → va_P D cls (m_w 0 cA adC hc' ++ m_w 1 cA adM hm') H1 → va_D (fun q => s.heap.size ≤ q) (m_w 0 cA adC hc' ++ m_w 1 cA adM hm') → va_S (fun q => s.heap.size ≤ q) s.heap H1 locs1 → W p l e room_1 s m #[Value.ref b] below meth c H1 locs1 13 4236 Q (F0 m 769 ls [])) :
    W p l e room_1 s m #[Value.ref b] below meth c H locs 13 4236 Q (F0 m 585 ls []) :=
  lw_case c_C_firm c_M_firm tb_good w_L85 w_L88 ⟨rfl, by decide +kernel, by decide +kernel, by decide +kernel⟩ ⟨rfl, by decide +kernel, by decide +kernel, by decide +kernel⟩ (by decide) (by decide) (by decide) (by decide) [1, 2] (by decide) rfl (fun i => sim_firm (xs (i + 1)) (xs (i + 2))) (p1 := 596) (p2 := 599) (p4 := 610) (p5 := 613) rfl rfl rfl rfl dl_585 ⟨dl_586, dl_587, dl_588, dl_589, dl_590, ⟨dl_591, dl_592, dl_593, dl_594, dl_595, trivial⟩⟩ dl_596 dl_599 ⟨dl_600, dl_601, dl_602, dl_603, dl_604, ⟨dl_605, dl_606, dl_607, dl_608, dl_609, trivial⟩⟩ dl_610 dl_613 (by decide) hc0 hi hl hLs hP hD hS kk
set_option maxHeartbeats 4000000 in
theorem lw_c18 {p : Program} {l : Launch} {e : Env} {s : State} {m : MethodId} {below : List Frame} {meth : Method} {c : Code} {b L : Nat} {xs : Nat → Int32} {D : va_G} {cA : ClassId} {Q : State → Prop} (hc0 : lwC p s m meth c b L xs TB D cA) {H : Heap} {locs : List Loc} {i : Nat} (hi : i + 4 ≤ L) {ls : Array Slot} {hc hm : mH} {adC adM : Nat → Nat} (hl : lv_has ls 4 [(0, .ref b), (1, .ref (adC 0)), (2, .ref (adM 0)), (3, .int (nI i))]) (hLs : Lsm hc hm)
    (hP : va_P D cls (m_w 0 cA adC hc ++ m_w 1 cA adM hm) H) (hD : va_D (fun q => s.heap.size ≤ q) (m_w 0 cA adC hc ++ m_w 1 cA adM hm)) (hS : va_S (fun q => s.heap.size ≤ q) s.heap H locs)
    (kk : ∀ (hc' hm' : mH) (H1 : Heap) (locs1 : List Loc), Lsm hc' hm' → va_P D cls (m_w 0 cA adC hc' ++ m_w 1 cA adM hm') H1 → va_D (fun q => s.heap.size ≤ q) (m_w 0 cA adC hc' ++ m_w 1 cA adM hm') → va_S (fun q => s.heap.size ≤ q) s.heap H1 locs1 → W p l e room_1 s m #[Value.ref b] below meth c H1 locs1 13 4236 Q (F0 m 769 ls [])) :
    W p l e room_1 s m #[Value.ref b] below meth c H locs 13 4236 Q (F0 m 618 ls []) :=
  lw_case c_C_classOf c_M_classOf tb_good w_L89 w_L92 ⟨rfl, by decide +kernel, by decide +kernel, by decide +kernel⟩ ⟨rfl, by decide +kernel, by decide +kernel, by decide +kernel⟩ (by decide) (by decide) (by decide) (by decide) [1, 2] (by decide) rfl (fun i => sim_classOf (xs (i + 1)) (xs (i + 2))) (p1 := 629) (p2 := 632) (p4 := 643) (p5 := 646) rfl rfl rfl rfl dl_618 ⟨dl_619, dl_620, dl_621, dl_622, dl_623, ⟨dl_624, dl_625, dl_626, dl_627, dl_628, trivial⟩⟩ dl_629 dl_632 ⟨dl_633, dl_634, dl_635, dl_636, dl_637, ⟨dl_638, dl_639, dl_640, dl_641, dl_642, trivial⟩⟩ dl_643 dl_646 (by decide) hc0 hi hl hLs hP hD hS kk
set_option maxHeartbeats 4000000 in
theorem lw_c19 {p : Program} {l : Launch} {e : Env} {s : State} {m : MethodId} {below : List Frame} {meth : Method} {c : Code} {b L : Nat} {xs : Nat → Int32} {D : va_G} {cA : ClassId} {Q : State → Prop} (hc0 : lwC p s m meth c b L xs TB D cA) {H : Heap} {locs : List Loc} {i : Nat} (hi : i + 4 ≤ L) {ls : Array Slot} {hc hm : mH} {adC adM : Nat → Nat} (hl : lv_has ls 4 [(0, .ref b), (1, .ref (adC 0)), (2, .ref (adM 0)), (3, .int (nI i))]) (hLs : Lsm hc hm)
    (hP : va_P D cls (m_w 0 cA adC hc ++ m_w 1 cA adM hm) H) (hD : va_D (fun q => s.heap.size ≤ q) (m_w 0 cA adC hc ++ m_w 1 cA adM hm)) (hS : va_S (fun q => s.heap.size ≤ q) s.heap H locs)
    (kk : ∀ (hc' hm' : mH) (H1 : Heap) (locs1 : List Loc), Lsm hc' hm' → va_P D cls (m_w 0 cA adC hc' ++ m_w 1 cA adM hm') H1 → va_D (fun q => s.heap.size ≤ q) (m_w 0 cA adC hc' ++ m_w 1 cA adM hm') → va_S (fun q => s.heap.size ≤ q) s.heap H1 locs1 → W p l e room_1 s m #[Value.ref b] below meth c H1 locs1 13 4236 Q (F0 m 769 ls [])) :
    W p l e room_1 s m #[Value.ref b] below meth c H locs 13 4236 Q (F0 m 651 ls []) :=
  lw_case c_C_likeness c_M_likeness tb_good w_L93 w_L96 ⟨rfl, by decide +kernel, by decide +kernel, by decide +kernel⟩ ⟨rfl, by decide +kernel, by decide +kernel, by decide +kernel⟩ (by decide) (by decide) (by decide) (by decide) [1] (by decide) rfl (fun i => sim_likeness (xs (i + 1))) (p1 := 657) (p2 := 660) (p4 := 666) (p5 := 669) rfl rfl rfl rfl dl_651 ⟨dl_652, dl_653, dl_654, dl_655, dl_656, trivial⟩ dl_657 dl_660 ⟨dl_661, dl_662, dl_663, dl_664, dl_665, trivial⟩ dl_666 dl_669 (by decide) hc0 hi hl hLs hP hD hS kk
set_option maxHeartbeats 4000000 in
theorem lw_c20 {p : Program} {l : Launch} {e : Env} {s : State} {m : MethodId} {below : List Frame} {meth : Method} {c : Code} {b L : Nat} {xs : Nat → Int32} {D : va_G} {cA : ClassId} {Q : State → Prop} (hc0 : lwC p s m meth c b L xs TB D cA) {H : Heap} {locs : List Loc} {i : Nat} (hi : i + 4 ≤ L) {ls : Array Slot} {hc hm : mH} {adC adM : Nat → Nat} (hl : lv_has ls 4 [(0, .ref b), (1, .ref (adC 0)), (2, .ref (adM 0)), (3, .int (nI i))]) (hLs : Lsm hc hm)
    (hP : va_P D cls (m_w 0 cA adC hc ++ m_w 1 cA adM hm) H) (hD : va_D (fun q => s.heap.size ≤ q) (m_w 0 cA adC hc ++ m_w 1 cA adM hm)) (hS : va_S (fun q => s.heap.size ≤ q) s.heap H locs)
    (kk : ∀ (hc' hm' : mH) (H1 : Heap) (locs1 : List Loc), Lsm hc' hm' → va_P D cls (m_w 0 cA adC hc' ++ m_w 1 cA adM hm') H1 → va_D (fun q => s.heap.size ≤ q) (m_w 0 cA adC hc' ++ m_w 1 cA adM hm') → va_S (fun q => s.heap.size ≤ q) s.heap H1 locs1 → W p l e room_1 s m #[Value.ref b] below meth c H1 locs1 13 4236 Q (F0 m 769 ls [])) :
    W p l e room_1 s m #[Value.ref b] below meth c H locs 13 4236 Q (F0 m 674 ls []) :=
  lw_case c_C_rich c_M_rich tb_good w_L97 w_L100 ⟨rfl, by decide +kernel, by decide +kernel, by decide +kernel⟩ ⟨rfl, by decide +kernel, by decide +kernel, by decide +kernel⟩ (by decide) (by decide) (by decide) (by decide) [1, 2] (by decide) rfl (fun i => sim_rich (xs (i + 1)) (xs (i + 2))) (p1 := 685) (p2 := 688) (p4 := 699) (p5 := 702) rfl rfl rfl rfl dl_674 ⟨dl_675, dl_676, dl_677, dl_678, dl_679, ⟨dl_680, dl_681, dl_682, dl_683, dl_684, trivial⟩⟩ dl_685 dl_688 ⟨dl_689, dl_690, dl_691, dl_692, dl_693, ⟨dl_694, dl_695, dl_696, dl_697, dl_698, trivial⟩⟩ dl_699 dl_702 (by decide) hc0 hi hl hLs hP hD hS kk
set_option maxHeartbeats 4000000 in
theorem lw_c21 {p : Program} {l : Launch} {e : Env} {s : State} {m : MethodId} {below : List Frame} {meth : Method} {c : Code} {b L : Nat} {xs : Nat → Int32} {D : va_G} {cA : ClassId} {Q : State → Prop} (hc0 : lwC p s m meth c b L xs TB D cA) {H : Heap} {locs : List Loc} {i : Nat} (hi : i + 4 ≤ L) {ls : Array Slot} {hc hm : mH} {adC adM : Nat → Nat} (hl : lv_has ls 4 [(0, .ref b), (1, .ref (adC 0)), (2, .ref (adM 0)), (3, .int (nI i))]) (hLs : Lsm hc hm)
    (hP : va_P D cls (m_w 0 cA adC hc ++ m_w 1 cA adM hm) H) (hD : va_D (fun q => s.heap.size ≤ q) (m_w 0 cA adC hc ++ m_w 1 cA adM hm)) (hS : va_S (fun q => s.heap.size ≤ q) s.heap H locs)
    (kk : ∀ (hc' hm' : mH) (H1 : Heap) (locs1 : List Loc), Lsm hc' hm' → va_P D cls (m_w 0 cA adC hc' ++ m_w 1 cA adM hm') H1 → va_D (fun q => s.heap.size ≤ q) (m_w 0 cA adC hc' ++ m_w 1 cA adM hm') → va_S (fun q => s.heap.size ≤ q) s.heap H1 locs1 → W p l e room_1 s m #[Value.ref b] below meth c H1 locs1 13 4236 Q (F0 m 769 ls [])) :
    W p l e room_1 s m #[Value.ref b] below meth c H locs 13 4236 Q (F0 m 707 ls []) :=
  lw_case c_C_want c_M_want tb_good w_L101 w_L104 ⟨rfl, by decide +kernel, by decide +kernel, by decide +kernel⟩ ⟨rfl, by decide +kernel, by decide +kernel, by decide +kernel⟩ (by decide) (by decide) (by decide) (by decide) [1] (by decide) rfl (fun i => sim_want (xs (i + 1))) (p1 := 713) (p2 := 716) (p4 := 722) (p5 := 725) rfl rfl rfl rfl dl_707 ⟨dl_708, dl_709, dl_710, dl_711, dl_712, trivial⟩ dl_713 dl_716 ⟨dl_717, dl_718, dl_719, dl_720, dl_721, trivial⟩ dl_722 dl_725 (by decide) hc0 hi hl hLs hP hD hS kk
set_option maxHeartbeats 4000000 in
theorem lw_c22 {p : Program} {l : Launch} {e : Env} {s : State} {m : MethodId} {below : List Frame} {meth : Method} {c : Code} {b L : Nat} {xs : Nat → Int32} {D : va_G} {cA : ClassId} {Q : State → Prop} (hc0 : lwC p s m meth c b L xs TB D cA) {H : Heap} {locs : List Loc} {i : Nat} (hi : i + 4 ≤ L) {ls : Array Slot} {hc hm : mH} {adC adM : Nat → Nat} (hl : lv_has ls 4 [(0, .ref b), (1, .ref (adC 0)), (2, .ref (adM 0)), (3, .int (nI i))]) (hLs : Lsm hc hm)
    (hP : va_P D cls (m_w 0 cA adC hc ++ m_w 1 cA adM hm) H) (hD : va_D (fun q => s.heap.size ≤ q) (m_w 0 cA adC hc ++ m_w 1 cA adM hm)) (hS : va_S (fun q => s.heap.size ≤ q) s.heap H locs)
    (kk : ∀ (hc' hm' : mH) (H1 : Heap) (locs1 : List Loc), Lsm hc' hm' → va_P D cls (m_w 0 cA adC hc' ++ m_w 1 cA adM hm') H1 → va_D (fun q => s.heap.size ≤ q) (m_w 0 cA adC hc' ++ m_w 1 cA adM hm') → va_S (fun q => s.heap.size ≤ q) s.heap H1 locs1 → W p l e room_1 s m #[Value.ref b] below meth c H1 locs1 13 4236 Q (F0 m 769 ls [])) :
    W p l e room_1 s m #[Value.ref b] below meth c H locs 13 4236 Q (F0 m 730 ls []) :=
  lw_case c_C_unwant c_M_unwant tb_good w_L105 w_L108 ⟨rfl, by decide +kernel, by decide +kernel, by decide +kernel⟩ ⟨rfl, by decide +kernel, by decide +kernel, by decide +kernel⟩ (by decide) (by decide) (by decide) (by decide) [] (by decide) rfl (fun i => sim_unwant) (p1 := 731) (p2 := 734) (p4 := 735) (p5 := 738) rfl rfl rfl rfl dl_730 trivial dl_731 dl_734 trivial dl_735 dl_738 (by decide) hc0 hi hl hLs hP hD hS kk
set_option maxHeartbeats 4000000 in
theorem lw_c23 {p : Program} {l : Launch} {e : Env} {s : State} {m : MethodId} {below : List Frame} {meth : Method} {c : Code} {b L : Nat} {xs : Nat → Int32} {D : va_G} {cA : ClassId} {Q : State → Prop} (hc0 : lwC p s m meth c b L xs TB D cA) {H : Heap} {locs : List Loc} {i : Nat} (hi : i + 4 ≤ L) {ls : Array Slot} {hc hm : mH} {adC adM : Nat → Nat} (hl : lv_has ls 4 [(0, .ref b), (1, .ref (adC 0)), (2, .ref (adM 0)), (3, .int (nI i))]) (hLs : Lsm hc hm)
    (hP : va_P D cls (m_w 0 cA adC hc ++ m_w 1 cA adM hm) H) (hD : va_D (fun q => s.heap.size ≤ q) (m_w 0 cA adC hc ++ m_w 1 cA adM hm)) (hS : va_S (fun q => s.heap.size ≤ q) s.heap H locs)
    (kk : ∀ (hc' hm' : mH) (H1 : Heap) (locs1 : List Loc), Lsm hc' hm' → va_P D cls (m_w 0 cA adC hc' ++ m_w 1 cA adM hm') H1 → va_D (fun q => s.heap.size ≤ q) (m_w 0 cA adC hc' ++ m_w 1 cA adM hm') → va_S (fun q => s.heap.size ≤ q) s.heap H1 locs1 → W p l e room_1 s m #[Value.ref b] below meth c H1 locs1 13 4236 Q (F0 m 769 ls [])) :
    W p l e room_1 s m #[Value.ref b] below meth c H locs 13 4236 Q (F0 m 743 ls []) :=
  lw_case c_C_graphic c_M_graphic tb_good w_L109 w_L112 ⟨rfl, by decide +kernel, by decide +kernel, by decide +kernel⟩ ⟨rfl, by decide +kernel, by decide +kernel, by decide +kernel⟩ (by decide) (by decide) (by decide) (by decide) [] (by decide) rfl (fun i => sim_graphic) (p1 := 744) (p2 := 747) (p4 := 748) (p5 := 751) rfl rfl rfl rfl dl_743 trivial dl_744 dl_747 trivial dl_748 dl_751 (by decide) hc0 hi hl hLs hP hD hS kk
set_option maxHeartbeats 4000000 in
theorem lw_c24 {p : Program} {l : Launch} {e : Env} {s : State} {m : MethodId} {below : List Frame} {meth : Method} {c : Code} {b L : Nat} {xs : Nat → Int32} {D : va_G} {cA : ClassId} {Q : State → Prop} (hc0 : lwC p s m meth c b L xs TB D cA) {H : Heap} {locs : List Loc} {i : Nat} (hi : i + 4 ≤ L) {ls : Array Slot} {hc hm : mH} {adC adM : Nat → Nat} (hl : lv_has ls 4 [(0, .ref b), (1, .ref (adC 0)), (2, .ref (adM 0)), (3, .int (nI i))]) (hLs : Lsm hc hm)
    (hP : va_P D cls (m_w 0 cA adC hc ++ m_w 1 cA adM hm) H) (hD : va_D (fun q => s.heap.size ≤ q) (m_w 0 cA adC hc ++ m_w 1 cA adM hm)) (hS : va_S (fun q => s.heap.size ≤ q) s.heap H locs)
    (kk : ∀ (hc' hm' : mH) (H1 : Heap) (locs1 : List Loc), Lsm hc' hm' → va_P D cls (m_w 0 cA adC hc' ++ m_w 1 cA adM hm') H1 → va_D (fun q => s.heap.size ≤ q) (m_w 0 cA adC hc' ++ m_w 1 cA adM hm') → va_S (fun q => s.heap.size ≤ q) s.heap H1 locs1 → W p l e room_1 s m #[Value.ref b] below meth c H1 locs1 13 4236 Q (F0 m 769 ls [])) :
    W p l e room_1 s m #[Value.ref b] below meth c H locs 13 4236 Q (F0 m 756 ls []) :=
  lw_case c_C_make c_M_make tb_good w_L113 w_L116 ⟨rfl, by decide +kernel, by decide +kernel, by decide +kernel⟩ ⟨rfl, by decide +kernel, by decide +kernel, by decide +kernel⟩ (by decide) (by decide) (by decide) (by decide) [] (by decide) rfl (fun i => sim_make) (p1 := 757) (p2 := 760) (p4 := 761) (p5 := 764) rfl rfl rfl rfl dl_756 trivial dl_757 dl_760 trivial dl_761 dl_764 (by decide) hc0 hi hl hLs hP hD hS kk
set_option maxHeartbeats 4000000 in
theorem lw_c1 {p : Program} {l : Launch} {e : Env} {s : State} {m : MethodId} {below : List Frame} {meth : Method} {c : Code} {b L : Nat} {xs : Nat → Int32} {D : va_G} {cA : ClassId} {Q : State → Prop} (hc0 : lwC p s m meth c b L xs TB D cA) {H : Heap} {locs : List Loc} {i : Nat} (hi : i + 4 ≤ L) {ls : Array Slot} {hc hm : mH} {adC adM : Nat → Nat} (hl : lv_has ls 4 [(0, .ref b), (1, .ref (adC 0)), (2, .ref (adM 0)), (3, .int (nI i))]) (hLs : Lsm hc hm)
    (hP : va_P D cls (m_w 0 cA adC hc ++ m_w 1 cA adM hm) H) (hD : va_D (fun q => s.heap.size ≤ q) (m_w 0 cA adC hc ++ m_w 1 cA adM hm)) (hS : va_S (fun q => s.heap.size ≤ q) s.heap H locs)
    (kk : ∀ (hc' hm' : mH) (H1 : Heap) (locs1 : List Loc), Lsm hc' hm' → va_P D cls (m_w 0 cA adC hc' ++ m_w 1 cA adM hm') H1 → va_D (fun q => s.heap.size ≤ q) (m_w 0 cA adC hc' ++ m_w 1 cA adM hm') → va_S (fun q => s.heap.size ≤ q) s.heap H1 locs1 → W p l e room_1 s m #[Value.ref b] below meth c H1 locs1 13 4236 Q (F0 m 769 ls [])) :
    W p l e room_1 s m #[Value.ref b] below meth c H locs 13 4236 Q (F0 m 161 ls []) := by
  obtain ⟨hx, hb, hr, hml, hown, hts, hX, hbl, hlk, hK, hL⟩ := id hc0
  have f0 : ∃ fs, m_at hc 0 = some (.inl fs) := by
    obtain ⟨n, f, q, g, j, r, t, d, w, jm, c, bb, gm, l, x0, x1, x2, kp, md, mg, rfl, rfl, -⟩ := hLs
    exact ⟨_, rfl⟩
  have f1 : ∃ fs, m_at hm 0 = some (.inl fs) := by
    obtain ⟨n, f, q, g, j, r, t, d, w, jm, c, bb, gm, l, x0, x1, x2, kp, md, mg, rfl, rfl, -⟩ := hLs
    exact ⟨_, rfl⟩
  obtain ⟨fs0, hf0⟩ := f0
  obtain ⟨fs1, hf1⟩ := f1
  obtain ⟨bz, hbz⟩ : ∃ bz : Bool, bz = !decide (xs (i + 3) = 0) := ⟨_, rfl⟩
  have part2 : ∀ (r : Int32) (hc' : mH) (H1 : Heap) (locs1 : List Loc), tM_join [.inr 0, .inl (xs (i + 1)), .inl (xs (i + 2)), .inl (b2i bz)] hm (fun r' hm' => r' = some r ∧ Lsm hc' hm') → va_P D cls (m_w 0 cA adC hc' ++ m_w 1 cA adM hm) H1 → va_D (fun q => s.heap.size ≤ q) (m_w 0 cA adC hc' ++ m_w 1 cA adM hm) → va_S (fun q => s.heap.size ≤ q) s.heap H1 locs1 → W p l e room_1 s m #[Value.ref b] below meth c H1 locs1 13 4236 Q (F0 m 188 ls [.int r]) := by
    intro r hc' H1 locs1 hT1 hP1 hD1 hS1
    have call2 : W p l e room_1 s m #[Value.ref b] below meth c H1 locs1 13 4236 Q (F0 m 212 ls [.int (b2i bz), .int (xs (i + 2)), .int (xs (i + 1)), .ref (adM 0), .int r]) := by
      refine lw_call (na := 3) (l := l) (e := e) (below := below) (Q := Q) (pre := m_w 0 cA adC hc') (post := []) (rest := [.int r]) (ad := adM) (locs := locs1) (hcl := (rfl : cls[1]? = some (R_M, T_M, 13))) c_M_join tb_good w_L22 ⟨rfl, by decide +kernel, by decide +kernel, by decide +kernel⟩ (by decide) (by decide) hc0 hT1 rfl hf1 dl_212 hl.1 (Nat.le_of_ble_eq_true rfl) (by rw [List.append_nil]; exact hP1) (by rw [List.append_nil]; exact hD1) hS1 (fun r' hm' H2 locs2 hT2 hP2 hD2 hS2 => ?_)
      rw [List.append_nil] at hP2 hD2
      obtain ⟨hrr, hLs2⟩ := hT2
      have hrr : r' = r := Option.some.inj hrr
      exact lv_icmp_eq (tgt := 769) hx hb dl_215 (by decide) (fun _ => kk hc' hm' H2 locs2 hLs2 hP2 hD2 hS2) (fun z => absurd hrr.symm z)
    refine lv_aload_n hx hb dl_188 rfl (lv_at hl 2 rfl) ?_
    refine lw_push hc0 hS1 hi hl [1, 2, 3] (by decide) 189 _ ⟨dl_189, dl_190, dl_191, dl_192, dl_193, dl_194, dl_195, dl_196, dl_197, dl_198, dl_199, dl_200, dl_201, dl_202, dl_203, trivial⟩ ?_
    show W p l e room_1 s m #[Value.ref b] below meth c H1 locs1 13 4236 Q (F0 m 204 ls [.int (xs (i + 3)), .int (xs (i + 2)), .int (xs (i + 1)), .ref (adM 0), .int r])
    refine lv_if_eq (tgt := 211) hx hb dl_204 (by decide) (fun z => ?_) (fun z => ?_)
    · rw [z] at hbz
      have hbz : bz = false := hbz
      subst hbz
      exact lv_iconst (v := 0) hx hb dl_211 (by decide) call2
    · rw [decide_eq_false z] at hbz
      have hbz : bz = true := hbz
      subst hbz
      exact lv_iconst (v := 1) hx hb dl_207 (by decide) (lv_goto (tgt := 212) hx hb dl_208 (by decide) call2)
  have call1 : W p l e room_1 s m #[Value.ref b] below meth c H locs 13 4236 Q (F0 m 185 ls [.int (b2i bz), .int (xs (i + 2)), .int (xs (i + 1)), .ref (adC 0)]) :=
    lw_call (na := 3) (l := l) (e := e) (below := below) (Q := Q) (pre := []) (post := m_w 1 cA adM hm) (rest := []) (ad := adC) (locs := locs) (hcl := (rfl : cls[0]? = some (R_C, T_C, 7))) c_C_join tb_good w_L18 ⟨rfl, by decide +kernel, by decide +kernel, by decide +kernel⟩ (by decide) (by decide) hc0 (sim_join (xs (i + 1)) (xs (i + 2)) bz hc hm hLs) rfl hf0 dl_185 hl.1 (Nat.zero_le _) hP hD hS (fun r hc' H1 locs1 hT1 hP1 hD1 hS1 => part2 r hc' H1 locs1 hT1 hP1 hD1 hS1)
  refine lv_aload_n hx hb dl_161 rfl (lv_at hl 1 rfl) ?_
  refine lw_push hc0 hS hi hl [1, 2, 3] (by decide) 162 _ ⟨dl_162, dl_163, dl_164, dl_165, dl_166, dl_167, dl_168, dl_169, dl_170, dl_171, dl_172, dl_173, dl_174, dl_175, dl_176, trivial⟩ ?_
  show W p l e room_1 s m #[Value.ref b] below meth c H locs 13 4236 Q (F0 m 177 ls [.int (xs (i + 3)), .int (xs (i + 2)), .int (xs (i + 1)), .ref (adC 0)])
  refine lv_if_eq (tgt := 184) hx hb dl_177 (by decide) (fun z => ?_) (fun z => ?_)
  · rw [z] at hbz
    have hbz : bz = false := hbz
    subst hbz
    exact lv_iconst (v := 0) hx hb dl_184 (by decide) call1
  · rw [decide_eq_false z] at hbz
    have hbz : bz = true := hbz
    subst hbz
    exact lv_iconst (v := 1) hx hb dl_180 (by decide) (lv_goto (tgt := 185) hx hb dl_181 (by decide) call1)
end
section
/-! THE CLAIM OUT OF ONE WALK OF THE LAW'S BODY. Your part is whole_start (and what it stands on); all else here is the same for every law, but numbers. -/
def R_law : String := "DegreeCoresLaw"
def lw_P (b : Addr) (xs : List Int32) (args : Array Value) (s : State) : Prop := args = #[.ref b] ∧ s.IntsAt b xs ∧ xs.length ≤ 2048 ∧ (Jvm.Cond.and given_1 narrow_1).before args s = true
def lw_Q (_ : Array Value) (s : State) (o : Outcome) (t : State) : Prop := o = .returned (some (.int 1)) ∧ Framed s o t [] 13 4236
def lw_Z (below : List Frame) (a : Array Value) (s : State) : State → Prop := fun t => ∃ o, t.status = .running ∧ Ended t below o ∧ lw_Q a s o t
/-- the law's own end, with 1 on the stack, nothing written that was there before, its room as the claim has it -/
theorem lw_ret {p : Program} {l : Launch} {e : Env} {s : State} {m : MethodId} {below : List Frame} {meth : Method} {c : Code} {b : Nat} (hx : p.tables.exec = Jvm.exec) (hb : c.code = code) (hr : meth.sig.returnType = ret) (hlocks : meth.locks = false) {pc : Nat} {H : Heap} {ls : Array Slot} (hdg : decode code pc = .ok (.ireturn, 1)) : W p l e room_1 s m #[Value.ref b] below meth c H [] 13 4236 (lw_Z below #[Value.ref b] s) (F0 m pc ls [.int 1]) := by
  intro T hT X
  obtain ⟨fs, hret, hrun, hended, hW, hframe⟩ := X.leave (v := some (.int 1)) (hlocks := hlocks) (fun h => by rw [hr] at h; cases h)
  have hmeth' : T.vm.method? m = some meth := X.method'
  refine ⟨T.setFrames fs, ?_, .returned (some (.int 1)), hrun, hended, rfl, ⟨_, rfl⟩, hW, hframe⟩
  jvm_step X.here [X.here.top, hx, hb, hdg, hmeth', hr, ret, narrow_b1]
  (try refine ⟨rfl, ?_⟩); (try refine ⟨rfl, ?_⟩)
  first | (intro acts; rw [hret _ acts rfl rfl rfl]) | rw [hret _ _ rfl rfl rfl]
  exact Steps.refl _
/-- what holds at the law's entry: the machine, the code, the tables' words (any of lw_tbl by 'hts w (by decide +kernel)'), the script of L ints xs at the cell b, what the Statement gives of the start (any of its parts by flat_of_before) -/
def lw_At (p : Program) (s : State) (m : MethodId) (meth : Method) (c : Code) (b L : Nat) (xs : Nat → Int32) : Prop :=
  p.tables.exec = Jvm.exec ∧ c.code = code ∧ meth.sig.returnType = ret ∧ c.maxLocals = 4 ∧ s.vm.findClass R_law = some m.cls ∧ (∀ w ∈ lw_tbl, w.before #[Value.ref b] s = true) ∧ va_X b L xs s s.heap ∧ b < s.heap.size ∧ meth.locks = false ∧ (Jvm.Cond.and given_1 narrow_1).before #[Value.ref b] s = true
set_option maxHeartbeats 4000000 in
/-- the law's loop: at its head both hold the same -/
theorem lw_loop {p : Program} {l : Launch} {e : Env} {s : State} {m : MethodId} {below : List Frame} {meth : Method} {c : Code} {b L : Nat} {xs : Nat → Int32} {D : va_G} {cA : ClassId} (hc0 : lwC p s m meth c b L xs TB D cA) {adC adM : Nat → Nat} :
    ∀ (n i : Nat), i ≤ 2052 → 2052 ≤ i + n → ∀ (H : Heap) (locs : List Loc) (ls : Array Slot) (hc hm : mH), lv_has ls 4 [(0, .ref b), (1, .ref (adC 0)), (2, .ref (adM 0)), (3, .int (nI i))] → Lsm hc hm → va_P D cls (m_w 0 cA adC hc ++ m_w 1 cA adM hm) H → va_D (fun q => s.heap.size ≤ q) (m_w 0 cA adC hc ++ m_w 1 cA adM hm) → va_S (fun q => s.heap.size ≤ q) s.heap H locs →
    W p l e room_1 s m #[Value.ref b] below meth c H locs 13 4236 (lw_Z below #[Value.ref b] s) (F0 m 18 ls []) := by
  obtain ⟨hx, hb, hr, hml, hown, hts, hX, hbl, hlk, hK, hL⟩ := id hc0
  intro n
  induction n with
  | zero =>
    intro i h1 h2 H locs ls hc hm hl hLs hP hD hS
    refine lv_iload_n hx hb dl_18 rfl (lv_at hl 3 rfl) (lv_aload_n hx hb dl_19 rfl (lv_at hl 0 rfl) (va_slen hx hb hX hbl (Nat.not_le.mpr hbl) hS dl_20 (lv_iconst (v := 4) hx hb dl_21 (by decide) (lv_isub hx hb dl_22 (lv_icmp_gt (tgt := 775) hx hb dl_23 (by decide) (fun _ => ?_) (fun z => ?_))))))
    · refine lv_iconst (v := 1) hx hb dl_775 (by decide) (va_forget (fun q hq => hS.2.2 q hq) ?_)
      exact lw_ret hx hb hr hlk dl_776
    · exfalso
      apply z
      rw [Int32.lt_iff_toInt_lt]
      have e1 : (nI L - 4).toInt = (L : Int) - 4 := pk_sub_toInt (b := 4) (by omega) (by omega)
      have e2 : (nI i).toInt = (i : Int) := nI_toInt (by omega)
      show (nI L - 4).toInt < (nI i).toInt
      omega
  | succ n ih =>
    intro i h1 h2 H locs ls hc hm hl hLs hP hD hS
    refine lv_iload_n hx hb dl_18 rfl (lv_at hl 3 rfl) (lv_aload_n hx hb dl_19 rfl (lv_at hl 0 rfl) (va_slen hx hb hX hbl (Nat.not_le.mpr hbl) hS dl_20 (lv_iconst (v := 4) hx hb dl_21 (by decide) (lv_isub hx hb dl_22 (lv_icmp_gt (tgt := 775) hx hb dl_23 (by decide) (fun _ => ?_) (fun z => ?_))))))
    · refine lv_iconst (v := 1) hx hb dl_775 (by decide) (va_forget (fun q hq => hS.2.2 q hq) ?_)
      exact lw_ret hx hb hr hlk dl_776
    · have hi : i + 4 ≤ L := by
        apply Nat.le_of_not_lt
        intro hlt
        apply z
        rw [Int32.lt_iff_toInt_lt]
        have e1 : (nI L - 4).toInt = (L : Int) - 4 := pk_sub_toInt (b := 4) (by omega) (by omega)
        have e2 : (nI i).toInt = (i : Int) := nI_toInt (by omega)
        show (nI L - 4).toInt < (nI i).toInt
        omega
      have next : ∀ (hc' hm' : mH) (H1 : Heap) (locs1 : List Loc), Lsm hc' hm' → va_P D cls (m_w 0 cA adC hc' ++ m_w 1 cA adM hm') H1 → va_D (fun q => s.heap.size ≤ q) (m_w 0 cA adC hc' ++ m_w 1 cA adM hm') → va_S (fun q => s.heap.size ≤ q) s.heap H1 locs1 → W p l e room_1 s m #[Value.ref b] below meth c H1 locs1 13 4236 (lw_Z below #[Value.ref b] s) (F0 m 769 ls []) := by
        intro hc' hm' H1 locs1 hLs1 hP1 hD1 hS1
        refine lv_iinc (v := nI (i + 4)) (lv' := [(3, .int (nI (i + 4))), (0, .ref b), (1, .ref (adC 0)), (2, .ref (adM 0))]) hx hb dl_769 hl (k := 3) rfl (nI_add i 4) (by decide) rfl (fun ls' hl' => ?_)
        refine lv_goto (tgt := 18) hx hb dl_772 (by decide) ?_
        exact ih (i + 4) (by omega) (by omega) H1 locs1 ls' hc' hm' (lv_sub hl' [1, 2, 3, 0] rfl) hLs1 hP1 hD1 hS1
      refine lv_aload_n hx hb dl_26 rfl (lv_at hl 0 rfl) (lv_iload_n hx hb dl_27 rfl (lv_at hl 3 rfl) (va_sld hx hb hX hbl (Nat.not_le.mpr hbl) hS (vp_in_nI (by omega) (by omega)) dl_28 (lv_bipush (v := 31) hx hb dl_29 (by decide) (lv_iand hx hb dl_31 ?_))))
      obtain ⟨j, hj, ej⟩ := pk_andE (xs (nI i).toNatClampNeg) (m := 31) 5 (by decide)
      rw [ej]
      have hji : (nI j).toInt = (j : Int) := nI_toInt (by omega)
      by_cases hj2 : j ≤ 24
      · rcases (show j = 0 ∨ j = 1 ∨ j = 2 ∨ j = 3 ∨ j = 4 ∨ j = 5 ∨ j = 6 ∨ j = 7 ∨ j = 8 ∨ j = 9 ∨ j = 10 ∨ j = 11 ∨ j = 12 ∨ j = 13 ∨ j = 14 ∨ j = 15 ∨ j = 16 ∨ j = 17 ∨ j = 18 ∨ j = 19 ∨ j = 20 ∨ j = 21 ∨ j = 22 ∨ j = 23 ∨ j = 24 by omega) with rfl | rfl | rfl | rfl | rfl | rfl | rfl | rfl | rfl | rfl | rfl | rfl | rfl | rfl | rfl | rfl | rfl | rfl | rfl | rfl | rfl | rfl | rfl | rfl | rfl
        · exact lv_tableIn (tgt := 148) hx hb dl_32 (by decide) (by decide) (off := 116) rfl (by decide) (lw_c0 hc0 hi hl hLs hP hD hS next)
        · exact lv_tableIn (tgt := 161) hx hb dl_32 (by decide) (by decide) (off := 129) rfl (by decide) (lw_c1 hc0 hi hl hLs hP hD hS next)
        · exact lv_tableIn (tgt := 220) hx hb dl_32 (by decide) (by decide) (off := 188) rfl (by decide) (lw_c2 hc0 hi hl hLs hP hD hS next)
        · exact lv_tableIn (tgt := 253) hx hb dl_32 (by decide) (by decide) (off := 221) rfl (by decide) (lw_c3 hc0 hi hl hLs hP hD hS next)
        · exact lv_tableIn (tgt := 266) hx hb dl_32 (by decide) (by decide) (off := 234) rfl (by decide) (lw_c4 hc0 hi hl hLs hP hD hS next)
        · exact lv_tableIn (tgt := 289) hx hb dl_32 (by decide) (by decide) (off := 257) rfl (by decide) (lw_c5 hc0 hi hl hLs hP hD hS next)
        · exact lv_tableIn (tgt := 312) hx hb dl_32 (by decide) (by decide) (off := 280) rfl (by decide) (lw_c6 hc0 hi hl hLs hP hD hS next)
        · exact lv_tableIn (tgt := 335) hx hb dl_32 (by decide) (by decide) (off := 303) rfl (by decide) (lw_c7 hc0 hi hl hLs hP hD hS next)
        · exact lv_tableIn (tgt := 358) hx hb dl_32 (by decide) (by decide) (off := 326) rfl (by decide) (lw_c8 hc0 hi hl hLs hP hD hS next)
        · exact lv_tableIn (tgt := 381) hx hb dl_32 (by decide) (by decide) (off := 349) rfl (by decide) (lw_c9 hc0 hi hl hLs hP hD hS next)
        · exact lv_tableIn (tgt := 394) hx hb dl_32 (by decide) (by decide) (off := 362) rfl (by decide) (lw_c10 hc0 hi hl hLs hP hD hS next)
        · exact lv_tableIn (tgt := 427) hx hb dl_32 (by decide) (by decide) (off := 395) rfl (by decide) (lw_c11 hc0 hi hl hLs hP hD hS next)
        · exact lv_tableIn (tgt := 460) hx hb dl_32 (by decide) (by decide) (off := 428) rfl (by decide) (lw_c12 hc0 hi hl hLs hP hD hS next)
        · exact lv_tableIn (tgt := 493) hx hb dl_32 (by decide) (by decide) (off := 461) rfl (by decide) (lw_c13 hc0 hi hl hLs hP hD hS next)
        · exact lv_tableIn (tgt := 526) hx hb dl_32 (by decide) (by decide) (off := 494) rfl (by decide) (lw_c14 hc0 hi hl hLs hP hD hS next)
        · exact lv_tableIn (tgt := 549) hx hb dl_32 (by decide) (by decide) (off := 517) rfl (by decide) (lw_c15 hc0 hi hl hLs hP hD hS next)
        · exact lv_tableIn (tgt := 562) hx hb dl_32 (by decide) (by decide) (off := 530) rfl (by decide) (lw_c16 hc0 hi hl hLs hP hD hS next)
        · exact lv_tableIn (tgt := 585) hx hb dl_32 (by decide) (by decide) (off := 553) rfl (by decide) (lw_c17 hc0 hi hl hLs hP hD hS next)
        · exact lv_tableIn (tgt := 618) hx hb dl_32 (by decide) (by decide) (off := 586) rfl (by decide) (lw_c18 hc0 hi hl hLs hP hD hS next)
        · exact lv_tableIn (tgt := 651) hx hb dl_32 (by decide) (by decide) (off := 619) rfl (by decide) (lw_c19 hc0 hi hl hLs hP hD hS next)
        · exact lv_tableIn (tgt := 674) hx hb dl_32 (by decide) (by decide) (off := 642) rfl (by decide) (lw_c20 hc0 hi hl hLs hP hD hS next)
        · exact lv_tableIn (tgt := 707) hx hb dl_32 (by decide) (by decide) (off := 675) rfl (by decide) (lw_c21 hc0 hi hl hLs hP hD hS next)
        · exact lv_tableIn (tgt := 730) hx hb dl_32 (by decide) (by decide) (off := 698) rfl (by decide) (lw_c22 hc0 hi hl hLs hP hD hS next)
        · exact lv_tableIn (tgt := 743) hx hb dl_32 (by decide) (by decide) (off := 711) rfl (by decide) (lw_c23 hc0 hi hl hLs hP hD hS next)
        · exact lv_tableIn (tgt := 756) hx hb dl_32 (by decide) (by decide) (off := 724) rfl (by decide) (lw_c24 hc0 hi hl hLs hP hD hS next)
      · exact lv_tableOut (tgt := 769) hx hb dl_32 (by rw [hji]; omega) (by decide) (next hc hm H locs hLs hP hD hS)
theorem lw_K {s : State} {b : Nat} {Ts : List Cond} (hts : ∀ w ∈ Ts, w.before #[Value.ref b] s = true) (ha : Cond.arrayClass .int ∈ Ts) (hC : ∀ w ∈ u_ws R_C T_C 7, w ∈ Ts) (hM : ∀ w ∈ u_ws R_M T_M 13, w ∈ Ts) (iC : Cond.instantiable R_C 7 ∈ Ts) (iM : Cond.instantiable R_M 13 ∈ Ts) : ∃ (D : va_G) (cA : ClassId), va_K D cls [(cA, .int)] s := by
  obtain ⟨c0, iS0, hKn0⟩ := u_known (C := R_C) (T := T_C) (N := 7) (n := 7) hts hC (hts _ iC)
  obtain ⟨c1, iS1, hKn1⟩ := u_known (C := R_M) (T := T_M) (N := 13) (n := 13) hts hM (hts _ iM)
  obtain ⟨cA, kA, comp, h1, h2, h3⟩ := Cond.arrayClass_spec (hts _ ha)
  refine ⟨(fun k => if k = 0 then c0 else c1, fun k => if k = 0 then iS0 else iS1), cA, fun k q hq => ?_, fun k q hq => ?_⟩
  · match k, hq with
    | 0, hq => cases hq; exact hKn0
    | 1, hq => cases hq; exact hKn1
    | k + 2, hq => simp [cls] at hq
  · match k, hq with
    | 0, hq =>
      cases hq
      exact ⟨fun n z => ⟨fun k h => (by cases h), kA, h2, comp, h3⟩, h1⟩
    | k + 1, hq => simp at hq
theorem lw_words : (Cond.arrayClass .int ∈ TB ∧ Cond.instantiable R_C 7 ∈ TB ∧ Cond.instantiable R_M 13 ∈ TB) ∧ (Cond.classLink "DegreeCoresLaw" 7 R_C ∈ TB ∧ Cond.classLink "DegreeCoresLaw" 10 R_M ∈ TB ∧ Cond.initialized R_C ∈ TB ∧ Cond.initialized R_M ∈ TB) ∧ (Cond.methodLink R_C 1 objectInit ∈ TB ∧ Cond.methodLink R_M 1 objectInit ∈ TB ∧ Cond.instanceMethod objectInit ∈ TB ∧ Cond.code objectInit ⟨#[0xb1]⟩ 1 none ∈ TB) := by decide +kernel
set_option maxHeartbeats 4000000 in
/-- from the entry, for any words that hold what is wanted -/
theorem lw_begin {p : Program} {l : Launch} {e : Env} {s : State} {m : MethodId} {below : List Frame} {meth : Method} {c : Code} {b L : Nat} {xs : Nat → Int32} {Ts : List Cond} {D : va_G} {cA : ClassId} {Q : State → Prop} (hc0 : lwC p s m meth c b L xs Ts D cA) (hgood : ∀ w ∈ Ts, ((w.onTables && w.keeps) = true ∨ ∃ ty, w = .arrayClass ty))
    (k1 : Cond.arrayClass .int ∈ Ts ∧ Cond.instantiable R_C 7 ∈ Ts ∧ Cond.instantiable R_M 13 ∈ Ts) (k2 : Cond.classLink "DegreeCoresLaw" 7 R_C ∈ Ts ∧ Cond.classLink "DegreeCoresLaw" 10 R_M ∈ Ts ∧ Cond.initialized R_C ∈ Ts ∧ Cond.initialized R_M ∈ Ts) (k3 : Cond.methodLink R_C 1 objectInit ∈ Ts ∧ Cond.methodLink R_M 1 objectInit ∈ Ts ∧ Cond.instanceMethod objectInit ∈ Ts ∧ Cond.code objectInit ⟨#[0xb1]⟩ 1 none ∈ Ts)
    (inC : ∀ w ∈ u_ws R_C T_C 7, w ∈ Ts) (inM : ∀ w ∈ u_ws R_M T_M 13, w ∈ Ts) (flC : ∀ q ∈ f_C, q.2 < 7 ∧ Cond.fieldLink R_C q.1 (T_C q.2).1 (T_C q.2).2.1 (T_C q.2).2.2.1 ∈ Ts) (flM : ∀ q ∈ f_M, q.2 < 13 ∧ Cond.fieldLink R_M q.1 (T_M q.2).1 (T_M q.2).2.1 (T_M q.2).2.2.1 ∈ Ts)
    (wC : ∀ w ∈ ([.methodLink "DegreeCoresLaw" 9 y_C_init, .instanceMethod y_C_init, .initialized R_C, Cond.code y_C_init b_C_init 1 none] : List Cond), w ∈ Ts) (wM : ∀ w ∈ ([.methodLink "DegreeCoresLaw" 12 y_M_init, .instanceMethod y_M_init, .initialized R_M, Cond.code y_M_init b_M_init 1 none] : List Cond), w ∈ Ts)
    (kk : ∀ (adC adM : Nat → Nat) (H : Heap) (locs : List Loc) (ls : Array Slot), lv_has ls 4 [(0, .ref b), (1, .ref (adC 0)), (2, .ref (adM 0)), (3, .int (nI 0))] → va_P D cls (m_w 0 cA adC freshC ++ m_w 1 cA adM freshM) H → va_D (fun q => s.heap.size ≤ q) (m_w 0 cA adC freshC ++ m_w 1 cA adM freshM) → va_S (fun q => s.heap.size ≤ q) s.heap H locs → W p l e room_1 s m #[Value.ref b] below meth c H locs 13 4236 Q (F0 m 18 ls [])) :
    W p l e room_1 s m #[Value.ref b] below meth c s.heap [] 0 0 Q (entryFrame m ([Value.ref b] : List Value).toArray 4) := by
  obtain ⟨hx, hb, hr, hml, hown, hts, hX, hbl, hlk, hK, hL⟩ := id hc0
  have hA : ∀ q : Nat, s.heap.size ≤ q → (fun q : Nat => s.heap.size ≤ q) q := fun _ h => h
  have hS : va_S (fun q : Nat => s.heap.size ≤ q) s.heap s.heap [] := va_S.rf
  have hP : va_P D cls [] s.heap := fun k q h => by simp at h
  have hD : va_D (fun q : Nat => s.heap.size ≤ q) [] := ⟨fun i j p q h => by simp at h, fun k q h => by simp at h⟩
  have gi : ∀ {y : MethodName} {bytes : ByteArray}, Cond.code y bytes 1 none ∈ Ts → GoodIn Ts (Cond.code y bytes 1 none :: Ts) := fun {y bytes} hy w hw => by
    rcases List.mem_cons.mp hw with h | h
    · rw [h]; exact ⟨hy, hgood _ hy⟩
    · exact ⟨h, hgood _ h⟩
  have hl := lv_entry ([.ref b]) (n := 4) (Nat.le_of_ble_eq_true rfl)
  rw [lg_entry_eq]
  generalize (lg_sl ([.ref b]) ++ List.replicate (4 - (lg_sl ([.ref b])).length) Slot.unset).toArray = ls at hl ⊢
  have hl : lv_has ls 4 [(0, .ref b)] := hl
  refine va_new (ci := 0) (fs := fs_C) (C := R_C) (T := T_C) (N := 7) hx hb hts inC ty_C ty_C_ok hown (hts _ k2.1) (hts _ k1.2.1) (hts _ k2.2.2.1) hK hP hD hS hA rfl (fun j hj => by rcases (show j = 0 ∨ j = 1 ∨ j = 2 ∨ j = 3 ∨ j = 4 ∨ j = 5 ∨ j = 6 by omega) with rfl | rfl | rfl | rfl | rfl | rfl | rfl <;> rfl) (Nat.le_of_ble_eq_true rfl) (Nat.le_of_ble_eq_true rfl) dl_0 (fun q0 H hP hD hS => ?_)
  have hP : va_P D cls [(q0, .inr (0, fs_C))] H := hP
  have hD : va_D (fun q : Nat => s.heap.size ≤ q) [(q0, .inr (0, fs_C))] := hD
  refine W.widen (k := 1) (n := 7) (by omega) (by omega) ?_
  refine lv_dup hx hb dl_3 rfl ?_
  have hFc := va_free (wc := [(q0, .inr (0, fs_C))]) hD hS hA [0] rfl
  refine va_callv (va_runI (As := []) (rest := [.ref q0]) ⟨hx, hb, hml, hown, hts⟩ (c_C_init k3.1 k3.2.2.1 k3.2.2.2 k1.1 inC flC l D cA q0 H.size) (cwI 0 hts (gi (wC _ (by simp))) rfl rfl rfl (hts _ k2.2.2.1) (hts _ (wC _ (by simp))) (hts _ (wC _ (by simp))) rfl (by decide +kernel) ⟨Nat.le_of_ble_eq_true rfl, Nat.le_of_ble_eq_true rfl⟩) ⟨fun a U g mk q => by obtain ⟨q0, q1, qP, qK, qD⟩ := q; exact ⟨q0, q1, qP, va_K.moved (u := U) (U := U.calling g mk a) (Vm.Alike.refl U.vm) qK, qD⟩, fun U hU hW => ⟨rfl, by rw [hU], by rw [hU]; exact hP, va_K.moved hW.alike hK, hD.weaken (fun _ _ _ _ => trivial)⟩⟩ rfl rfl hl.1 rfl (lv_room (Nat.le_of_ble_eq_true rfl)) dl_4 ⟨Nat.le_of_ble_eq_true rfl, Nat.le_of_ble_eq_true rfl⟩) hS (fun q _ h => hFc q h) hFc (fun adC t H1 locs ht hvm hw hB hz1 hk1 hS => ?_)
  obtain ⟨hP1, hK1, hD1⟩ := hB
  rw [ht] at hP1
  have hw : adC 0 = q0 := hw
  subst hw
  have hD1 := hD1.weaken (B := fun q : Nat => s.heap.size ≤ q) (fun _ q _ h => hFc q.1 h)
  refine W.widen (k := 6) (n := 67) (by omega) (by omega) ?_
  refine lv_astore_n (lv' := [(1, .ref (adC 0)), (0, .ref b)]) hx hb dl_7 rfl hl (by decide) rfl (fun ls hl => ?_)
  refine va_new (ci := 1) (fs := fs_M) (C := R_M) (T := T_M) (N := 13) hx hb hts inM ty_M ty_M_ok hown (hts _ k2.2.1) (hts _ k1.2.2) (hts _ k2.2.2.2) hK hP1 hD1 hS hA rfl (fun j hj => by rcases (show j = 0 ∨ j = 1 ∨ j = 2 ∨ j = 3 ∨ j = 4 ∨ j = 5 ∨ j = 6 ∨ j = 7 ∨ j = 8 ∨ j = 9 ∨ j = 10 ∨ j = 11 ∨ j = 12 by omega) with rfl | rfl | rfl | rfl | rfl | rfl | rfl | rfl | rfl | rfl | rfl | rfl | rfl <;> rfl) (Nat.le_of_ble_eq_true rfl) (Nat.le_of_ble_eq_true rfl) dl_8 (fun q1 H hP hD hS => ?_)
  refine W.widen (k := 7) (n := 80) (by omega) (by omega) ?_
  refine lv_dup hx hb dl_11 rfl ?_
  have hPm : va_P D cls [(q1, .inr (1, fs_M))] H := fun k q h => hP ((m_w 0 cA adC freshC).length + k) q (by rw [List.getElem?_append_right (by omega), show (m_w 0 cA adC freshC).length + k - (m_w 0 cA adC freshC).length = k by omega]; exact h)
  have hDm : va_D (fun q : Nat => s.heap.size ≤ q) [(q1, .inr (1, fs_M))] := ⟨fun i j p q h1 h2 _ => by
    have a := (List.getElem?_eq_some_iff.mp h1).1
    have b := (List.getElem?_eq_some_iff.mp h2).1
    simp at a b
    omega, fun k q h => hD.2 ((m_w 0 cA adC freshC).length + k) q (by rw [List.getElem?_append_right (by omega), show (m_w 0 cA adC freshC).length + k - (m_w 0 cA adC freshC).length = k by omega]; exact h)⟩
  have hFm := va_free (wc := [(q1, .inr (1, fs_M))]) hDm hS hA [0] rfl
  refine va_callv (va_runI (As := []) (rest := [.ref q1]) ⟨hx, hb, hml, hown, hts⟩ (c_M_init k3.2.1 k3.2.2.1 k3.2.2.2 k1.1 inM flM l D cA q1 H.size) (cwI 0 hts (gi (wM _ (by simp))) rfl rfl rfl (hts _ k2.2.2.2) (hts _ (wM _ (by simp))) (hts _ (wM _ (by simp))) rfl (by decide +kernel) ⟨Nat.le_of_ble_eq_true rfl, Nat.le_of_ble_eq_true rfl⟩) ⟨fun a U g mk q => by obtain ⟨q0, q1, qP, qK, qD⟩ := q; exact ⟨q0, q1, qP, va_K.moved (u := U) (U := U.calling g mk a) (Vm.Alike.refl U.vm) qK, qD⟩, fun U hU hW => ⟨rfl, by rw [hU], by rw [hU]; exact hPm, va_K.moved hW.alike hK, hDm.weaken (fun _ _ _ _ => trivial)⟩⟩ rfl rfl hl.1 rfl (lv_room (Nat.le_of_ble_eq_true rfl)) dl_12 ⟨Nat.le_of_ble_eq_true rfl, Nat.le_of_ble_eq_true rfl⟩) hS (fun q _ h => hFm q h) hFm (fun adM t H2 locs ht2 hvm2 hw2 hB2 hz2 hk2 hS => ?_)
  obtain ⟨hP2, hK2, hD2⟩ := hB2
  rw [ht2] at hP2
  have hw2 : adM 0 = q1 := hw2
  subst hw2
  obtain ⟨hPj, hDj⟩ := lw_join (pre := m_w 0 cA adC freshC) (w1 := [(adM 0, .inr (1, fs_M))]) (post := []) (by rw [List.append_nil]; exact hP) (by rw [List.append_nil]; exact hD) hk2 hFm hP2 hD2
  rw [List.append_nil] at hPj hDj
  refine W.widen (k := 13) (n := 4236) (by omega) (by omega) ?_
  refine lv_astore_n (lv' := [(2, .ref (adM 0)), (1, .ref (adC 0)), (0, .ref b)]) hx hb dl_15 rfl hl (by decide) rfl (fun ls hl => ?_)
  refine lv_iconst (v := 0) hx hb dl_16 (by decide) ?_
  refine lv_istore_n (lv' := [(3, .int 0), (2, .ref (adM 0)), (1, .ref (adC 0)), (0, .ref b)]) hx hb dl_17 rfl hl (by decide) rfl (fun ls hl => ?_)
  exact kk adC adM H2 locs ls (lv_sub hl [3, 2, 1, 0] rfl) hPj hDj hS
theorem whole_start {p : Program} {e : Env} {s : State} {m : MethodId} {below : List Frame} {meth : Method} {c : Code} (l : Launch) {b L : Nat} {xs : Nat → Int32} (hL : L ≤ 2048) (C0 : lw_At p s m meth c b L xs) : W p l e room_1 s m #[Value.ref b] below meth c s.heap [] 0 0 (lw_Z below #[Value.ref b] s) (entryFrame m ([Value.ref b] : List Value).toArray 4) := by
  obtain ⟨hx, hb, hr, hml, hown, hts, hX, hbl, hlk, hgv⟩ := C0
  have hts2 : ∀ w ∈ TB, w.before #[Value.ref b] s = true := fun w hw => hts w (tb_in w hw)
  obtain ⟨k1, k2, k3⟩ := lw_words
  obtain ⟨D, cA, hK⟩ := lw_K hts2 k1.1 in_C in_M k1.2.1 k1.2.2
  have hc0 : lwC p s m meth c b L xs TB D cA := ⟨hx, hb, hr, hml, hown, hts2, hX, hbl, hlk, hK, hL⟩
  exact lw_begin hc0 tb_good k1 k2 k3 in_C in_M fl_C fl_M w_L9 w_L12 (fun adC adM H locs ls hl hP hD hS => lw_loop hc0 2052 0 (by omega) (by omega) H locs ls freshC freshM hl Lsm_0 hP hD hS)
set_option maxHeartbeats 4000000 in
theorem lw_walk (l : Launch) (b : Addr) (xs : List Int32) : MetFree l x (headSpec (Jvm.Cond.code x code maxLocals ret :: tables_1) room_1) (lw_P b xs) (fun _ _ _ _ _ => True) lw_Q := by
  refine MetFree.of_bodyS (code := code) (maxLocals := maxLocals) (ret := ret) (by decide) ?_ ?_
  · intro args s m h hn
    obtain ⟨meth, c, h1, h2, h3, h4, h5, h6, -, -⟩ := Cond.code_spec hn (atoms_spec (ws := Jvm.Cond.code x code maxLocals ret :: tables_1) h _ List.mem_cons_self)
    exact ⟨meth, c, h1, h2, h3, h4, h5, h6⟩
  · intro p e s m args below meth c s₁ B hml0 hP _
    obtain ⟨rfl, hx, hbd, hgv⟩ := hP
    obtain ⟨scr, harrAt, hlist, hof, hsmall⟩ := hx
    obtain ⟨hcb, hkn, -, -⟩ := State.arrayAt?_spec harrAt
    have hown : s.vm.findClass R_law = some m.cls := findClass_of_methodNamed B.named
    have hts0 : ∀ c ∈ (Jvm.Cond.code x code maxLocals ret :: tables_1), c.before #[Value.ref b] s = true := atoms_spec (ws := Jvm.Cond.code x code maxLocals ret :: tables_1) B.pre
    have hts : ∀ w ∈ lw_tbl, w.before #[Value.ref b] s = true := k2_hts_sels lw_privs (fun w hw => hts0 w (List.mem_cons_of_mem _ hw)) lw_privs_ok
    have hml : c.maxLocals = 4 := B.maxLocals_eq (hts0 _ List.mem_cons_self)
    have X₀ : Stand p l e room_1 s m #[Value.ref b] below meth c s₁ [] 0 0 := Stand.of_body B
    have hh0 : s₁.heap = s.heap := by rw [B.state]; rfl
    have hsz : scr.slots.size = xs.length := by rw [← Array.length_toList, hlist, List.length_map]
    have hval : ∀ j : Nat, j < xs.length → scr.slots[j]? = some (.int (xs.getD j 0)) := fun j hj => by
      rw [← Array.getElem?_toList, hlist]
      simp [hj]
    have hbl : b < s.heap.size := (Array.getElem?_eq_some_iff.mp hcb).1
    have hX : va_X b xs.length (fun j => xs.getD j 0) s s.heap := ⟨scr, hcb, hof, hkn, hsz, hval⟩
    have K : W p l e room_1 s m #[Value.ref b] below meth c s₁.heap [] 0 0 (lw_Z below #[Value.ref b] s) (entryFrame m ([Value.ref b] : List Value).toArray 4) := by
      rw [hh0]
      exact whole_start l hbd ⟨B.exec, B.bytes, B.returns, hml, hown, hts, hX, hbl, B.notSynchronized, hgv⟩
    obtain ⟨t, a1, o, b1, b2, b3⟩ := K s₁ rfl X₀
    exact ⟨t, o, a1, b1, b2, b3⟩
theorem lw_pre_spec {args : Array Value} {s : State} (h : (Jvm.Cond.and given_1 narrow_1).before args s = true) (hr : rest_1_c.before args s = true) : ∃ (b : Addr) (xs : List Int32), lw_P b xs args s := by
  have hs := flat_of_before _ h
  have hq := flat_of_before _ hr
  have hc : (Cond.count 1).before args s = true := hs _ (by decide +kernel)
  have harr : (Cond.arrayOf (.arg 0) .int).before args s = true := hs _ (by decide +kernel)
  have hle : (Cond.le (.length (.arg 0)) (.int 2048)).before args s = true := hs _ (by decide +kernel)
  have hlen : (Cond.isInt (.length (.arg 0))).before args s = true := hq _ (by decide +kernel)
  have hall : (Cond.all (.arg 0) (.isInt (.elem (.arg 0) (.index 0)))).before args s = true := hq _ (by decide +kernel)
  obtain ⟨b, xs, hb, hx⟩ := State.ints_of_pre rfl harr hlen hall
  have hsm : xs.length < 2 ^ 31 := hx.choose_spec.2.2.2
  have hev : (Term.length (.arg 0)).eval args s none [] s = some (.int xs.length.toInt32) := hx.length_eval hb
  have hv := Cond.le_ints hev (show (Term.int 2048).eval args s none [] s = some (.int 2048) from rfl)
  have hd : xs.length.toInt32 ≤ 2048 := by
    simpa [Cond.before, Cond.holds, hv] using hle
  have hN : xs.length ≤ 2048 := (Int32.ofNat_le_ofNat hsm (by decide)).mp (show Int32.ofNat xs.length ≤ Int32.ofNat 2048 from hd)
  exact ⟨b, xs, Cond.one_arg hc (show args[0]? = some (.ref b) from hb), hx, hN, h⟩
theorem lw_comes (l : Launch) : Comes l x (Jvm.Cond.code x code maxLocals ret :: tables_1) room_1 (fun tb e args s => Calls_1 tb e args s ∧ rest_1 tb e args s ∧ Pre_1 tb e args s)
    (fun _ _ args s o t => lw_Q args s o t) := by
  intro p e ha hc hk s m args below hf hfit hheap happ hpre
  obtain ⟨b, xs, hP⟩ := lw_pre_spec hpre.2.2 hpre.2.1
  obtain ⟨k, o, h1, h2, h3, hQ⟩ := lw_walk l b xs p e ha hc hk s m args below hf ((Spec.applies_iff_loose hf).mp happ).1 hP trivial
  exact ⟨k, o, h1, h2, h3, hQ⟩
theorem lw_frame {s t : State} {o : Outcome} {args : Array Value} (h : Framed s o t [] 13 4236) :
    Framed s o t (fieldLocs frame_1_writes args s ++ arrayLocs frame_1_arrays args s ++ staticLocs frame_1_statics s) 13 4236 := h
theorem lw_limb (L : Cond) (hL : ∀ (args : Array Value) (s t : State), L.after args s (.returned (some (.int 1))) t = true) :
    ArmFor flags0 classFile x code maxLocals ret World_1 tables_1 room_1 Calls_1 rest_1 Pre_1
      (fun tb e a s o t => postC L tb e a s o t ∧ Framed s o t (fieldLocs frame_1_writes a s ++ arrayLocs frame_1_arrays a s ++ staticLocs frame_1_statics s) 13 4236) := by
  intro l _ _ _ p e ha hc hk s m args below hf hfit hheap happ hpre
  obtain ⟨k, o, h1, h2, h3, rfl, hF⟩ := lw_comes l p e ha hc hk s m args below hf hfit hheap happ hpre
  exact ⟨k, _, h1, h2, h3, hL args s _, lw_frame hF⟩
theorem i_vc : Claimed_1_1 ∧ Claimed_1_2 := ⟨lw_limb limb_1_1 (fun args s t => by simp [limb_1_1, Cond.after, Cond.holds, Cond.value]), lw_limb limb_1_2 (fun args s t => Cond.after_iff.mpr (by
  first | (rw [show limb_1_2 = Cond.eq .result (.int 1) from rfl, Cond.eq_ints (x := 1) (y := 1) rfl rfl]; simp; done) | (simp [limb_1_2, Cond.value, Term.eval]; done)))⟩
end
