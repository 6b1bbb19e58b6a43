
def TB : List Cond := lw_tbl.filter goodWord
theorem tb_in (w : Cond) (h : w ∈ TB) : w ∈ lw_tbl := (List.mem_filter.mp h).1
/-! names: fields, words, code tables (by wip/whole/gen_names.py, out of the Statement) -/
def R_C : String := "DegreeCores"
def T_C : u_T := fun k => match k with
  | 0 => ("DegreeCores", "joins", "[I", true)
  | 1 => ("DegreeCores", "nodes", "I", false)
  | 2 => ("DegreeCores", "row", "[I", true)
  | 3 => ("DegreeCores", "numbers", "I", false)
  | 4 => ("DegreeCores", "trussJoins", "[I", true)
  | 5 => ("DegreeCores", "madeJoins", "[I", true)
  | _ => ("DegreeCores", "wants", "[I", true)
def ty_C : Nat → FieldType := fun k => match k with
  | 0 => .array .int
  | 1 => .int
  | 2 => .array .int
  | 3 => .int
  | 4 => .array .int
  | 5 => .array .int
  | _ => .array .int
theorem nm_C : ∀ a, a < 7 → ∀ b, b < 7 → a ≠ b → (T_C a).2.1 ≠ (T_C b).2.1 := by decide +kernel
theorem ty_C_ok : ∀ k, k < 7 → parseFieldDescriptor (T_C k).2.2.1 = some (ty_C k) := by decide +kernel
theorem in_C : ∀ w ∈ u_ws R_C T_C 7, w ∈ TB := by decide +kernel
def f_C : List (Nat × Nat) := [(9, 0), (25, 1), (19, 2), (29, 3), (13, 4), (16, 5), (22, 6)]
def p_C : List (Nat × Nat × Bool) := [(25, 1, false), (29, 3, false)]
theorem fl_C : ∀ q ∈ f_C, q.2 < 7 ∧ Cond.fieldLink R_C q.1 (T_C q.2).1 (T_C q.2).2.1 (T_C q.2).2.2.1 ∈ TB := by decide +kernel
theorem pl_C : ∀ q ∈ p_C, q.2.1 < 7 ∧ Cond.fieldLink R_C q.1 (T_C q.2.1).1 (T_C q.2.1).2.1 (T_C q.2.1).2.2.1 ∈ TB ∧ (T_C q.2.1).2.2.2 = false ∧ parseFieldDescriptor (T_C q.2.1).2.2.1 = some (bif q.2.2 then .boolean else .int) := by decide +kernel
def R_M : String := "DegreeCoresModel"
def T_M : u_T := fun k => match k with
  | 0 => ("DegreeCoresModel", "nodes", "I", false)
  | 1 => ("DegreeCoresModel", "near", "[I", true)
  | 2 => ("DegreeCoresModel", "cuts", "[I", true)
  | 3 => ("DegreeCoresModel", "isNew", "Z", false)
  | 4 => ("DegreeCoresModel", "wants", "I", false)
  | 5 => ("DegreeCoresModel", "want", "[I", true)
  | 6 => ("DegreeCoresModel", "left", "[I", true)
  | 7 => ("DegreeCoresModel", "found0", "I", false)
  | 8 => ("DegreeCoresModel", "found1", "I", false)
  | 9 => ("DegreeCoresModel", "found2", "I", false)
  | 10 => ("DegreeCoresModel", "kept", "[I", true)
  | 11 => ("DegreeCoresModel", "made", "I", false)
  | _ => ("DegreeCoresModel", "making", "[I", true)
def ty_M : Nat → FieldType := fun k => match k with
  | 0 => .int
  | 1 => .array .int
  | 2 => .array .int
  | 3 => .boolean
  | 4 => .int
  | 5 => .array .int
  | 6 => .array .int
  | 7 => .int
  | 8 => .int
  | 9 => .int
  | 10 => .array .int
  | 11 => .int
  | _ => .array .int
theorem nm_M : ∀ a, a < 13 → ∀ b, b < 13 → a ≠ b → (T_M a).2.1 ≠ (T_M b).2.1 := by decide +kernel
theorem ty_M_ok : ∀ k, k < 13 → parseFieldDescriptor (T_M k).2.2.1 = some (ty_M k) := by decide +kernel
theorem in_M : ∀ w ∈ u_ws R_M T_M 13, w ∈ TB := by decide +kernel
def f_M : List (Nat × Nat) := [(32, 0), (7, 1), (13, 2), (16, 3), (97, 4), (20, 5), (23, 6), (58, 7), (61, 8), (64, 9), (26, 10), (100, 11), (29, 12)]
def p_M : List (Nat × Nat × Bool) := [(32, 0, false), (16, 3, true), (97, 4, false), (58, 7, false), (61, 8, false), (64, 9, false), (100, 11, false)]
theorem fl_M : ∀ q ∈ f_M, q.2 < 13 ∧ Cond.fieldLink R_M q.1 (T_M q.2).1 (T_M q.2).2.1 (T_M q.2).2.2.1 ∈ TB := by decide +kernel
theorem pl_M : ∀ q ∈ p_M, q.2.1 < 13 ∧ Cond.fieldLink R_M q.1 (T_M q.2.1).1 (T_M q.2.1).2.1 (T_M q.2.1).2.2.1 ∈ TB ∧ (T_M q.2.1).2.2.2 = false ∧ parseFieldDescriptor (T_M q.2.1).2.2.1 = some (bif q.2.2 then .boolean else .int) := by decide +kernel
abbrev cls : List vw_C := [(R_C, T_C, 7), (R_M, T_M, 13)]
theorem tb_good : ∀ w ∈ TB, ((w.onTables && w.keeps) = true ∨ ∃ ty, w = .arrayClass ty) := fun w h => good_of_word (List.mem_filter.mp h).2
def kn_J : List (Nat × Int32) := [(265, 1431655765), (266, 858993459), (267, 252645135)]
theorem kn_J_in : ∀ q ∈ kn_J, Cond.constant "java/lang/Integer" q.1 q.2 ∈ TB := by decide +kernel
theorem tb_C (s : State) (args : Array Value) (h : ∀ w ∈ TB, w.before args s = true) : m_Tb s args cls 0 TB "DegreeCores" R_C T_C 7 f_C p_C [] :=
  ⟨rfl, in_C, nm_C, ⟨ty_C, ty_C_ok⟩, fun q hq => ⟨(fl_C q hq).1, h _ (fl_C q hq).2⟩, fun q hq => ⟨(pl_C q hq).1, h _ (pl_C q hq).2.1, (pl_C q hq).2.2⟩, (fun q hq => by cases hq)⟩
theorem tb_M (s : State) (args : Array Value) (h : ∀ w ∈ TB, w.before args s = true) : m_Tb s args cls 1 TB "DegreeCoresModel" R_M T_M 13 f_M p_M [] :=
  ⟨rfl, in_M, nm_M, ⟨ty_M, ty_M_ok⟩, fun q hq => ⟨(fl_M q hq).1, h _ (fl_M q hq).2⟩, fun q hq => ⟨(pl_M q hq).1, h _ (pl_M q hq).2.1, (pl_M q hq).2.2⟩, (fun q hq => by cases hq)⟩
theorem tb_J (own : String) (ho : own = "java/lang/Integer") (s : State) (args : Array Value) (h : ∀ w ∈ TB, w.before args s = true) : m_Tb s args cls 0 TB own R_C T_C 7 [] [] kn_J :=
  ⟨rfl, in_C, nm_C, ⟨ty_C, ty_C_ok⟩, (fun q hq => by cases hq), (fun q hq => by cases hq), fun q hq => by rw [ho]; exact h _ (kn_J_in q hq)⟩
theorem tb_K (own : String) (s : State) (args : Array Value) (h : ∀ w ∈ TB, w.before args s = true) : m_Tb s args cls 0 TB own R_C T_C 7 [] [] [] :=
  ⟨rfl, in_C, nm_C, ⟨ty_C, ty_C_ok⟩, (fun q hq => by cases hq), (fun q hq => by cases hq), (fun q hq => by cases hq)⟩
