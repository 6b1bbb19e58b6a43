/-! bits of small numbers; the object; calls of Math and of arraycopy -/
def b2i (b : Bool) : Int32 := bif b then 1 else 0
theorem b2i_01 (b : Bool) : b2i b = 0 ∨ b2i b = 1 := by cases b <;> decide
/-- a branch on an answer of a method -/
theorem br_eq {b : Bool} {A B : Prop} (f : b = false → A) (g : b = true → B) : (b2i b = 0 → A) ∧ (¬ b2i b = 0 → B) := by
  cases b with
  | false => exact ⟨fun _ => f rfl, fun h => absurd rfl h⟩
  | true => exact ⟨fun h => absurd h (by decide), fun _ => g rfl⟩
theorem br_ne {b : Bool} {A B : Prop} (f : b = true → A) (g : b = false → B) : (¬ b2i b = 0 → A) ∧ (b2i b = 0 → B) := by
  cases b with
  | false => exact ⟨fun h => absurd rfl h, fun _ => g rfl⟩
  | true => exact ⟨fun _ => f rfl, fun h => absurd h (by decide)⟩
/-- branches on small numbers -/
theorem br_ge {a b : Nat} {A B : Prop} (ha : a < 2 ^ 31) (hb : b < 2 ^ 31) (f : b ≤ a → A) (g : a < b → B) : (nI b ≤ nI a → A) ∧ (¬ nI b ≤ nI a → B) :=
  ⟨fun h => f ((nI_leI hb ha).mp h), fun h => g (Nat.lt_of_not_le (fun z => h ((nI_leI hb ha).mpr z)))⟩
theorem br_gt {a b : Nat} {A B : Prop} (ha : a < 2 ^ 31) (hb : b < 2 ^ 31) (f : b < a → A) (g : a ≤ b → B) : (nI b < nI a → A) ∧ (¬ nI b < nI a → B) :=
  ⟨fun h => f ((nI_ltI hb ha).mp h), fun h => g (Nat.le_of_not_lt (fun z => h ((nI_ltI hb ha).mpr z)))⟩
theorem br_e {a b : Nat} {A B : Prop} (ha : a < 2 ^ 31) (hb : b < 2 ^ 31) (f : a = b → A) (g : a ≠ b → B) : (nI a = nI b → A) ∧ (¬ nI a = nI b → B) :=
  ⟨fun h => f ((nI_eq ha hb).mp h), fun h => g (fun z => h ((nI_eq ha hb).mpr z))⟩
theorem br_n {a b : Nat} {A B : Prop} (ha : a < 2 ^ 31) (hb : b < 2 ^ 31) (f : a ≠ b → A) (g : a = b → B) : (¬ nI a = nI b → A) ∧ (nI a = nI b → B) :=
  ⟨fun h => f (fun z => h ((nI_eq ha hb).mpr z)), fun h => g ((nI_eq ha hb).mp h)⟩
theorem nx_and (a b : Nat) : nI a &&& nI b = nI (a &&& b) := by
  apply Int32.toBitVec_inj.1
  show BitVec.ofNat 32 a &&& BitVec.ofNat 32 b = BitVec.ofNat 32 (a &&& b)
  apply BitVec.eq_of_getLsbD_eq
  intro i hi
  simp [hi]
theorem nx_xor (a b : Nat) : nI a ^^^ nI b = nI (a ^^^ b) := by
  apply Int32.toBitVec_inj.1
  show BitVec.ofNat 32 a ^^^ BitVec.ofNat 32 b = BitVec.ofNat 32 (a ^^^ b)
  apply BitVec.eq_of_getLsbD_eq
  intro i hi
  simp [hi]
theorem nx_or (a b : Nat) : nI a ||| nI b = nI (a ||| b) := by
  apply Int32.toBitVec_inj.1
  show BitVec.ofNat 32 a ||| BitVec.ofNat 32 b = BitVec.ofNat 32 (a ||| b)
  apply BitVec.eq_of_getLsbD_eq
  intro i hi
  simp [hi]
theorem nx_m1 (x y : Int32) : x &&& (y ^^^ (-1)) = x ^^^ (x &&& y) := by
  apply Int32.toBitVec_inj.1
  show x.toBitVec &&& (y.toBitVec ^^^ (-1#32)) = x.toBitVec ^^^ (x.toBitVec &&& y.toBitVec)
  apply BitVec.eq_of_getLsbD_eq
  intro i hi
  have e : (-1#32) = BitVec.allOnes 32 := by decide
  rw [e]
  simp only [BitVec.getLsbD_and, BitVec.getLsbD_xor, BitVec.getLsbD_allOnes, hi, decide_true]
  cases x.toBitVec.getLsbD i <;> cases y.toBitVec.getLsbD i <;> rfl
/-- and not -/
theorem nx_sd (a b : Nat) : nI a &&& (nI b ^^^ (-1)) = nI (sd a b) := by rw [nx_m1, nx_and, nx_xor]; rfl
theorem s_l : ∀ n, n < 32 → ((nI n &&& 31).toBitVec.smod 32).toNat = n := by decide +kernel
theorem nx_shl : ∀ v, v < 31 → (1 : Int32) <<< (nI v &&& 31) = nI (2 ^ v) := by decide +kernel
theorem nx_bit {S v : Nat} (hS : S < 2 ^ 31) (hv : v < 32) : (nI S >>> (nI v &&& 31)) &&& 1 = nI (S.testBit v).toNat := by
  rw [pk_shrN hS _ v (s_l v hv), pk_andN (m := 1) (Nat.lt_of_le_of_lt (Nat.div_le_self _ _) (Nat.lt_trans hS (by decide))) 1 (by decide), Nat.testBit_eq_decide_div_mod_eq]
  congr 1
  have : S / 2 ^ v % 2 < 2 := Nat.mod_lt _ (by decide)
  rcases (show S / 2 ^ v % 2 = 0 ∨ S / 2 ^ v % 2 = 1 by omega) with h | h <;> simp [h]
def bcI (i : Int32) : Int32 :=
  let a := i - ((i.toUInt32 >>> ((1 : Int32).toUInt32 &&& Int32.toUInt32 31)).toInt32 &&& 1431655765)
  let b := (a &&& 858993459) + ((a.toUInt32 >>> ((2 : Int32).toUInt32 &&& Int32.toUInt32 31)).toInt32 &&& 858993459)
  let c := (b + (b.toUInt32 >>> ((4 : Int32).toUInt32 &&& Int32.toUInt32 31)).toInt32) &&& 252645135
  let d := c + (c.toUInt32 >>> ((8 : Int32).toUInt32 &&& Int32.toUInt32 31)).toInt32
  let e := d + (d.toUInt32 >>> ((16 : Int32).toUInt32 &&& Int32.toUInt32 31)).toInt32
  e &&& 63
theorem bc_all : ((List.range 4096).all fun s => decide (bcI (nI s) = nI (pop s)) && (s == 0 || decide (bcI ((nI s &&& -(nI s)) - 1) = nI (lsb s)))) = true := by decide +kernel
theorem bc_n {s : Nat} (h : s < 4096) : bcI (nI s) = nI (pop s) := by
  have := List.all_eq_true.mp bc_all s (List.mem_range.mpr h)
  simp only [Bool.and_eq_true, decide_eq_true_eq] at this
  exact this.1
theorem bc_l {s : Nat} (h : s < 4096) (h0 : s ≠ 0) : bcI ((nI s &&& -(nI s)) - 1) = nI (lsb s) := by
  have := List.all_eq_true.mp bc_all s (List.mem_range.mpr h)
  simp only [Bool.and_eq_true, Bool.or_eq_true, beq_iff_eq, decide_eq_true_eq] at this
  exact this.2.resolve_left h0
/-- the object and its five rows -/
def mkC (j : Nat → Int32) (n : Int32) (r : Nat → Int32) (q : Int32) (t d w : Nat → Int32) : mH :=
  [.inl [.inr 1, .inl n, .inr 2, .inl q, .inr 3, .inr 4, .inr 5], .inr (12, j), .inr (12, r), .inr (12, t), .inr (12, d), .inr (12, w)]
def isN (n : Nat) (x : Int32) : Bool := decide (0 ≤ x ∧ x < nI n)
theorem isN_t {n : Nat} {x : Int32} (hn : n ≤ 12) (h : isN n x = true) : ∃ v, v < n ∧ x = nI v := by
  have h := of_decide_eq_true h
  obtain ⟨v, hv, rfl⟩ := nI_of (Int32.not_lt.mpr h.1)
  exact ⟨v, (nI_ltI hv (by omega)).mp h.2, rfl⟩
theorem isN_n {n v : Nat} (hn : n ≤ 12) (hv : v < n) : isN n (nI v) = true := decide_eq_true ⟨nI_pos' (by omega), nI_lt hv (by omega)⟩
/-- the graph that an object holds -/
def hC (h : mH) (n : Nat) (f : Nat → Nat) : Prop := ∃ j r q t d w, h = mkC j (nI n) r q t d w ∧ (∀ v, v < n → j v = nI (f v)) ∧ Gr n f
theorem m_calls {D : va_G} {cl : List vw_C} {cA : ClassId} {ci : Nat} {ad : Nat → Nat} {Ts : List Cond} {l : Launch} {own : String} {R : Room} {call : List (Nat × Bool × Nat × mT)} (h : ∀ q ∈ call, m_OK D cl cA ci ad Ts l own R q.1 q.2.1 q.2.2.1 q.2.2.2) : ∀ (x : Nat) (st : Bool) (na : Nat) (T : mT), m_lk call x = some (st, na, T) → m_OK D cl cA ci ad Ts l own R x st na T :=
  fun x st na T hx => h _ (m_lk_mem hx)
def t_max : mT := fun as h k => ∃ x y, as = [.inl x, .inl y] ∧ k (some (if x < y then y else x)) h
def t_min : mT := fun as h k => ∃ x y, as = [.inl x, .inl y] ∧ k (some (if y < x then y else x)) h
def t_abs : mT := fun as h k => ∃ x, as = [.inl x] ∧ k (some (if 0 ≤ x then x else 0 - x)) h
section OKM
variable {cl : List vw_C} {ci : Nat} {D : va_G} {cA : ClassId} {ad : Nat → Nat} {l : Launch} {own : String} {R : Room} {idx : Nat} {Ts : List Cond}
theorem m_okMax (hws : ∀ w ∈ ([.methodLink own idx Lib.Math.max.name, .static Lib.Math.max.name, .initialized "java/lang/Math", Cond.code Lib.Math.max.name Lib.Math.max.code 2 (some .int)] : List Cond), w ∈ Ts) (hR : 0 + 1 ≤ R.frames ∧ 32 * (0 + 1) ≤ R.locals) : m_OK D cl cA ci ad Ts l own R idx true 2 t_max := by
  rintro p e s m args below meth c cc nL Q A H0 ⟨hx, hb, hml, hown, hts⟩ hK hA pc ls rest as h k H locs ⟨x, y, rfl, hk⟩ has hdg hsz hrest hP hD hS kk
  have hw := fun w hw => hts w (hws w hw)
  exact va_mmax (rest := rest.map (m_v ad)) hx hb (hml.trans hsz.symm) hown (hw _ (by simp)) (hw _ (by simp)) (hw _ (by simp)) (hw _ (by simp)) (by omega) (by rw [m_sum]; omega) (Nat.zero_le _) (Nat.zero_le _) hdg (kk _ h H locs hk hP hD hS)
theorem m_okMin (hws : ∀ w ∈ ([.methodLink own idx Lib.Math.min.name, .static Lib.Math.min.name, .initialized "java/lang/Math", Cond.code Lib.Math.min.name Lib.Math.min.code 2 (some .int)] : List Cond), w ∈ Ts) (hR : 0 + 1 ≤ R.frames ∧ 32 * (0 + 1) ≤ R.locals) : m_OK D cl cA ci ad Ts l own R idx true 2 t_min := by
  rintro p e s m args below meth c cc nL Q A H0 ⟨hx, hb, hml, hown, hts⟩ hK hA pc ls rest as h k H locs ⟨x, y, rfl, hk⟩ has hdg hsz hrest hP hD hS kk
  have hw := fun w hw => hts w (hws w hw)
  exact va_mmin (rest := rest.map (m_v ad)) hx hb (hml.trans hsz.symm) hown (hw _ (by simp)) (hw _ (by simp)) (hw _ (by simp)) (hw _ (by simp)) (by omega) (by rw [m_sum]; omega) (Nat.zero_le _) (Nat.zero_le _) hdg (kk _ h H locs hk hP hD hS)
theorem m_okAbs (hws : ∀ w ∈ ([.methodLink own idx Lib.Math.abs.name, .static Lib.Math.abs.name, .initialized "java/lang/Math", Cond.code Lib.Math.abs.name Lib.Math.abs.code 1 (some .int)] : List Cond), w ∈ Ts) (hR : 0 + 1 ≤ R.frames ∧ 32 * (0 + 1) ≤ R.locals) : m_OK D cl cA ci ad Ts l own R idx true 1 t_abs := by
  rintro p e s m args below meth c cc nL Q A H0 ⟨hx, hb, hml, hown, hts⟩ hK hA pc ls rest as h k H locs ⟨x, rfl, hk⟩ has hdg hsz hrest hP hD hS kk
  have hw := fun w hw => hts w (hws w hw)
  exact va_mabs (rest := rest.map (m_v ad)) hx hb (hml.trans hsz.symm) hown (hw _ (by simp)) (hw _ (by simp)) (hw _ (by simp)) (hw _ (by simp)) (by omega) (by rw [m_sum]; omega) (Nat.zero_le _) (Nat.zero_le _) hdg (kk _ h H locs hk hP hD hS)
/-- from the first place on to the first place on -/
def t_copy : mT := fun as h k => ∃ (a b n0 n1 n : Nat) (f g : Nat → Int32), as = [.inr a, .inl 0, .inr b, .inl 0, .inl (nI n)] ∧ m_at h a = some (.inr (n0, f)) ∧ m_at h b = some (.inr (n1, g)) ∧ n ≤ n0 ∧ n ≤ n1 ∧ n < 2 ^ 31 ∧ k none (h.set b (.inr (n1, va_cpy f g 0 0 n)))
theorem m_okCopy (hws : ∀ w ∈ ([.methodLink own idx arraycopyName, .native arraycopyName, .static arraycopyName, .initialized "java/lang/System"] : List Cond), w ∈ Ts) (hR : 0 + 1 ≤ R.frames ∧ 32 * (0 + 1) ≤ R.locals) : m_OK D cl cA ci ad Ts l own R idx true 5 t_copy := by
  rintro p e s m args below meth c cc nL Q A H0 ⟨hx, hb, hml, hown, hts⟩ hK hA pc ls rest as h k H locs ⟨a, b, n0, n1, n, f, g, rfl, ha, hbb, h0, h1, h31, hk⟩ has hdg hsz hrest hP hD hS kk
  have hw := fun w hw => hts w (hws w hw)
  have e0 : (0 : Int32).toNatClampNeg = 0 := by decide
  have en : (nI n).toNatClampNeg = n := nI_clamp h31
  refine va_copyi (rest := rest.map (m_v ad)) hx hb (hml.trans hsz.symm) hown (hw _ (by simp)) (hw _ (by simp)) (hw _ (by simp)) (hw _ (by simp)) hK hP hD hS a b 0 0 (m_w_get ha) (m_w_get hbb) (ty := .int) rfl rfl rfl (by decide) (by decide) (nI_pos h31) (by rw [e0, en]; simpa using h0) (by rw [e0, en]; simpa using h1) (fun i _ => rfl) (by omega) ?_ hdg (fun H1 locs1 hP1 hD1 hS1 => ?_)
  · have : nativeFrameWords "java/lang/System" "arraycopy" 5 = 7 := by decide +kernel
    rw [m_sum, this]; omega
  · rw [e0, en] at hP1 hD1
    have hset : (m_w ci cA ad h).set b (ad b, .inl (cA, n1, .inl (va_cpy f g 0 0 n))) = m_w ci cA ad (h.set b (.inr (n1, va_cpy f g 0 0 n))) := by
      rw [← m_w_set]; rfl
    rw [hset] at hP1 hD1
    exact kk none _ H1 locs1 hk hP1 hD1 hS1
end OKM
theorem o_C69 {D : va_G} {cA : ClassId} {ad : Nat → Nat} {l : Launch} {R : Room} (hR : 0 + 1 ≤ R.frames ∧ 32 * (0 + 1) ≤ R.locals) : m_OK D cls cA 0 ad TB l "DegreeCores" R 69 true 2 t_max := m_okMax (by decide +kernel) hR
theorem o_C74 {D : va_G} {cA : ClassId} {ad : Nat → Nat} {l : Launch} {R : Room} (hR : 0 + 1 ≤ R.frames ∧ 32 * (0 + 1) ≤ R.locals) : m_OK D cls cA 0 ad TB l "DegreeCores" R 74 true 2 t_min := m_okMin (by decide +kernel) hR
theorem o_C91 {D : va_G} {cA : ClassId} {ad : Nat → Nat} {l : Launch} {R : Room} (hR : 0 + 1 ≤ R.frames ∧ 32 * (0 + 1) ≤ R.locals) : m_OK D cls cA 0 ad TB l "DegreeCores" R 91 true 5 t_copy := m_okCopy (by decide +kernel) hR
theorem o_C149 {D : va_G} {cA : ClassId} {ad : Nat → Nat} {l : Launch} {R : Room} (hR : 0 + 1 ≤ R.frames ∧ 32 * (0 + 1) ≤ R.locals) : m_OK D cls cA 0 ad TB l "DegreeCores" R 149 true 1 t_abs := m_okAbs (by decide +kernel) hR
