/-! ===== the memory of a world, its picture in the heap, what a contract says ===== -/
/-- kind, number of the cell of that kind, slot -/
abbrev Mem : Type := Nat → Nat → Nat → Int32
def stf (μ : Mem) (k i : Nat) (f : Nat → Int32) : Mem := fun k' i' => if k' = k ∧ i' = i then f else μ k' i'
def sto (μ : Mem) (k i j : Nat) (v : Int32) : Mem := stf μ k i (upd (μ k i) j v)
/-- addresses; class numbers; the classes of arrays (0 int, 1 char, 2 boolean, 3 Grid); the String constants and their bytes -/
abbrev WE : Type := (Nat → Nat → Nat) × va_G × (Nat → ClassId) × (Nat → Nat) × (Nat → Nat)
abbrev tysE (E : WE) : List (ClassId × FieldType) := [(E.2.2.1 0, .int), (E.2.2.1 1, .char), (E.2.2.1 2, .boolean), (E.2.2.1 3, .object "RankCalc$Grid")]
def celk (E : WE) (k i : Nat) (f : Nat → Int32) : va_E := match k with
  | 0 => .inr (7, [.ref (E.1 1 0), .ref (E.1 11 0), .ref (E.1 14 0), .ref (E.1 20 17)])
  | 1 => .inr (5, [.ref (E.1 2 0), .ref (E.1 4 0), .ref (E.1 5 0), .ref (E.1 6 0), .ref (E.1 7 0), .ref (E.1 8 0), .ref (E.1 9 0), .ref (E.1 10 0), .int (f 8), .int (f 9), .int (f 10), .int (f 11), .int (f 12), .int (f 13)])
  | 2 => .inr (6, [.ref (E.1 3 0), .int (f 1)])
  | 3 => .inl (E.2.2.1 1, 200, .inl f)
  | 4 => .inl (E.2.2.1 0, 200, .inl f)
  | 5 => .inl (E.2.2.1 0, 200, .inl f)
  | 6 => .inl (E.2.2.1 0, 200, .inl f)
  | 7 => .inl (E.2.2.1 1, 200, .inl f)
  | 8 => .inl (E.2.2.1 1, 200, .inl f)
  | 9 => .inl (E.2.2.1 1, 200, .inl f)
  | 10 => .inl (E.2.2.1 0, 200, .inl f)
  | 11 => .inr (4, [.ref (E.1 12 0), .ref (E.1 13 0)])
  | 12 => .inl (E.2.2.1 3, 8, .inr (.inr (.inr (.inr fun j => some (E.1 20 j)))))
  | 13 => .inl (E.2.2.1 2, 8, .inl f)
  | 14 => .inr (2, [.ref (E.1 15 0), .ref (E.1 16 0), .ref (E.1 17 0), .ref (E.1 20 (f 3).toNatClampNeg), .int (f 4), .int (f 5), .int (f 6)])
  | 15 => .inl (E.2.2.1 3, 8, .inr (.inr (.inr (.inr fun j => some (E.1 20 (f j).toNatClampNeg)))))
  | 16 => .inl (E.2.2.1 0, 7, .inl f)
  | 17 => .inl (E.2.2.1 0, 48, .inl f)
  | 20 => .inr (3, [.ref (E.1 21 i), .ref (E.1 22 i), .int (f 2), .int (f 3)])
  | 21 => .inl (E.2.2.1 0, 3, .inl f)
  | 22 => .inl (E.2.2.1 0, 48, .inl f)
  | 30 => .inr (8, [.ref (E.1 31 0), .int (f 1), .ref (E.1 32 0), .ref (E.1 33 0), .ref (E.1 34 0), .ref (E.1 35 0), .ref (E.1 36 0), .ref (E.1 37 0), .ref (E.1 38 0), .int (f 9), .int (f 10), .int (f 11), .ref (E.1 39 0), .ref (E.1 40 0), .ref (E.1 41 0), .ref (E.1 42 0), .int (f 16), .int (f 17), .int (f 18)])
  | 31 => .inl (E.2.2.1 0, 200, .inl f)
  | 32 => .inl (E.2.2.1 0, 20, .inl f)
  | 33 => .inl (E.2.2.1 0, 60, .inl f)
  | 34 => .inl (E.2.2.1 0, 960, .inl f)
  | 35 => .inl (E.2.2.1 0, 201, .inl f)
  | 36 => .inl (E.2.2.1 0, 201, .inl f)
  | 37 => .inl (E.2.2.1 0, 201, .inl f)
  | 38 => .inl (E.2.2.1 0, 101, .inl f)
  | 39 => .inl (E.2.2.1 2, 8, .inl f)
  | 40 => .inl (E.2.2.1 2, 8, .inl f)
  | 41 => .inl (E.2.2.1 0, 8, .inl f)
  | 42 => .inl (E.2.2.1 0, 49, .inl f)
  | _ => .inl (E.2.2.1 0, 0, .inl f)
/-- the cells of the class's world, and of the reference's -/
def lvC : List (Nat × Nat) := [(0, 0), (1, 0), (2, 0), (3, 0), (4, 0), (5, 0), (6, 0), (7, 0), (8, 0), (9, 0), (10, 0), (11, 0), (12, 0), (13, 0), (14, 0), (15, 0), (16, 0), (17, 0)] ++ (List.range 18).flatMap fun g => [(20, g), (21, g), (22, g)]
def lvM : List (Nat × Nat) := [(30, 0), (31, 0), (32, 0), (33, 0), (34, 0), (35, 0), (36, 0), (37, 0), (38, 0), (39, 0), (40, 0), (41, 0), (42, 0)]
theorem gr_0in : ∀ g, g < 18 → (20, g) ∈ lvC := by decide +kernel
theorem gr_1in : ∀ g, g < 18 → (21, g) ∈ lvC := by decide +kernel
theorem gr_2in : ∀ g, g < 18 → (22, g) ∈ lvC := by decide +kernel
def cs (E : WE) (lv : List (Nat × Nat)) (μ : Mem) : va_W := lv.map fun c => (E.1 c.1 c.2, celk E c.1 c.2 (μ c.1 c.2))
/-- the addresses are apart -/
abbrev AdOk (E : WE) (lv : List (Nat × Nat)) : Prop := ∀ (i j : Nat) (c d : Nat × Nat), lv[i]? = some c → lv[j]? = some d → E.1 c.1 c.2 = E.1 d.1 d.2 → i = j
/-- what a call may change: the world's cells and new ones -/
def AW (E : WE) (lv : List (Nat × Nat)) (sz : Nat) : Nat → Prop := fun q => (∃ c ∈ lv, q = E.1 c.1 c.2) ∨ sz ≤ q
theorem cs_at {E : WE} {lv : List (Nat × Nat)} {μ : Mem} {q : Nat} {c : Nat × Nat} (h : lv[q]? = some c) : (cs E lv μ)[q]? = some (E.1 c.1 c.2, celk E c.1 c.2 (μ c.1 c.2)) := by
  simp [cs, List.getElem?_map, h]
theorem cs_inv {E : WE} {lv : List (Nat × Nat)} {μ : Mem} {q : Nat} {x : Nat × va_E} (h : (cs E lv μ)[q]? = some x) : ∃ c, lv[q]? = some c ∧ x = (E.1 c.1 c.2, celk E c.1 c.2 (μ c.1 c.2)) := by
  simp only [cs, List.getElem?_map, Option.map_eq_some_iff] at h
  obtain ⟨c, h1, h2⟩ := h
  exact ⟨c, h1, h2.symm⟩
theorem cs_D {E : WE} {lv : List (Nat × Nat)} {μ : Mem} {sz : Nat} (h : AdOk E lv) : va_D (AW E lv sz) (cs E lv μ) := by
  refine ⟨fun i j p q hi hj e => ?_, fun k q hk => ?_⟩
  · obtain ⟨c, h1, rfl⟩ := cs_inv hi
    obtain ⟨d, h2, rfl⟩ := cs_inv hj
    exact h i j c d h1 h2 e
  · obtain ⟨c, h1, rfl⟩ := cs_inv hk
    exact Or.inl ⟨c, List.mem_of_getElem? h1, rfl⟩
theorem cs_set {E : WE} {lv : List (Nat × Nat)} {μ : Mem} {q k i : Nat} {f : Nat → Int32} (hd : AdOk E lv) (h : lv[q]? = some (k, i)) : (cs E lv μ).set q (E.1 k i, celk E k i f) = cs E lv (stf μ k i f) := by
  apply List.ext_getElem?
  intro j
  have hl : q < (cs E lv μ).length := by
    rw [cs, List.length_map]
    exact (List.getElem?_eq_some_iff.mp h).1
  by_cases hj : j = q
  · subst hj
    rw [List.getElem?_set_self hl, cs_at h]
    simp [stf]
  · rw [List.getElem?_set_ne (Ne.symm hj)]
    simp only [cs, List.getElem?_map]
    cases hc : lv[j]? with
    | none => rfl
    | some c =>
      have hne : ¬ (c.1 = k ∧ c.2 = i) := fun e => hj (hd j q c (k, i) hc h (by rw [e.1, e.2]))
      simp [stf, hne]
/-! what the tables say, wherever the run is -/
def Tab (U : State) : Prop := ∀ w ∈ lw_tbl, w.onTables = true → w.before #[] U = true
theorem Tab.use {U : State} (h : Tab U) {w : Cond} (hw : w ∈ lw_tbl) (ho : w.onTables = true) {a : Array Value} : w.before a U = true := va_tabs ho rfl (h w hw ho)
def isNest : Cond → Bool
  | .fieldLinkNest .. => true
  | .methodLinkNest .. => true
  | _ => false
theorem tb_kinds : ∀ w ∈ lw_tbl, w.onTables = true → goodWord w = true ∨ isNest w = true ∨ w.faceAtom = true := by
  have h : (lw_tbl.all fun w => !w.onTables || goodWord w || isNest w || w.faceAtom) = true := by decide +kernel
  intro w hw ho
  have h1 := List.all_eq_true.mp h w hw
  simp only [ho, Bool.not_true, Bool.false_or, Bool.or_eq_true] at h1
  rcases h1 with (h1 | h1) | h1
  · exact Or.inl h1
  · exact Or.inr (Or.inl h1)
  · exact Or.inr (Or.inr h1)
theorem Tab.warm {s U : State} (hW : s.WarmedH U.vm) (h : Tab s) : Tab U := by
  intro w hw ho
  have hb := h w hw ho
  rcases tb_kinds w hw ho with g | g | g
  · exact word_at hW (good_of_word g) hb
  · cases w <;> first | (exact Bool.noConfusion (show false = true from g)) | (exact va_Nw.warmF hW hb) | (exact va_Nw.warmM hW hb)
  · exact va_tabs ho (rfl : (s.setVm U.vm).vm = U.vm) (Cond.faceAtom_setVm hW.alike w g hb)
theorem Tab.same {s U : State} (hv : s.vm = U.vm) (h : Tab s) : Tab U := fun w hw ho => va_tabs ho hv (h w hw ho)
/-! what stays: the statics that a throw reads, the String constants -/
def kLen : List Nat := [10, 5, 3, 3]
def kByt : List (List Int32) := [[43, 45, 42, 37, 124, 60, 62, 61, 38, 94], [105, 114, 44, 116, 118], [114, 44, 112], [45, 124, 42]]
def Cst (E : WE) (A : Nat → Prop) (U : State) (H : Heap) : Prop :=
  vx_Zq Bundle.tN "UNASSIGNED_STACK" Bundle.steD A U H ∧ vx_Zq Bundle.tN "SUPPRESSED_SENTINEL" Bundle.listD A U H ∧ va_Z "java/lang/String" "COMPACT_STRINGS" "Z" (.int 1) A U H ∧ vk_S 4 kLen kByt E.2.2.2.1 E.2.2.2.2 A U H
theorem Cst.moved {E : WE} {A : Nat → Prop} {u U : State} {H : Heap} (hvm : u.vm.Alike U.vm) (h : Cst E A u H) : Cst E A U H := ⟨h.1.moved hvm, h.2.1.moved hvm, h.2.2.1.moved hvm, h.2.2.2.moved hvm⟩
theorem Cst.kept {E : WE} {A : Nat → Prop} {U : State} {H H1 : Heap} (h : Cst E A U H) (hq : ∀ a : Nat, a < H.size → ¬ A a → H1[a]? = H[a]?) : Cst E A U H1 := ⟨h.1.kept hq, h.2.1.kept hq, h.2.2.1.kept hq, h.2.2.2.kept hq⟩
theorem Cst.narrow {E : WE} {A B : Nat → Prop} {U : State} {H : Heap} (h : Cst E A U H) (hAB : ∀ q, B q → A q) : Cst E B U H := ⟨h.1.narrow hAB, h.2.1.narrow hAB, h.2.2.1.narrow hAB, h.2.2.2.narrow hAB⟩
/-- where a String constant is loaded: which entry of which class names which text -/
def kTabL : List (String × Nat × String × Nat) := [(RX5, 123, "+-*%|<>=&^", 0), (RX5, 116, "ir,tv", 1), (RX0, 112, "ir,tv", 1), (RX5, 118, "r,p", 2), (RX0, 142, "r,p", 2), (RX5, 108, "-|*", 3)]
def kTab (E : WE) (U : State) : Prop := ∀ q ∈ kTabL, vk_R q.1 q.2.1 q.2.2.1 (E.2.2.2.1 q.2.2.2) U
theorem kTab.warm {E : WE} {s U : State} (hW : s.WarmedH U.vm) (h : kTab E s) : kTab E U := fun q hq => (h q hq).warm hW
theorem kTab.same {E : WE} {s U : State} (hv : U.vm = s.vm) (h : kTab E s) : kTab E U := fun q hq => (h q hq).same hv
/-- the world, at a state -/
def Wd (E : WE) (lv : List (Nat × Nat)) (sz : Nat) (μ : Mem) (U : State) : Prop :=
  U.heap.size = sz ∧ Tab U ∧ kTab E U ∧ va_K E.2.1 vwCl (tysE E) U ∧ AdOk E lv ∧ Cst E (AW E lv sz) U U.heap ∧ va_P E.2.1 vwCl (cs E lv μ) U.heap
/-- how a call ends: returned (with what) or thrown (which), and the memory then -/
abbrev Res : Type := Except Nat (Option Value) × Mem
def exn (k : Nat) : String := match k with
  | 1 => "java/lang/IllegalStateException"
  | 2 => "java/lang/ArithmeticException"
  | 3 => "java/lang/IllegalArgumentException"
  | 4 => "java/lang/UnsupportedOperationException"
  | 5 => "java/lang/IndexOutOfBoundsException"
  | _ => "java/util/NoSuchElementException"
def QCr (E : WE) (lv : List (Nat × Nat)) (A : Nat → Prop) (r : Res) : Array Value → State → Outcome → State → Prop := fun _ st o t =>
  ∃ v, r.1 = .ok v ∧ o = .returned v ∧ va_P E.2.1 vwCl (cs E lv r.2) t.heap ∧ t.heap.size = st.heap.size ∧ va_F A st t
def XCr (E : WE) (lv : List (Nat × Nat)) (A : Nat → Prop) (r : Res) : String → State → State → Prop := fun nm st t =>
  ∃ k, r.1 = .error k ∧ nm = exn k ∧ va_P E.2.1 vwCl (cs E lv r.2) t.heap ∧ va_F A st t
abbrev rmK (rk : Nat) : Room := { frames := rk + 6, cells := 1, slots := 6, locals := 40 * rk + 110 }
def PcW (E : WE) (lv : List (Nat × Nat)) (sz : Nat) (a : List Value) (μ : Mem) : Array Value → State → Prop := fun v U => v = a.toArray ∧ Wd E lv sz μ U
/-- the contract of a method: from the memory μ, with the arguments a, it ends as r says -/
def Con (l : Launch) (E : WE) (lv : List (Nat × Nat)) (y : MethodName) (cc : ByteArray) (nL : Nat) (ret : Option FieldType) (rk : Nat) (a : List Value) (μ : Mem) (r : Res) : Prop :=
  ∀ sz : Nat, vx_Met l y [Cond.code y cc nL ret] (rmK rk) (PcW E lv sz a μ) (QCr E lv (AW E lv sz) r) (XCr E lv (AW E lv sz) r) 1 6 (AW E lv sz)
