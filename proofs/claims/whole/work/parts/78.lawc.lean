/-! ===== calls out of a larger world ===== -/
section LWC
variable {p : Program} {l : Launch} {e : Env} {R : Room} {s : State} {m : MethodId} {args : Array Value} {below : List Frame} {meth : Method} {c : Code} {H : Heap} {locs : List Loc} {cells slots : Nat} {Q : State → Prop} {E : WE} {lv : List (Nat × Nat)} {μ : Mem} {A : Nat → Prop} {pc : Nat} {ls : Array Slot} {st : List Value}
theorem callB_R {y : MethodName} {cc' : ByteArray} {nL' n idx : Nat} {ret' : Option FieldType} {rk' : Nat} {own : String} (hT : Tab s) (h1 : Cond.code y cc' nL' ret' ∈ lw_tbl) (h2 : Cond.initialized y.cls ∈ lw_tbl) (h3 : y.cls ≠ "java/lang/invoke/MethodHandle" ∧ y.cls ≠ "java/lang/invoke/VarHandle") (h4 : (parseMethodDescriptor y.desc).map (fun d => d.parameters.length) = some n) (hlink : Cond.methodLink own idx y ∈ lw_tbl) (hfr : rk' + 7 ≤ R.frames) (hlo : 8 + (nL' + 11) + (40 * rk' + 110) ≤ R.locals) : CallB R s args own idx y cc' nL' ret' [Cond.code y cc' nL' ret'] (rmK rk') 1 6 n := by
  refine ⟨rfl, rfl, by show rk' + 6 + 1 ≤ R.frames; omega, hlo, ?_, List.mem_cons_self, hT.use h1 rfl, hT.use h2 rfl, h3, ?_, hT.use hlink rfl⟩
  · intro w hw a' U hW
    rcases List.mem_cons.mp hw with rfl | hw
    · exact (hT.warm hW).use h1 rfl
    · cases hw
  · intro sig h
    rw [h] at h4
    exact (Option.some.inj h4).symm
/-- what a caller knows of a world that is a part of what it may change -/
def LWd (E : WE) (lv : List (Nat × Nat)) (A : Nat → Prop) (s : State) : Prop := Tab s ∧ kTab E s ∧ va_K E.2.1 vwCl (tysE E) s ∧ AdOk E lv ∧ Cst E A s s.heap ∧ (∀ c ∈ lv, A (E.1 c.1 c.2)) ∧ ∀ q, s.heap.size ≤ q → A q
theorem LWd.aw (h : LWd E lv A s) (hS : va_S A s.heap H locs) : ∀ q, AW E lv H.size q → A q := by
  obtain ⟨hT, hk, hK, hA, hC, hin, hnew⟩ := h
  intro q hq
  rcases hq with ⟨c, h1, rfl⟩ | h1
  · exact hin c h1
  · exact hnew q (Nat.le_trans hS.1 h1)
theorem LWd.wd {U : State} (h : LWd E lv A s) (hS : va_S A s.heap H locs) (hP : va_P E.2.1 vwCl (cs E lv μ) H) (hU : U.heap = H) (hW : s.WarmedH U.vm) : Wd E lv H.size μ U := by
  have haw := h.aw hS
  obtain ⟨hT, hk, hK, hA, hC, hin, hnew⟩ := h
  subst hU
  exact ⟨rfl, hT.warm hW, hk.warm hW, va_K.moved hW.alike hK, hA, ((hC.kept hS.2.1).narrow haw).moved hW.alike, hP⟩
/-- the rest of the heap is as it was -/
abbrev Rst (E : WE) (lv : List (Nat × Nat)) (H H1 : Heap) : Prop := ∀ q : Nat, q < H.size → (∀ c ∈ lv, q ≠ E.1 c.1 c.2) → H1[q]? = H[q]?
theorem W_conV {own : String} {cc : ByteArray} {nL : Nat} (hx : p.tables.exec = Jvm.exec) (hb : c.code = cc) (hml : c.maxLocals = nL) (hown : s.vm.findClass own = some m.cls) (hL : LWd E lv A s) (hS : va_S A s.heap H locs) (hP : va_P E.2.1 vwCl (cs E lv μ) H) (hls : ls.size = nL)
    (k i : Nat) (hm : (k, i) ∈ lv) {idx : Nat} {y : MethodName} {cc' : ByteArray} {nL' n : Nat} {ret' : Option FieldType} {rk' : Nat} (a' : List Value) {r' : Res} (hcon : Con l E lv y cc' nL' ret' rk' (.ref (E.1 k i) :: a') μ r') (tb : TbV y cc' nL' ret' n) (hlink : Cond.methodLink own idx y ∈ lw_tbl) {ci : Nat} {fs : List Value} {cq : vw_C} (hc : celk E k i (μ k i) = .inr (ci, fs)) (hcl : vwCl[ci]? = some cq) (hcq : cq.1 = y.cls) (hfr : rk' + 7 ≤ R.frames) (hlo : 8 + (nL' + 11) + (40 * rk' + 110) ≤ R.locals) (hce : cells + 1 ≤ R.cells ∧ slots + 6 ≤ R.slots) (hlen : a'.length = n) (hsum : (st.map fun v => v.category).sum ≤ 8) {stk : List Value} (hstk : stk = a'.reverse ++ .ref (E.1 k i) :: st) (d : decode cc pc = .ok (.invokevirtual idx, 3))
    (kret : ∀ v μ', r' = (.ok v, μ') → ∀ H1 locs1, H1.size = H.size → va_P E.2.1 vwCl (cs E lv μ') H1 → Rst E lv H H1 → va_S A s.heap H1 locs1 → W p l e R s m args below meth c H1 locs1 (cells + 1) (slots + 6) Q (F0 m (pc + 3) ls (v.toList ++ st)))
    (kthr : ∀ k μ', r' = (.error k, μ') → ∀ H1 locs1 q ce, H.size ≤ H1.size → va_P E.2.1 vwCl (cs E lv μ') H1 → Rst E lv H H1 → va_S A s.heap H1 locs1 → H1[q]? = some ce → ce.vm = .none → s.vm.findClass (exn k) = some ce.cls → vx_W p l e R s m args below meth c H1 locs1 (cells + 1) (slots + 6) Q (F0 m pc ls st) q) :
    W p l e R s m args below meth c H locs cells slots Q (F0 m pc ls stk) := by
  obtain ⟨hT, hk, hK, hA, hC, hin, hnew⟩ := id hL
  obtain ⟨t1, t2, t3, t4, t5, t6⟩ := tb
  obtain ⟨q, hq⟩ := List.getElem?_of_mem hm
  have he := cs_at (E := E) (μ := μ) hq
  rw [hc] at he
  have hrecv := va_recv hK hP hcl he
  rw [hcq] at hrecv
  have hAW := hL.aw hS
  have hrun := vx_runV (p := p) (l := l) (e := e) (R := R) (s := s) (m := m) (args := args) (below := below) (meth := meth) (c := c) (g := F0 m pc ls stk) (b := E.1 k i) (As := a') (rest := st) (C := y.cls) (Ts := []) (cells := cells) (slots := slots) (locs := locs) (H := H) ⟨hx, hb, hml, hown, fun w hw => by cases hw⟩ (hcon H.size) ⟨callB_R hT t3 t4 t5 t6 hlink hfr hlo, hT.use t1 rfl, hT.use t2 rfl⟩ ⟨PcW.blind, hrecv, fun U hU hW => ⟨rfl, hL.wd hS hP hU hW⟩⟩ rfl hlen hls hstk (lv_room hsum) d hce
  intro T hT9 X
  obtain ⟨r1, r2⟩ := r'
  rcases hrun T hT9 X with ⟨v, st₀, t, T', L9, h0, X', hL9, e1, e2, ⟨v1, q1, q2, q3, q4, q5⟩, stp⟩ | ⟨q, st₀, t, T', L9, nm, ce, h0, X', hL9, e1, e2, ⟨k1, q1, q2, q3, q4⟩, hce9, hcv, hcl9, stp⟩
  · cases q2
    have q1 : r1 = .ok v := q1
    subst q1
    obtain ⟨k1, k2, k3⟩ := vx_keep h0 e1 hS (fun q _ h => hAW q h) hAW hL9 q5
    obtain ⟨t2, a1, b1⟩ := kret v r2 rfl T'.heap (locs ++ L9) (by rw [e1, q4, h0]) (by rw [e1]; exact q3) (fun q hq hn => k2 q hq (fun z => by
      rcases z with ⟨c, h1, h2⟩ | h1
      · exact hn c h1 h2
      · omega)) k3 T' rfl X'
    exact ⟨t2, stp t2 a1, b1⟩
  · have q1 : r1 = .error k1 := q1
    subst q1
    subst q2
    obtain ⟨j1, j2, j3⟩ := vx_keep h0 e1 hS (fun q _ h => hAW q h) hAW hL9 q4
    obtain ⟨t2, a1, b1⟩ := kthr k1 r2 rfl T'.heap (locs ++ L9) q ce j1 (by rw [e1]; exact q3) (fun q hq hn => j2 q hq (fun z => by
      rcases z with ⟨c, h1, h2⟩ | h1
      · exact hn c h1 h2
      · omega)) j3 (by rw [e1]; exact hce9) hcv hcl9 T' rfl X'
    exact ⟨t2, stp.trans a1, b1⟩
end LWC
/-! ===== the law's own method run ===== -/
/-- the row of one long -/
abbrev lRow (cJ : ClassId) (f : Nat → Int64) : va_E := .inl (cJ, 1, .inr (.inl f))
abbrev AR (E : WE) (o sz : Nat) : Nat → Prop := fun q => AW E lvC sz q ∨ q = o
abbrev hhR : List (Nat × Nat × Nat × Nat) := [(0, 8, 11, 13), (0, 8, 14, 15), (0, 8, 17, 17), (0, 8, 20, 19), (0, 8, 23, 21), (0, 8, 26, 23)]
/-- of the six exceptions no one is another's -/
def NCs (U : State) : Prop := ∀ a b, 1 ≤ a ∧ a ≤ 6 → 1 ≤ b ∧ b ≤ 6 → a ≠ b → va_Nc (exn a) (exn b) U
theorem NCs.moved {u U : State} (hvm : u.vm.Alike U.vm) (h : NCs u) : NCs U := fun a b ha hb hn => (h a b ha hb hn).moved hvm
def PcR (E : WE) (o : Nat) (cJ : ClassId) (sz : Nat) (μ : Mem) (f : Nat → Int64) : Array Value → State → Prop := fun v U =>
  v = #[.ref (E.1 0 0), .ref o] ∧ U.heap.size = sz ∧ Tab U ∧ kTab E U ∧ va_K E.2.1 vwCl (tysE E ++ [(cJ, .long)]) U ∧ AdOk E lvC ∧ Cst E (AR E o sz) U U.heap ∧ va_P E.2.1 vwCl (cs E lvC μ) U.heap ∧ va_P E.2.1 vwCl [(o, lRow cJ f)] U.heap ∧ (∀ c ∈ lvC, E.1 c.1 c.2 ≠ o) ∧ NCs U
def QcR (E : WE) (o : Nat) (cJ : ClassId) (sz : Nat) (r : Except Nat Int32) (μ' : Mem) : Array Value → State → Outcome → State → Prop := fun _ st oc t =>
  ∃ (k : Int32) (f : Nat → Int64), oc = .returned (some (.int k)) ∧ va_P E.2.1 vwCl (cs E lvC μ') t.heap ∧ va_P E.2.1 vwCl [(o, lRow cJ f)] t.heap ∧ va_F (AR E o sz) st t ∧ ((∃ v, r = .ok v ∧ k = 0 ∧ f 0 = v.toInt64) ∨ ∃ n, r = .error n ∧ k = nI n)
abbrev rmR : Room := { frames := 15, cells := 1, slots := 6, locals := 480 }
theorem w_run1 : Cond.codeWith yL_run cL_run 3 (some .int) hhR ∈ lw_tbl := List.mem_of_getElem? (i := 314) (by decide +kernel)
theorem w_ex1 : Cond.classLink RL 13 (exn 1) ∈ lw_tbl := List.mem_of_getElem? (i := 315) (by decide +kernel)
theorem w_ex2 : Cond.classLink RL 15 (exn 2) ∈ lw_tbl := List.mem_of_getElem? (i := 316) (by decide +kernel)
theorem w_ex3 : Cond.classLink RL 17 (exn 3) ∈ lw_tbl := List.mem_of_getElem? (i := 391) (by decide +kernel)
theorem w_ex4 : Cond.classLink RL 19 (exn 4) ∈ lw_tbl := List.mem_of_getElem? (i := 392) (by decide +kernel)
theorem w_ex5 : Cond.classLink RL 21 (exn 5) ∈ lw_tbl := List.mem_of_getElem? (i := 393) (by decide +kernel)
theorem w_ex6 : Cond.classLink RL 23 (exn 6) ∈ lw_tbl := List.mem_of_getElem? (i := 412) (by decide +kernel)
theorem w_cs1 : Cond.castable (exn 1) (exn 1) ∈ lw_tbl := List.mem_of_getElem? (i := 593) (by decide +kernel)
theorem w_cs2 : Cond.castable (exn 2) (exn 2) ∈ lw_tbl := List.mem_of_getElem? (i := 368) (by decide +kernel)
theorem w_cs3 : Cond.castable (exn 3) (exn 3) ∈ lw_tbl := List.mem_of_getElem? (i := 677) (by decide +kernel)
theorem w_cs4 : Cond.castable (exn 4) (exn 4) ∈ lw_tbl := List.mem_of_getElem? (i := 662) (by decide +kernel)
theorem w_cs5 : Cond.castable (exn 5) (exn 5) ∈ lw_tbl := List.mem_of_getElem? (i := 802) (by decide +kernel)
theorem w_cs6 : Cond.castable (exn 6) (exn 6) ∈ lw_tbl := List.mem_of_getElem? (i := 728) (by decide +kernel)
