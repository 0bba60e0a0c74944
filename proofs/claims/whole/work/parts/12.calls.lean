section VC
variable {Y : Mc} {l : Launch} {E : WE} {lv : List (Nat × Nat)} {nL : Nat} {r : Res} {own : String} {cc : ByteArray} {ret : Option FieldType} {rk : Nat} {pc : Nat} {L : List (Nat × Value)} {st : List Value} {μ : Mem}

theorem V_iald (C : Ok Y l E lv nL own cc ret rk) (k i : Nat) (hm : (k, i) ∈ lv) {n : Nat} {x : Int32} (hc : ∀ f : Nat → Int32, celk E k i f = .inl (E.2.2.1 0, n, .inl f)) (hin : vp_in x n) (d : decode cc pc = .ok (.iaload, 1))
    (kk : V Y l E lv nL r (pc + 1) L (.int (μ k i x.toNatClampNeg) :: st) μ) : V Y l E lv nL r (pc) L (.int x :: .ref (E.1 k i) :: st) μ := by
  obtain ⟨p, e, R, s, m, args, below, meth, c⟩ := Y
  obtain ⟨hx, hb, hml, hown, hr, hlk, hnt, hst, hR, hT, hk, hK, hA, hC⟩ := C
  intro H locs ls hz hP hS hl
  obtain ⟨q, hq⟩ := List.getElem?_of_mem hm
  have he := cs_at (E := E) (μ := μ) hq
  dsimp only at he
  rw [hc] at he
  exact va_iald hx hb hK hP q 0 he rfl hin d (kk H locs ls hz hP hS hl)

theorem V_cald (C : Ok Y l E lv nL own cc ret rk) (k i : Nat) (hm : (k, i) ∈ lv) {n : Nat} {x : Int32} (hc : ∀ f : Nat → Int32, celk E k i f = .inl (E.2.2.1 1, n, .inl f)) (hin : vp_in x n) (d : decode cc pc = .ok (.caload, 1))
    (kk : V Y l E lv nL r (pc + 1) L (.int (μ k i x.toNatClampNeg) :: st) μ) : V Y l E lv nL r (pc) L (.int x :: .ref (E.1 k i) :: st) μ := by
  obtain ⟨p, e, R, s, m, args, below, meth, c⟩ := Y
  obtain ⟨hx, hb, hml, hown, hr, hlk, hnt, hst, hR, hT, hk, hK, hA, hC⟩ := C
  intro H locs ls hz hP hS hl
  obtain ⟨q, hq⟩ := List.getElem?_of_mem hm
  have he := cs_at (E := E) (μ := μ) hq
  dsimp only at he
  rw [hc] at he
  exact va_cald hx hb hK hP q 1 he rfl hin d (kk H locs ls hz hP hS hl)

theorem V_zald (C : Ok Y l E lv nL own cc ret rk) (k i : Nat) (hm : (k, i) ∈ lv) {n : Nat} {x : Int32} (hc : ∀ f : Nat → Int32, celk E k i f = .inl (E.2.2.1 2, n, .inl f)) (hin : vp_in x n) (d : decode cc pc = .ok (.baload, 1))
    (kk : V Y l E lv nL r (pc + 1) L (.int (μ k i x.toNatClampNeg) :: st) μ) : V Y l E lv nL r (pc) L (.int x :: .ref (E.1 k i) :: st) μ := by
  obtain ⟨p, e, R, s, m, args, below, meth, c⟩ := Y
  obtain ⟨hx, hb, hml, hown, hr, hlk, hnt, hst, hR, hT, hk, hK, hA, hC⟩ := C
  intro H locs ls hz hP hS hl
  obtain ⟨q, hq⟩ := List.getElem?_of_mem hm
  have he := cs_at (E := E) (μ := μ) hq
  dsimp only at he
  rw [hc] at he
  exact va_zald hx hb hK hP q 2 he rfl hin d (kk H locs ls hz hP hS hl)

theorem V_iast (C : Ok Y l E lv nL own cc ret rk) (k i : Nat) (hm : (k, i) ∈ lv) {n : Nat} {x v : Int32} (hc : ∀ f : Nat → Int32, celk E k i f = .inl (E.2.2.1 0, n, .inl f)) (hin : vp_in x n) (d : decode cc pc = .ok (.iastore, 1))
    (kk : V Y l E lv nL r (pc + 1) L st (sto μ k i x.toNatClampNeg v)) : V Y l E lv nL r (pc) L (.int v :: .int x :: .ref (E.1 k i) :: st) μ := by
  obtain ⟨p, e, R, s, m, args, below, meth, c⟩ := Y
  obtain ⟨hx, hb, hml, hown, hr, hlk, hnt, hst, hR, hT, hk, hK, hA, hC⟩ := C
  intro H locs ls hz hP hS hl
  obtain ⟨q, hq⟩ := List.getElem?_of_mem hm
  have he := cs_at (E := E) (μ := μ) hq
  dsimp only at he
  rw [hc] at he
  have hset := cs_set (μ := μ) (f := upd (μ k i) x.toNatClampNeg v) hA hq
  rw [hc] at hset
  refine va_iast hx hb hK hP (cs_D hA) hS q 0 he rfl hin d (fun H1 locs1 hP1 _ hS1 => ?_)
  rw [hset] at hP1
  exact W_sz hS1.1 (fun hz1 => kk H1 locs1 ls hz1 hP1 hS1 hl)

theorem V_cast (C : Ok Y l E lv nL own cc ret rk) (k i : Nat) (hm : (k, i) ∈ lv) {n : Nat} {x v : Int32} (hc : ∀ f : Nat → Int32, celk E k i f = .inl (E.2.2.1 1, n, .inl f)) (hin : vp_in x n) (d : decode cc pc = .ok (.castore, 1))
    (kk : V Y l E lv nL r (pc + 1) L st (sto μ k i x.toNatClampNeg (vp_nar .char v))) : V Y l E lv nL r (pc) L (.int v :: .int x :: .ref (E.1 k i) :: st) μ := by
  obtain ⟨p, e, R, s, m, args, below, meth, c⟩ := Y
  obtain ⟨hx, hb, hml, hown, hr, hlk, hnt, hst, hR, hT, hk, hK, hA, hC⟩ := C
  intro H locs ls hz hP hS hl
  obtain ⟨q, hq⟩ := List.getElem?_of_mem hm
  have he := cs_at (E := E) (μ := μ) hq
  dsimp only at he
  rw [hc] at he
  have hset := cs_set (μ := μ) (f := upd (μ k i) x.toNatClampNeg (vp_nar .char v)) hA hq
  rw [hc] at hset
  refine va_cast hx hb hK hP (cs_D hA) hS q 1 he rfl hin d (fun H1 locs1 hP1 _ hS1 => ?_)
  rw [hset] at hP1
  exact W_sz hS1.1 (fun hz1 => kk H1 locs1 ls hz1 hP1 hS1 hl)

theorem V_zast (C : Ok Y l E lv nL own cc ret rk) (k i : Nat) (hm : (k, i) ∈ lv) {n : Nat} {x v : Int32} (hc : ∀ f : Nat → Int32, celk E k i f = .inl (E.2.2.1 2, n, .inl f)) (hin : vp_in x n) (d : decode cc pc = .ok (.bastore, 1))
    (kk : V Y l E lv nL r (pc + 1) L st (sto μ k i x.toNatClampNeg (vp_nar .boolean v))) : V Y l E lv nL r (pc) L (.int v :: .int x :: .ref (E.1 k i) :: st) μ := by
  obtain ⟨p, e, R, s, m, args, below, meth, c⟩ := Y
  obtain ⟨hx, hb, hml, hown, hr, hlk, hnt, hst, hR, hT, hk, hK, hA, hC⟩ := C
  intro H locs ls hz hP hS hl
  obtain ⟨q, hq⟩ := List.getElem?_of_mem hm
  have he := cs_at (E := E) (μ := μ) hq
  dsimp only at he
  rw [hc] at he
  have hset := cs_set (μ := μ) (f := upd (μ k i) x.toNatClampNeg (vp_nar .boolean v)) hA hq
  rw [hc] at hset
  refine va_zast hx hb hK hP (cs_D hA) hS q 2 he rfl hin d (fun H1 locs1 hP1 _ hS1 => ?_)
  rw [hset] at hP1
  exact W_sz hS1.1 (fun hz1 => kk H1 locs1 ls hz1 hP1 hS1 hl)

theorem V_aald (C : Ok Y l E lv nL own cc ret rk) (k i : Nat) (hm : (k, i) ∈ lv) {n a : Nat} {x : Int32} {g : Nat → Option Nat} (hc : celk E k i (μ k i) = .inl (E.2.2.1 3, n, .inr (.inr (.inr (.inr g))))) (hin : vp_in x n) (hg : g x.toNatClampNeg = some a) (d : decode cc pc = .ok (.aaload, 1))
    (kk : V Y l E lv nL r (pc + 1) L (.ref a :: st) μ) : V Y l E lv nL r (pc) L (.int x :: .ref (E.1 k i) :: st) μ := by
  obtain ⟨p, e, R, s, m, args, below, meth, c⟩ := Y
  obtain ⟨hx, hb, hml, hown, hr, hlk, hnt, hst, hR, hT, hk, hK, hA, hC⟩ := C
  intro H locs ls hz hP hS hl
  obtain ⟨q, hq⟩ := List.getElem?_of_mem hm
  have he := cs_at (E := E) (μ := μ) hq
  dsimp only at he
  rw [hc] at he
  refine va_aldq hx hb hK hP q 3 he rfl hin d ?_
  rw [hg]
  exact (kk H locs ls hz hP hS hl)
/-- a Grid is put into a row of Grids -/
theorem V_aastG (C : Ok Y l E lv nL own cc ret rk) (k i g : Nat) (hm : (k, i) ∈ lv) (hg : (20, g) ∈ lv) {n : Nat} {x : Int32} (f' : Nat → Int32) {fo : Nat → Option Nat} (hc : celk E k i (μ k i) = .inl (E.2.2.1 3, n, .inr (.inr (.inr (.inr fo))))) (hc' : celk E k i f' = .inl (E.2.2.1 3, n, .inr (.inr (.inr (.inr (va_up fo x.toNatClampNeg (some (E.1 20 g)))))))) (hin : vp_in x n) (d : decode cc pc = .ok (.aastore, 1))
    (kk : V Y l E lv nL r (pc + 1) L st (stf μ k i f')) : V Y l E lv nL r (pc) L (.ref (E.1 20 g) :: .int x :: .ref (E.1 k i) :: st) μ := by
  obtain ⟨p, e, R, s, m, args, below, meth, c⟩ := Y
  obtain ⟨hx, hb, hml, hown, hr, hlk, hnt, hst, hR, hT, hk, hK, hA, hC⟩ := C
  intro H locs ls hz hP hS hl
  obtain ⟨q, hq⟩ := List.getElem?_of_mem hm
  have he := cs_at (E := E) (μ := μ) hq
  dsimp only at he
  rw [hc] at he
  obtain ⟨q2, hq2⟩ := List.getElem?_of_mem hg
  have he2 := cs_at (E := E) (μ := μ) hq2
  have hset := cs_set (μ := μ) (f := f') hA hq
  rw [hc'] at hset
  refine va_astq hx hb hK hP (cs_D hA) hS q 3 q2 3 (r := (RX1, TX1, 4)) he rfl he2 rfl hin d (fun H1 locs1 hP1 _ hS1 => ?_)
  rw [hset] at hP1
  exact W_sz hS1.1 (fun hz1 => kk H1 locs1 ls hz1 hP1 hS1 hl)
theorem V_putI (C : Ok Y l E lv nL own cc ret rk) (k i : Nat) (hm : (k, i) ∈ lv) {idx ci j : Nat} {ty : FieldType} (hf : FP own idx ci j ty) {fs : List Value} {x : Int32} (hc : celk E k i (μ k i) = .inr (ci, fs)) (hc' : celk E k i (upd (μ k i) j x) = .inr (ci, fs.set j (.int x))) (hn : narrow ty (.int x) = .int x) (hfit : fits ty (.int x) = true) (hj9 : j < fs.length) (d : decode cc pc = .ok (.putfield idx, 3))
    (kk : V Y l E lv nL r (pc + 3) L st (sto μ k i j x)) : V Y l E lv nL r (pc) L (.int x :: .ref (E.1 k i) :: st) μ := V_putf C k i hm hf (upd (μ k i) j x) hc hc' hn hfit hj9 d kk
/-! the ends -/
theorem V_ireturn (C : Ok Y l E lv nL own cc ret rk) {x : Int32} {ty : FieldType} (hret : ret = some ty) (hn : narrow ty (.int x) = .int x) (h9 : r = (.ok (some (.int x)), μ)) (d : decode cc pc = .ok (.ireturn, 1)) : V Y l E lv nL r (pc) L [.int x] μ := by
  obtain ⟨p, e, R, s, m, args, below, meth, c⟩ := Y
  obtain ⟨hx, hb, hml, hown, hr, hlk, hnt, hst, hR, hT, hk, hK, hA, hC⟩ := C
  intro H locs ls hz hP hS hl
  subst h9
  refine W.widen (k := 1) (n := 6) (by omega) (by omega) (vx_ret ?_)
  exact W.zret hx hb (hr.trans hret) hn (fun t ht hW => ⟨_, rfl, rfl, by rw [ht]; exact hP, by rw [ht]; exact hz, hS.F ht⟩) hS.2.2 d hlk
theorem V_lreturn (C : Ok Y l E lv nL own cc ret rk) {x : Int64} (hret : ret = some .long) (h9 : r = (.ok (some (.long x)), μ)) (d : decode cc pc = .ok (.lreturn, 1)) : V Y l E lv nL r (pc) L [.long x] μ := by
  obtain ⟨p, e, R, s, m, args, below, meth, c⟩ := Y
  obtain ⟨hx, hb, hml, hown, hr, hlk, hnt, hst, hR, hT, hk, hK, hA, hC⟩ := C
  intro H locs ls hz hP hS hl
  subst h9
  refine W.widen (k := 1) (n := 6) (by omega) (by omega) (vx_ret ?_)
  exact W.lret hx hb (hr.trans hret) (fun t ht hW => ⟨_, rfl, rfl, by rw [ht]; exact hP, by rw [ht]; exact hz, hS.F ht⟩) hS.2.2 d hlk
theorem V_areturn (C : Ok Y l E lv nL own cc ret rk) {x : Nat} {cn : String} (hret : ret = some (.object cn)) (h9 : r = (.ok (some (.ref x)), μ)) (d : decode cc pc = .ok (.areturn, 1)) : V Y l E lv nL r (pc) L [.ref x] μ := by
  obtain ⟨p, e, R, s, m, args, below, meth, c⟩ := Y
  obtain ⟨hx, hb, hml, hown, hr, hlk, hnt, hst, hR, hT, hk, hK, hA, hC⟩ := C
  intro H locs ls hz hP hS hl
  subst h9
  refine W.widen (k := 1) (n := 6) (by omega) (by omega) (vx_ret ?_)
  exact W.aret hx hb (hr.trans hret) (Or.inl ⟨cn, rfl⟩) (Or.inr ⟨x, rfl⟩) (fun t ht hW => ⟨_, rfl, rfl, by rw [ht]; exact hP, by rw [ht]; exact hz, hS.F ht⟩) hS.2.2 d hlk
theorem V_return (C : Ok Y l E lv nL own cc ret rk) (hret : ret = none) (h9 : r = (.ok none, μ)) (d : decode cc pc = .ok (.return_, 1)) : V Y l E lv nL r (pc) L [] μ := by
  obtain ⟨p, e, R, s, m, args, below, meth, c⟩ := Y
  obtain ⟨hx, hb, hml, hown, hr, hlk, hnt, hst, hR, hT, hk, hK, hA, hC⟩ := C
  intro H locs ls hz hP hS hl
  subst h9
  refine W.widen (k := 1) (n := 6) (by omega) (by omega) (vx_ret ?_)
  exact W.vret hx hb (hr.trans hret) (fun t ht hW => ⟨_, rfl, rfl, by rw [ht]; exact hP, by rw [ht]; exact hz, hS.F ht⟩) hS.2.2 d hlk
/-- the words of 'throw new E()' in the class own -/
def TH (own : String) (ik ic x : Nat) : Prop := Bundle.fit (exn x) = true ∧ Cond.classLink own ik (exn x) ∈ lw_tbl ∧ Cond.initialized (exn x) ∈ lw_tbl ∧ (∀ w ∈ vx_at0 own ic (exn x) ["java/lang/RuntimeException", "java/lang/Exception"], w ∈ lw_tbl ∧ w.onTables = true)
theorem TH.of {own own0 : String} {ik ic ik0 ic0 x : Nat} (h : TH own0 ik0 ic0 x) (h1 : Cond.classLink own ik (exn x) ∈ lw_tbl) (h2 : Cond.methodLink own ic (Bundle.init0 (exn x)) ∈ lw_tbl) : TH own ik ic x := by
  obtain ⟨a, -, b, c⟩ := h
  refine ⟨a, h1, b, fun w hw => ?_⟩
  by_cases hm : w = Cond.methodLink own ic (Bundle.init0 (exn x))
  · subst hm
    exact ⟨h2, rfl⟩
  · refine c w ?_
    simp only [vx_at0, List.mem_filter, Bundle.ownAtoms0, List.mem_append, List.mem_cons] at hw ⊢
    obtain ⟨hw, hv⟩ := hw
    refine ⟨?_, hv⟩
    rcases hw with hw | hw
    · exact Or.inl hw
    · rcases hw with hw | hw
      · exact absurd hw hm
      · exact Or.inr (Or.inr hw)
theorem V_throw (C : Ok Y l E lv nL own cc ret rk) (x : Nat) {ik ic : Nat} (hth : TH own ik ic x) (h9 : r = (.error x, μ)) (hsum : (st.map fun v => v.category).sum ≤ 8)
    (d0 : decode cc pc = .ok (.new ik, 3)) (d3 : decode cc (pc + 3) = .ok (.dup, 1)) (d4 : decode cc (pc + 4) = .ok (.invokespecial ic, 3)) (d7 : decode cc (pc + 7) = .ok (.athrow, 1)) : V Y l E lv nL r (pc) L st μ := by
  obtain ⟨p, e, R, s, m, args, below, meth, c⟩ := Y
  obtain ⟨hx, hb, hml, hown, hr, hlk, hnt, hst, hR, hT, hk, hK, hA, hC⟩ := C
  intro H locs ls hz hP hS hl
  subst h9
  subst hR
  obtain ⟨hf, hcl, hin, hat⟩ := hth
  refine vx_throw0 hx hb hst (cls := exn x) (names := ["java/lang/RuntimeException", "java/lang/Exception"]) (A := AW E lv s.heap.size) hown hf (by decide +kernel) (hT.use hcl rfl) (hT.use hin rfl) (fun w hw => hT.use (hat w hw).1 (hat w hw).2) ?_ hC.1 hC.2.1 hS (hl.1.trans hml.symm) d0 d3 d4 d7 (fun x hx => (hnt x hx).elim) (by show 2 + 3 < rk + 6; omega) (by show _ + (13 * (2 + 1) + 42) ≤ 40 * rk + 110; omega) (by show 0 + 1 ≤ 1; omega) (by show 0 + 6 ≤ 6; omega) hlk ?_ hS.2.2 (by omega) (by omega)
  · intro w hw
    rcases List.mem_cons.mp hw with rfl | hw
    · rfl
    · rcases List.mem_cons.mp hw with rfl | hw
      · rfl
      · unfold vx_ot
        rw [(hat w hw).2]
        rfl
  · intro t hvm hzt hkt
    refine ⟨x, rfl, rfl, hP.kept (fun k q hk => hkt q.1 ((hP k q hk).lt)), Nat.le_trans hS.1 hzt, fun q hq hnA => ?_⟩
    rw [hkt q (Nat.lt_of_lt_of_le hq hS.1)]
    exact hS.2.1 q hq hnA
/-! calls -/
theorem stand_shrink {p : Program} {e : Env} {R : Room} {s : State} {m : MethodId} {args : Array Value} {below : List Frame} {meth : Method} {c : Code} {T : State} {locs : List Loc} {cells slots : Nat} (X : Stand p l e R s m args below meth c T locs cells slots) (hz : T.heap.size = s.heap.size) : Stand p l e R s m args below meth c T locs 0 0 := by
  obtain ⟨h1, h2, h3, h4, h5, h6⟩ := X.same
  refine { X with same := ⟨h1, h2, ?_, h4, ?_, h6⟩ }
  · show T.heap.size ≤ s.heap.size + 0
    omega
  · have : T.heap.toList.drop s.heap.size = [] := List.drop_eq_nil_of_le (by rw [Array.length_toList]; omega)
    show ((T.heap.toList.drop s.heap.size).map _).sum ≤ 0
    rw [this]
    exact Nat.le_refl 0
theorem PcW.blind {sz : Nat} {a : List Value} : FrameBlind (PcW E lv sz a μ) := by
  intro v U g mk h
  obtain ⟨h0, h1, hT, hk, hK, hA, hC, hP⟩ := h
  exact ⟨h0, h1, Tab.same (s := U) (show U.vm = (U.calling g mk v).vm from rfl) hT, kTab.same (s := U) (show (U.calling g mk v).vm = U.vm from rfl) hk, va_K.moved (Vm.Alike.refl U.vm) hK, hA, Cst.moved (Vm.Alike.refl U.vm) hC, hP⟩
theorem wd_here {s U : State} {H : Heap} {locs : List Loc} (hz : H.size = s.heap.size) (hT : Tab s) (hk : kTab E s) (hK : va_K E.2.1 vwCl (tysE E) s) (hA : AdOk E lv) (hC : Cst E (AW E lv s.heap.size) s s.heap) (hP : va_P E.2.1 vwCl (cs E lv μ) H) (hS : va_S (AW E lv s.heap.size) s.heap H locs) (hU : U.heap = H) (hW : s.WarmedH U.vm) : Wd E lv s.heap.size μ U := by
  subst hU
  exact ⟨hz, hT.warm hW, hk.warm hW, va_K.moved hW.alike hK, hA, (hC.moved hW.alike).kept hS.2.1, hP⟩
/-- the words of a call of y -/
def TbV (y : MethodName) (cc : ByteArray) (nL : Nat) (ret : Option FieldType) (n : Nat) : Prop := Cond.instanceMethod y ∈ lw_tbl ∧ Cond.selects y.cls y y ∈ lw_tbl ∧ Cond.code y cc nL ret ∈ lw_tbl ∧ Cond.initialized y.cls ∈ lw_tbl ∧ (y.cls ≠ "java/lang/invoke/MethodHandle" ∧ y.cls ≠ "java/lang/invoke/VarHandle") ∧ (parseMethodDescriptor y.desc).map (fun d => d.parameters.length) = some n
def TbS (y : MethodName) (cc : ByteArray) (nL : Nat) (ret : Option FieldType) (n : Nat) : Prop := Cond.static y ∈ lw_tbl ∧ Cond.code y cc nL ret ∈ lw_tbl ∧ Cond.initialized y.cls ∈ lw_tbl ∧ (y.cls ≠ "java/lang/invoke/MethodHandle" ∧ y.cls ≠ "java/lang/invoke/VarHandle") ∧ (parseMethodDescriptor y.desc).map (fun d => d.parameters.length) = some n
theorem callB_here {s : State} {args : Array Value} {y : MethodName} {cc' : ByteArray} {nL' n idx : Nat} {ret' : Option FieldType} {rk' : Nat} (hT : Tab s) (h1 : Cond.code y cc' nL' ret' ∈ lw_tbl) (h2 : Cond.initialized y.cls ∈ lw_tbl) (h3 : y.cls ≠ "java/lang/invoke/MethodHandle" ∧ y.cls ≠ "java/lang/invoke/VarHandle") (h4 : (parseMethodDescriptor y.desc).map (fun d => d.parameters.length) = some n) (hlink : Cond.methodLink own idx y ∈ lw_tbl) (hrk : rk' < rk) (hnL : nL' ≤ 21) : CallB (rmK rk) s args own idx y cc' nL' ret' [Cond.code y cc' nL' ret'] (rmK rk') 1 6 n := by
  refine ⟨rfl, rfl, by show rk' + 6 + 1 ≤ rk + 6; omega, by show 8 + (nL' + 11) + (40 * rk' + 110) ≤ 40 * rk + 110; omega, ?_, List.mem_cons_self, hT.use h1 rfl, hT.use h2 rfl, h3, ?_, hT.use hlink rfl⟩
  · intro w hw a' U hW
    rcases List.mem_cons.mp hw with rfl | hw
    · exact (hT.warm hW).use h1 rfl
    · cases hw
  · intro sig h
    rw [h] at h4
    exact (Option.some.inj h4).symm
theorem W_after {p : Program} {e : Env} {R : Room} {s : State} {m : MethodId} {args : Array Value} {below : List Frame} {meth : Method} {c : Code} {H : Heap} {locs : List Loc} {ls : Array Slot} {stk : List Value} {r' : Res} {a : Array Value} {Q : State → Prop} (hz : H.size = s.heap.size) (hS : va_S (AW E lv s.heap.size) s.heap H locs)
    (hrun : vx_Run p l e R s m args below meth c H locs 0 0 1 6 (F0 m pc ls stk) st (QCr E lv (AW E lv s.heap.size) r' a) (XCr E lv (AW E lv s.heap.size) r') (AW E lv s.heap.size))
    (kret : ∀ v μ', r' = (.ok v, μ') → ∀ H1 locs1, H1.size = s.heap.size → va_P E.2.1 vwCl (cs E lv μ') H1 → va_S (AW E lv s.heap.size) s.heap H1 locs1 → W p l e R s m args below meth c H1 locs1 0 0 Q (F0 m (pc + 3) ls (v.toList ++ st)))
    (kthr : ∀ k μ', r' = (.error k, μ') → ∀ H1 locs1 q ce, va_P E.2.1 vwCl (cs E lv μ') H1 → va_S (AW E lv s.heap.size) s.heap H1 locs1 → H1[q]? = some ce → ce.vm = .none → s.vm.findClass (exn k) = some ce.cls → vx_W p l e R s m args below meth c H1 locs1 1 6 Q (F0 m pc ls st) q) : W p l e R s m args below meth c H locs 0 0 Q (F0 m pc ls stk) := by
  intro T hT X
  obtain ⟨r1, r2⟩ := r'
  rcases hrun T hT X with ⟨v, st₀, t, T', L9, h0, X', hL, e1, e2, ⟨v1, q1, q2, q3, q4, q5⟩, stp⟩ | ⟨q, st₀, t, T', L9, nm, ce, h0, X', hL, e1, e2, ⟨k, q1, q2, q3, q4⟩, hce, hcv, hcl, stp⟩
  · cases q2
    have q1 : r1 = .ok v := q1
    subst q1
    obtain ⟨k1, k2, k3⟩ := vx_keep h0 e1 hS (fun _ _ h => h) (fun _ h => h) hL q5
    have hz1 : T'.heap.size = s.heap.size := by rw [e1, q4, h0, hz]
    obtain ⟨t2, a1, b1⟩ := kret v r2 rfl T'.heap (locs ++ L9) hz1 (by rw [e1]; exact q3) k3 T' rfl (stand_shrink X' hz1)
    exact ⟨t2, stp t2 a1, b1⟩
  · have q1 : r1 = .error k := q1
    subst q1
    subst q2
    obtain ⟨k1, k2, k3⟩ := vx_keep h0 e1 hS (fun _ _ h => h) (fun _ h => h) hL q4
    obtain ⟨t2, a1, b1⟩ := kthr k r2 rfl T'.heap (locs ++ L9) q ce (by rw [e1]; exact q3) k3 (by rw [e1]; exact hce) hcv hcl T' rfl X'
    exact ⟨t2, stp.trans a1, b1⟩
theorem thrown_on {p : Program} {e : Env} {R : Room} {s : State} {m : MethodId} {args : Array Value} {below : List Frame} {meth : Method} {c : Code} {H : Heap} {locs : List Loc} {ls : Array Slot} {k : Nat} {q : Addr} {ce : Cell} (hnt : ∀ x ∈ c.exceptionTable.toList, False) (hlk : meth.locks = false) (hr9 : r = (.error k, μ)) (hP : va_P E.2.1 vwCl (cs E lv μ) H) (hS : va_S (AW E lv s.heap.size) s.heap H locs) (h1 : H[q]? = some ce) (h2 : ce.vm = .none) (h3 : s.vm.findClass (exn k) = some ce.cls) :
    vx_W p l e R s m args below meth c H locs 1 6 (vx_MQ below (QCr E lv (AW E lv s.heap.size) r) (XCr E lv (AW E lv s.heap.size) r) args s 1 6 (AW E lv s.heap.size)) (F0 m pc ls st) q := by
  subst hr9
  exact vx_out (fun x hx => (hnt x hx).elim) hlk h1 h2 h3 (fun t ht hvm => ⟨k, rfl, rfl, by rw [ht]; exact hP, hS.F ht⟩) hS.2.2 (Nat.le_refl _) (Nat.le_refl _)
theorem V_callV (C : Ok Y l E lv nL own cc ret rk) (k i : Nat) (hm : (k, i) ∈ lv) {idx : Nat} {y : MethodName} {cc' : ByteArray} {nL' n : Nat} {ret' : Option FieldType} {rk' : Nat} {a' : List Value} {r' : Res} (hcon : Con l E lv y cc' nL' ret' rk' (.ref (E.1 k i) :: a') μ r') (tb : TbV y cc' nL' ret' n) (hlink : Cond.methodLink own idx y ∈ lw_tbl) {ci : Nat} {fs : List Value} {cq : vw_C} (hc : celk E k i (μ k i) = .inr (ci, fs)) (hcl : vwCl[ci]? = some cq) (hcq : cq.1 = y.cls) (hrk : rk' < rk) (hnL : nL' ≤ 21) (hlen : a'.length = n) (hsum : (st.map fun v => v.category).sum ≤ 8) (stk : List Value) (hstk : stk = a'.reverse ++ .ref (E.1 k i) :: st) (d : decode cc pc = .ok (.invokevirtual idx, 3))
    (kret : ∀ v μ', r' = (.ok v, μ') → V Y l E lv nL r (pc + 3) L (v.toList ++ st) μ') (kthr : ∀ k μ', r' = (.error k, μ') → r = (.error k, μ')) : V Y l E lv nL r (pc) L stk μ := by
  obtain ⟨p, e, R, s, m, args, below, meth, c⟩ := Y
  obtain ⟨hx, hb, hml, hown, hr, hlk, hnt, hst, hR, hT, hk, hK, hA, hC⟩ := C
  intro H locs ls hz hP hS hl
  subst hR
  obtain ⟨t1, t2, t3, t4, t5, t6⟩ := tb
  obtain ⟨q, hq⟩ := List.getElem?_of_mem hm
  have he := cs_at (E := E) (μ := μ) hq
  rw [hc] at he
  have hrecv := va_recv hK hP hcl he
  rw [hcq] at hrecv
  refine W_after hz hS (vx_runV (g := F0 m pc ls stk) (b := E.1 k i) (As := a') (rest := st) (C := y.cls) (Ts := []) ⟨hx, hb, hml, hown, fun w hw => by cases hw⟩ (hcon s.heap.size) ⟨callB_here hT t3 t4 t5 t6 hlink hrk hnL, hT.use t1 rfl, hT.use t2 rfl⟩ ⟨PcW.blind, hrecv, fun U hU hW => ⟨rfl, wd_here hz hT hk hK hA hC hP hS hU hW⟩⟩ rfl hlen hl.1 hstk (lv_room hsum) d ⟨Nat.le_refl _, Nat.le_refl _⟩) (fun v μ' h9 H1 locs1 g1 g2 g3 => kret v μ' h9 H1 locs1 ls g1 g2 g3 hl) (fun k μ' h9 H1 locs1 q ce g1 g2 g3 g4 g5 => thrown_on hnt hlk (kthr k μ' h9) g1 g2 g3 g4 g5)
theorem V_callS (C : Ok Y l E lv nL own cc ret rk) {idx : Nat} {y : MethodName} {cc' : ByteArray} {nL' n : Nat} {ret' : Option FieldType} {rk' : Nat} {a' : List Value} {r' : Res} (hcon : Con l E lv y cc' nL' ret' rk' a' μ r') (tb : TbS y cc' nL' ret' n) (hlink : Cond.methodLink own idx y ∈ lw_tbl) (hrk : rk' < rk) (hnL : nL' ≤ 21) (hlen : a'.length = n) (hsum : (st.map fun v => v.category).sum ≤ 8) (stk : List Value) (hstk : stk = a'.reverse ++ st) (d : decode cc pc = .ok (.invokestatic idx, 3))
    (kret : ∀ v μ', r' = (.ok v, μ') → V Y l E lv nL r (pc + 3) L (v.toList ++ st) μ') (kthr : ∀ k μ', r' = (.error k, μ') → r = (.error k, μ')) : V Y l E lv nL r (pc) L stk μ := by
  obtain ⟨p, e, R, s, m, args, below, meth, c⟩ := Y
  obtain ⟨hx, hb, hml, hown, hr, hlk, hnt, hst, hR, hT, hk, hK, hA, hC⟩ := C
  intro H locs ls hz hP hS hl
  subst hR
  obtain ⟨t1, t3, t4, t5, t6⟩ := tb
  refine W_after hz hS (vx_runS (g := F0 m pc ls stk) (As := a') (rest := st) (Ts := []) ⟨hx, hb, hml, hown, fun w hw => by cases hw⟩ (hcon s.heap.size) ⟨callB_here hT t3 t4 t5 t6 hlink hrk hnL, hT.use t1 rfl⟩ ⟨PcW.blind, fun U hU hW => ⟨rfl, wd_here hz hT hk hK hA hC hP hS hU hW⟩⟩ rfl hlen hl.1 hstk (lv_room hsum) d ⟨Nat.le_refl _, Nat.le_refl _⟩) (fun v μ' h9 H1 locs1 g1 g2 g3 => kret v μ' h9 H1 locs1 ls g1 g2 g3 hl) (fun k μ' h9 H1 locs1 q ce g1 g2 g3 g4 g5 => thrown_on hnt hlk (kthr k μ' h9) g1 g2 g3 g4 g5)
theorem V_mmax (C : Ok Y l E lv nL own cc ret rk) {idx : Nat} {x y : Int32} (hl1 : Cond.methodLink own idx Lib.Math.max.name ∈ lw_tbl) (h2 : Cond.static Lib.Math.max.name ∈ lw_tbl) (h3 : Cond.initialized "java/lang/Math" ∈ lw_tbl) (h4 : Cond.code Lib.Math.max.name Lib.Math.max.code 2 (some .int) ∈ lw_tbl) (hsum : (st.map fun v => v.category).sum ≤ 8) (d : decode cc pc = .ok (.invokestatic idx, 3))
    (kk : V Y l E lv nL r (pc + 3) L (.int (if x < y then y else x) :: st) μ) : V Y l E lv nL r (pc) L (.int y :: .int x :: st) μ := by
  obtain ⟨p, e, R, s, m, args, below, meth, c⟩ := Y
  obtain ⟨hx, hb, hml, hown, hr, hlk, hnt, hst, hR, hT, hk, hK, hA, hC⟩ := C
  intro H locs ls hz hP hS hl
  subst hR
  exact va_mmax hx hb (hml.trans hl.1.symm) hown (hT.use hl1 rfl) (hT.use h2 rfl) (hT.use h3 rfl) (hT.use h4 rfl) (by show 1 ≤ rk + 6; omega) (by show _ + 13 ≤ 40 * rk + 110; omega) (Nat.zero_le _) (Nat.zero_le _) d (kk H locs ls hz hP hS hl)
theorem V_mmin (C : Ok Y l E lv nL own cc ret rk) {idx : Nat} {x y : Int32} (hl1 : Cond.methodLink own idx Lib.Math.min.name ∈ lw_tbl) (h2 : Cond.static Lib.Math.min.name ∈ lw_tbl) (h3 : Cond.initialized "java/lang/Math" ∈ lw_tbl) (h4 : Cond.code Lib.Math.min.name Lib.Math.min.code 2 (some .int) ∈ lw_tbl) (hsum : (st.map fun v => v.category).sum ≤ 8) (d : decode cc pc = .ok (.invokestatic idx, 3))
    (kk : V Y l E lv nL r (pc + 3) L (.int (if y < x then y else x) :: st) μ) : V Y l E lv nL r (pc) L (.int y :: .int x :: st) μ := by
  obtain ⟨p, e, R, s, m, args, below, meth, c⟩ := Y
  obtain ⟨hx, hb, hml, hown, hr, hlk, hnt, hst, hR, hT, hk, hK, hA, hC⟩ := C
  intro H locs ls hz hP hS hl
  subst hR
  exact va_mmin hx hb (hml.trans hl.1.symm) hown (hT.use hl1 rfl) (hT.use h2 rfl) (hT.use h3 rfl) (hT.use h4 rfl) (by show 1 ≤ rk + 6; omega) (by show _ + 13 ≤ 40 * rk + 110; omega) (Nat.zero_le _) (Nat.zero_le _) d (kk H locs ls hz hP hS hl)
/-- System.arraycopy between two rows of ints -/
theorem V_copyi (C : Ok Y l E lv nL own cc ret rk) (k0 i0 k i : Nat) (hm0 : (k0, i0) ∈ lv) (hm : (k, i) ∈ lv) {n0 n1 idx : Nat} {sp dp n : Int32} (hc0 : ∀ f : Nat → Int32, celk E k0 i0 f = .inl (E.2.2.1 0, n0, .inl f)) (hc : ∀ f : Nat → Int32, celk E k i f = .inl (E.2.2.1 0, n1, .inl f)) (hl1 : Cond.methodLink own idx arraycopyName ∈ lw_tbl) (h2 : Cond.native arraycopyName ∈ lw_tbl) (h3 : Cond.static arraycopyName ∈ lw_tbl) (h4 : Cond.initialized "java/lang/System" ∈ lw_tbl)
    (g1 : ¬ sp < 0) (g2 : ¬ dp < 0) (g3 : ¬ n < 0) (g4 : sp.toNatClampNeg + n.toNatClampNeg ≤ n0) (g5 : dp.toNatClampNeg + n.toNatClampNeg ≤ n1) (hsum : (st.map fun v => v.category).sum ≤ 8) (d : decode cc pc = .ok (.invokestatic idx, 3))
    (kk : V Y l E lv nL r (pc + 3) L st (stf μ k i (va_cpy (μ k0 i0) (μ k i) sp.toNatClampNeg dp.toNatClampNeg n.toNatClampNeg))) : V Y l E lv nL r (pc) L (.int n :: .int dp :: .ref (E.1 k i) :: .int sp :: .ref (E.1 k0 i0) :: st) μ := by
  obtain ⟨p, e, R, s, m, args, below, meth, c⟩ := Y
  obtain ⟨hx, hb, hml, hown, hr, hlk, hnt, hst, hR, hT, hk, hK, hA, hC⟩ := C
  intro H locs ls hz hP hS hl
  subst hR
  obtain ⟨q0, hq0⟩ := List.getElem?_of_mem hm0
  have he0 := cs_at (E := E) (μ := μ) hq0
  dsimp only at he0
  rw [hc0] at he0
  obtain ⟨q, hq⟩ := List.getElem?_of_mem hm
  have he := cs_at (E := E) (μ := μ) hq
  dsimp only at he
  rw [hc] at he
  have hset := cs_set (μ := μ) (f := va_cpy (μ k0 i0) (μ k i) sp.toNatClampNeg dp.toNatClampNeg n.toNatClampNeg) hA hq
  rw [hc] at hset
  have hnf : nativeFrameWords "java/lang/System" "arraycopy" 5 + 11 ≤ 100 := by decide +kernel
  refine va_copyi (R := rmK rk) hx hb (hml.trans hl.1.symm) hown (hT.use hl1 rfl) (hT.use h2 rfl) (hT.use h3 rfl) (hT.use h4 rfl) hK hP (cs_D hA) hS q0 q 0 0 he0 he rfl rfl rfl g1 g2 g3 g4 g5 (fun _ _ => rfl) (by show 1 ≤ rk + 6; omega) (by show _ + _ ≤ 40 * rk + 110; omega) d (fun H1 locs1 hP1 _ hS1 => ?_)
  rw [hset] at hP1
  exact W_sz hS1.1 (fun hz1 => kk H1 locs1 ls hz1 hP1 hS1 hl)
/-- the contract out of the walk from the entry -/
theorem Con.of {y : MethodName} {a : List Value} (hy : plainName y.cls = true) (hst : l.stackTraces = false) (ha : (lg_sl a).length ≤ nL) (body : ∀ Y : Mc, Ok Y l E lv nL y.cls cc ret rk → V Y l E lv nL r 0 (lv_args 0 a) [] μ) : Con l E lv y cc nL ret rk a μ r := by
  intro sz
  refine vx_ofW (cc := cc) (maxL := nL) (ret := ret) hy rfl ?_
  intro p e s m args below meth c s₁ B hml hnt hv
  obtain ⟨rfl, hsz, hT, hk, hK, hA, hC, hP⟩ := hv
  subst hsz
  have hl := lv_entry a (n := nL) ha
  rw [lg_entry_eq]
  generalize (lg_sl a ++ List.replicate (nL - (lg_sl a).length) Slot.unset).toArray = ls at hl ⊢
  exact body (p, e, rmK rk, s, m, a.toArray, below, meth, c) ⟨B.exec, B.bytes, hml, findClass_of_methodNamed B.named, B.returns, B.notSynchronized, hnt, hst, rfl, hT, hk, hK, hA, hC⟩ s.heap [] ls rfl hP va_S.rf hl

end VC
