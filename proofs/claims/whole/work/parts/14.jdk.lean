/-! ===== members of the JDK ===== -/
theorem w_max1 : Cond.static Lib.Math.max.name ∈ lw_tbl := by decide +kernel
theorem w_max2 : Cond.code Lib.Math.max.name Lib.Math.max.code 2 (some .int) ∈ lw_tbl := by decide +kernel
theorem w_min1 : Cond.static Lib.Math.min.name ∈ lw_tbl := by decide +kernel
theorem w_min2 : Cond.code Lib.Math.min.name Lib.Math.min.code 2 (some .int) ∈ lw_tbl := by decide +kernel
theorem w_math : Cond.initialized "java/lang/Math" ∈ lw_tbl := by decide +kernel
theorem w_cp1 : Cond.native arraycopyName ∈ lw_tbl := by decide +kernel
theorem w_cp2 : Cond.static arraycopyName ∈ lw_tbl := by decide +kernel
theorem w_cp3 : Cond.initialized "java/lang/System" ∈ lw_tbl := by decide +kernel
/-! a method whose class has natives of its own -/
theorem vx_ofWF {l : Launch} {y : MethodName} {ws ws' : List Cond} {rm : Room} {Pc : Array Value → State → Prop} {Qc : Array Value → State → Outcome → State → Prop} {XC : String → State → State → Prop} {mc ms : Nat} {free : Addr → Prop} {cc : ByteArray} {maxL : Nat} {ret : Option FieldType}
    (hy : plainFor y = true) (hw : ws = Cond.code y cc maxL ret :: ws')
    (body : ∀ p e s m args below meth c s₁, BodyLoose p l y (headSpec ws rm) cc maxL ret e s m args below meth c s₁ → c.maxLocals = maxL → (∀ x ∈ c.exceptionTable.toList, False) → Pc args s →
      W p l e (headSpec ws rm).room s m args below meth c s.heap [] 0 0 (vx_MQ below Qc XC args s mc ms free) (entryFrame m args maxL)) : vx_Met l y ws rm Pc Qc XC mc ms free := by
  refine MetFree.of_bodySF (code := cc) (maxLocals := maxL) (ret := ret) hy ?_ ?_
  · intro args s m h hn
    obtain ⟨meth, c, h1, h2, h3, h4, h5, h6, -, -⟩ := Cond.code_spec hn (atoms_spec (ws := ws) h _ (by rw [hw]; exact List.mem_cons_self))
    exact ⟨meth, c, h1, h2, h3, h4, h5, h6⟩
  · intro p e s m args below meth c s₁ B hml hP _
    have hh0 : s₁.heap = s.heap := by rw [B.state]; rfl
    have ht : ∀ x ∈ c.exceptionTable.toList, False := by
      obtain ⟨meth9, c9, h1, h2, -, -, -, -, h7, -⟩ := Cond.code_spec B.named (atoms_spec (ws := ws) B.pre _ (by rw [hw]; exact List.mem_cons_self))
      cases Option.some.inj (h1.symm.trans B.method)
      cases Option.some.inj (h2.symm.trans (Stand.of_body B).code)
      intro x hx
      rw [Array.isEmpty_iff.mp h7] at hx
      cases hx
    obtain ⟨t, a1, o, b1, b2, b3⟩ := body p e s m args below meth c s₁ B hml ht hP s₁ hh0 (Stand.of_body B)
    exact ⟨t, o, a1, b1, b2, b3⟩
theorem Con.ofF {l : Launch} {E : WE} {lv : List (Nat × Nat)} {nL : Nat} {r : Res} {cc : ByteArray} {ret : Option FieldType} {rk : Nat} {μ : Mem} {y : MethodName} {a : List Value} (hy : plainFor y = true) (hst : l.stackTraces = false) (ha : (lg_sl a).length ≤ nL) (body : ∀ Y : Mc, Ok Y l E lv nL y.cls cc ret rk → V Y l E lv nL r 0 (lv_args 0 a) [] μ) : Con l E lv y cc nL ret rk a μ r := by
  intro sz
  refine vx_ofWF (cc := cc) (maxL := nL) (ret := ret) hy rfl ?_
  intro p e s m args below meth c s₁ B hml hnt hv
  obtain ⟨rfl, hsz, hT, hk, hK, hA, hC, hP⟩ := hv
  subst hsz
  have hl := lv_entry a (n := nL) ha
  rw [lg_entry_eq]
  generalize (lg_sl a ++ List.replicate (nL - (lg_sl a).length) Slot.unset).toArray = ls at hl ⊢
  exact body (p, e, rmK rk, s, m, a.toArray, below, meth, c) ⟨B.exec, B.bytes, hml, findClass_of_methodNamed B.named, B.returns, B.notSynchronized, hnt, hst, rfl, hT, hk, hK, hA, hC⟩ s.heap [] ls rfl hP va_S.rf hl
/-! the String constants -/
section VK
variable {Y : Mc} {l : Launch} {E : WE} {lv : List (Nat × Nat)} {nL : Nat} {r : Res} {own : String} {cc : ByteArray} {ret : Option FieldType} {rk : Nat} {pc : Nat} {L : List (Nat × Value)} {st stk : List Value} {μ μ' : Mem} {idx : Nat}
theorem V_strVal (C : Ok Y l E lv nL own cc ret rk) (j : Nat) (hj : j < 4) (hlink : Cond.fieldLink own idx "java/lang/String" "value" "[B" ∈ lw_tbl) (d : decode cc pc = .ok (.getfield idx, 3))
    (kk : V Y l E lv nL r (pc + 3) L (.ref (E.2.2.2.2 j) :: st) μ) : V Y l E lv nL r pc L (.ref (E.2.2.2.1 j) :: st) μ := by
  obtain ⟨p, e, R, s, m, args, below, meth, c⟩ := Y
  obtain ⟨hx, hb, hml, hown, hr, hlk, hnt, hst, hR, hT, hk, hK, hA, hC⟩ := C
  intro H locs ls hz hP hS hl
  exact vk_getf hx hb (hC.2.2.2.1 j hj).2.2.1 hS hown (hT.use hlink rfl) (fun _ h => h) d (kk H locs ls hz hP hS hl)
theorem V_strCod (C : Ok Y l E lv nL own cc ret rk) (j : Nat) (hj : j < 4) (hlink : Cond.fieldLink own idx "java/lang/String" "coder" "B" ∈ lw_tbl) (d : decode cc pc = .ok (.getfield idx, 3))
    (kk : V Y l E lv nL r (pc + 3) L (.int (0 : Int32) :: st) μ) : V Y l E lv nL r pc L (.ref (E.2.2.2.1 j) :: st) μ := by
  obtain ⟨p, e, R, s, m, args, below, meth, c⟩ := Y
  obtain ⟨hx, hb, hml, hown, hr, hlk, hnt, hst, hR, hT, hk, hK, hA, hC⟩ := C
  intro H locs ls hz hP hS hl
  exact vk_getf hx hb (hC.2.2.2.1 j hj).2.1 hS hown (hT.use hlink rfl) (fun _ h => h) d (kk H locs ls hz hP hS hl)
theorem V_compact (C : Ok Y l E lv nL own cc ret rk) (hlink : Cond.fieldLink own idx "java/lang/String" "COMPACT_STRINGS" "Z" ∈ lw_tbl) (d : decode cc pc = .ok (.getstatic idx, 3))
    (kk : V Y l E lv nL r (pc + 3) L (.int (1 : Int32) :: st) μ) : V Y l E lv nL r pc L st μ := by
  obtain ⟨p, e, R, s, m, args, below, meth, c⟩ := Y
  obtain ⟨hx, hb, hml, hown, hr, hlk, hnt, hst, hR, hT, hk, hK, hA, hC⟩ := C
  intro H locs ls hz hP hS hl
  exact va_gets hx hb hC.2.2.1 hS hown (hT.use hlink rfl) (fun _ h => h) d (kk H locs ls hz hP hS hl)
theorem V_bytLen (C : Ok Y l E lv nL own cc ret rk) (j : Nat) (hj : j < 4) (d : decode cc pc = .ok (.arraylength, 1))
    (kk : V Y l E lv nL r (pc + 1) L (.int (nI (kLen.getD j 0)) :: st) μ) : V Y l E lv nL r pc L (.ref (E.2.2.2.2 j) :: st) μ := by
  obtain ⟨p, e, R, s, m, args, below, meth, c⟩ := Y
  obtain ⟨hx, hb, hml, hown, hr, hlk, hnt, hst, hR, hT, hk, hK, hA, hC⟩ := C
  intro H locs ls hz hP hS hl
  exact va_tlen hx hb (hC.2.2.2.1 j hj).2.2.2 hS rfl d (kk H locs ls hz hP hS hl)
theorem V_bytLd (C : Ok Y l E lv nL own cc ret rk) (j : Nat) (hj : j < 4) {x : Int32} (hin : vp_in x (kLen.getD j 0)) (d : decode cc pc = .ok (.baload, 1))
    (kk : V Y l E lv nL r (pc + 1) L (.int ((kByt.getD j []).getD x.toNatClampNeg 0) :: st) μ) : V Y l E lv nL r pc L (.int x :: .ref (E.2.2.2.2 j) :: st) μ := by
  obtain ⟨p, e, R, s, m, args, below, meth, c⟩ := Y
  obtain ⟨hx, hb, hml, hown, hr, hlk, hnt, hst, hR, hT, hk, hK, hA, hC⟩ := C
  intro H locs ls hz hP hS hl
  exact va_tb hx hb (hC.2.2.2.1 j hj).2.2.2 hS hin rfl d (kk H locs ls hz hP hS hl)
theorem V_i2b (C : Ok Y l E lv nL own cc ret rk) {x : Int32} (d : decode cc pc = .ok (.i2b, 1))
    (kk : V Y l E lv nL r (pc + 1) L (.int x.toInt8.toInt32 :: st) μ) : V Y l E lv nL r pc L (.int x :: st) μ := by
  obtain ⟨p, e, R, s, m, args, below, meth, c⟩ := Y
  obtain ⟨hx, hb, hml, hown, hr, hlk, hnt, hst, hR, hT, hk, hK, hA, hC⟩ := C
  intro H locs ls hz hP hS hl
  exact lv_i2b hx hb d rfl (kk H locs ls hz hP hS hl)
/-- a call on a String constant -/
theorem V_callKo (C : Ok Y l E lv nL own cc ret rk) (j : Nat) (hj : j < 4) (v : Option Value) {y : MethodName} {cc' : ByteArray} {nL' n : Nat} {ret' : Option FieldType} {rk' : Nat} {a' : List Value} (hcon : Con l E lv y cc' nL' ret' rk' (.ref (E.2.2.2.1 j) :: a') μ (.ok v, μ')) (tb : TbV y cc' nL' ret' n) (hlink : Cond.methodLink own idx y ∈ lw_tbl) (hcq : y.cls = "java/lang/String") (hrk : rk' < rk) (hnL : nL' ≤ 21) (hlen : a'.length = n) (hsum : (st.map fun v => v.category).sum ≤ 8) (hstk : stk = a'.reverse ++ .ref (E.2.2.2.1 j) :: st) (d : decode cc pc = .ok (.invokevirtual idx, 3))
    {st2 : List Value} (hst2 : v.toList ++ st = st2) (kk : V Y l E lv nL r (pc + 3) L st2 μ') : V Y l E lv nL r pc L stk μ := by
  obtain ⟨p, e, R, s, m, args, below, meth, c⟩ := Y
  obtain ⟨hx, hb, hml, hown, hr, hlk, hnt, hst, hR, hT, hk, hK, hA, hC⟩ := C
  intro H locs ls hz hP hS hl
  subst hR
  subst hst2
  obtain ⟨t1, t2, t3, t4, t5, t6⟩ := tb
  have hrecv := vk_recv hC.2.2.2 hj hS
  rw [← hcq] at hrecv
  refine W_after hz hS (vx_runV (g := F0 m pc ls stk) (b := E.2.2.2.1 j) (As := a') (rest := st) (C := y.cls) (Ts := []) ⟨hx, hb, hml, hown, fun w hw => by cases hw⟩ (hcon s.heap.size) ⟨callB_here hT t3 t4 t5 t6 hlink hrk hnL, hT.use t1 rfl, hT.use t2 rfl⟩ ⟨PcW.blind, hrecv, fun U hU hW => ⟨rfl, wd_here hz hT hk hK hA hC hP hS hU hW⟩⟩ rfl hlen hl.1 hstk (lv_room hsum) d ⟨Nat.le_refl _, Nat.le_refl _⟩) (fun v1 μ1 e => ?_) (fun k1 μ1 e => ?_)
  · cases e
    exact fun H1 locs1 g1 g2 g3 => kk H1 locs1 ls g1 g2 g3 hl
  · cases e
end VK
