/-! ===== members of the JDK ===== -/
theorem w_max1 : Cond.static Lib.Math.max.name ∈ lw_tbl := by decide +kernel
theorem w_max2 : Cond.code Lib.Math.max.name Lib.Math.max.code 2 (some .int) ∈ lw_tbl := by decide +kernel
theorem w_min1 : Cond.static Lib.Math.min.name ∈ lw_tbl := by decide +kernel
theorem w_min2 : Cond.code Lib.Math.min.name Lib.Math.min.code 2 (some .int) ∈ lw_tbl := by decide +kernel
theorem w_math : Cond.initialized "java/lang/Math" ∈ lw_tbl := by decide +kernel
theorem w_cp1 : Cond.native arraycopyName ∈ lw_tbl := by decide +kernel
theorem w_cp2 : Cond.static arraycopyName ∈ lw_tbl := by decide +kernel
theorem w_cp3 : Cond.initialized "java/lang/System" ∈ lw_tbl := by decide +kernel
/-! a method whose class has natives of its own -/
theorem vx_ofWF {l : Launch} {y : MethodName} {ws ws' : List Cond} {rm : Room} {Pc : Array Value → State → Prop} {Qc : Array Value → State → Outcome → State → Prop} {XC : String → State → State → Prop} {mc ms : Nat} {free : Addr → Prop} {cc : ByteArray} {maxL : Nat} {ret : Option FieldType}
    (hy : plainFor y = true) (hw : ws = Cond.code y cc maxL ret :: ws')
    (body : ∀ p e s m args below meth c s₁, BodyLoose p l y (headSpec ws rm) cc maxL ret e s m args below meth c s₁ → c.maxLocals = maxL → (∀ x ∈ c.exceptionTable.toList, False) → Pc args s →
      W p l e (headSpec ws rm).room s m args below meth c s.heap [] 0 0 (vx_MQ below Qc XC args s mc ms free) (entryFrame m args maxL)) : vx_Met l y ws rm Pc Qc XC mc ms free := by
  refine MetFree.of_bodySF (code := cc) (maxLocals := maxL) (ret := ret) hy ?_ ?_
  · intro args s m h hn
    obtain ⟨meth, c, h1, h2, h3, h4, h5, h6, -, -⟩ := Cond.code_spec hn (atoms_spec (ws := ws) h _ (by rw [hw]; exact List.mem_cons_self))
    exact ⟨meth, c, h1, h2, h3, h4, h5, h6⟩
  · intro p e s m args below meth c s₁ B hml hP _
    have hh0 : s₁.heap = s.heap := by rw [B.state]; rfl
    have ht : ∀ x ∈ c.exceptionTable.toList, False := by
      obtain ⟨meth9, c9, h1, h2, -, -, -, -, h7, -⟩ := Cond.code_spec B.named (atoms_spec (ws := ws) B.pre _ (by rw [hw]; exact List.mem_cons_self))
      cases Option.some.inj (h1.symm.trans B.method)
      cases Option.some.inj (h2.symm.trans (Stand.of_body B).code)
      intro x hx
      rw [Array.isEmpty_iff.mp h7] at hx
      cases hx
    obtain ⟨t, a1, o, b1, b2, b3⟩ := body p e s m args below meth c s₁ B hml ht hP s₁ hh0 (Stand.of_body B)
    exact ⟨t, o, a1, b1, b2, b3⟩
theorem Con.ofF {l : Launch} {E : WE} {lv : List (Nat × Nat)} {nL : Nat} {r : Res} {cc : ByteArray} {ret : Option FieldType} {rk : Nat} {μ : Mem} {y : MethodName} {a : List Value} (hy : plainFor y = true) (hst : l.stackTraces = false) (ha : (lg_sl a).length ≤ nL) (body : ∀ Y : Mc, Ok Y l E lv nL y.cls cc ret rk → V Y l E lv nL r 0 (lv_args 0 a) [] μ) : Con l E lv y cc nL ret rk a μ r := by
  intro sz
  refine vx_ofWF (cc := cc) (maxL := nL) (ret := ret) hy rfl ?_
  intro p e s m args below meth c s₁ B hml hnt hv
  obtain ⟨rfl, hsz, hT, hk, hK, hA, hC, hP⟩ := hv
  subst hsz
  have hl := lv_entry a (n := nL) ha
  rw [lg_entry_eq]
  generalize (lg_sl a ++ List.replicate (nL - (lg_sl a).length) Slot.unset).toArray = ls at hl ⊢
  exact body (p, e, rmK rk, s, m, a.toArray, below, meth, c) ⟨B.exec, B.bytes, hml, findClass_of_methodNamed B.named, B.returns, B.notSynchronized, hnt, hst, rfl, hT, hk, hK, hA, hC⟩ s.heap [] ls rfl hP va_S.rf hl
/-- the place of the sign c in the String constant number j; -1 if it isn't there -/
def kidx (j : Nat) (c : Int32) : Int32 := match (kByt.getD j []).findIdx? (fun b => b == c) with
  | some n => nI n
  | none => -1
theorem V_indexOf {Y : Mc} {l : Launch} {E : WE} {lv : List (Nat × Nat)} {nL : Nat} {r : Res} {own : String} {cc : ByteArray} {ret : Option FieldType} {rk : Nat} {pc : Nat} {L : List (Nat × Value)} {st : List Value} {μ : Mem} (C : Ok Y l E lv nL own cc ret rk) (hl : l.stackTraces = false) (j : Nat) (hj : j < 4) {c : Int32} {idx : Nat} (hlk : Cond.methodLink own idx yJ0_indexOf_0f7a4 ∈ lw_tbl) (hrk : 5 < rk) (hsum : (st.map fun v => v.category).sum ≤ 8) (d : decode cc pc = .ok (.invokevirtual idx, 3))
    (kk : V Y l E lv nL r (pc + 3) L (.int (kidx j c) :: st) μ) : V Y l E lv nL r pc L (.int c :: .ref (E.2.2.2.1 j) :: st) μ := by
  sorry
