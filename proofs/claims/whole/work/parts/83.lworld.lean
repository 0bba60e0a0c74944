/-! ===== the law's world ===== -/
/-- what the law knows at its entry, of the state s: o is the row of one long, all its things lie from s's end on -/
def LB (l : Launch) (E : WE) (cJ : ClassId) (o : Nat) (s : State) : Prop := l.stackTraces = false ∧ LWd E lvC (fun q => s.heap.size ≤ q) s ∧ LWd E lvM (fun q => s.heap.size ≤ q) s ∧ va_K E.2.1 vwCl (tysE E ++ [(cJ, .long)]) s ∧ NCs s ∧ (∀ c ∈ lvC, ∀ d ∈ lvM, E.1 c.1 c.2 ≠ E.1 d.1 d.2) ∧ (∀ c ∈ lvC, E.1 c.1 c.2 ≠ o) ∧ (∀ c ∈ lvM, E.1 c.1 c.2 ≠ o) ∧ s.heap.size ≤ o
def WL (E : WE) (cJ : ClassId) (o : Nat) (μC μM : Mem) (f : Nat → Int64) (H : Heap) : Prop := va_P E.2.1 vwCl (cs E lvC μC) H ∧ va_P E.2.1 vwCl (cs E lvM μM) H ∧ va_P E.2.1 vwCl [(o, lRow cJ f)] H
theorem cs_keep {E : WE} {lv lv' : List (Nat × Nat)} {μ : Mem} {H H1 : Heap} (hP : va_P E.2.1 vwCl (cs E lv μ) H) (hR : Rst E lv' H H1) (hn : ∀ c ∈ lv, ∀ d ∈ lv', E.1 c.1 c.2 ≠ E.1 d.1 d.2) : va_P E.2.1 vwCl (cs E lv μ) H1 := by
  refine hP.kept (fun k q hk => ?_)
  have hlt := (hP k q hk).lt
  obtain ⟨c, h1, rfl⟩ := cs_inv hk
  exact hR _ hlt (fun d hd => hn c (List.mem_of_getElem? h1) d hd)
section LWL
variable {p : Program} {l : Launch} {e : Env} {s : State} {m : MethodId} {args : Array Value} {below : List Frame} {meth : Method} {c : Code} {H : Heap} {locs : List Loc} {cells slots : Nat} {Q : State → Prop} {E : WE} {cJ : ClassId} {o : Nat} {μC μM μ' : Mem} {f : Nat → Int64} {pc : Nat} {ls : Array Slot} {st stk : List Value} {idx : Nat} {y : MethodName} {cc' : ByteArray} {nL' n : Nat} {ret' : Option FieldType} {rk' : Nat}
/-- a call of the class's -/
theorem L_callC (hx : p.tables.exec = Jvm.exec) (hb : c.code = cL_law) (hml : c.maxLocals = 7) (hown : s.vm.findClass RL = some m.cls) (B : LB l E cJ o s) (hW : WL E cJ o μC μM f H) (hS : va_S (fun q => s.heap.size ≤ q) s.heap H locs) (hls : ls.size = 7) (a' : List Value) (v : Option Value) (hcon : Con l E lvC y cc' nL' ret' rk' (.ref (E.1 0 0) :: a') μC (.ok v, μ')) (tb : TbV y cc' nL' ret' n) (hlink : Cond.methodLink RL idx y ∈ lw_tbl) (hy : RX7 = y.cls) (hrk : rk' ≤ 10) (hnL : nL' ≤ 21) (hce : cells + 1 ≤ 603072 ∧ slots + 6 ≤ 7215210) (hlen : a'.length = n) (hsum : (st.map fun v => v.category).sum ≤ 8) (hstk : stk = a'.reverse ++ .ref (E.1 0 0) :: st) (d : decode cL_law pc = .ok (.invokevirtual idx, 3))
    (kk : ∀ H1 locs1, WL E cJ o μ' μM f H1 → va_S (fun q => s.heap.size ≤ q) s.heap H1 locs1 → W p l e room_1 s m args below meth c H1 locs1 (cells + 1) (slots + 6) Q (F0 m (pc + 3) ls (v.toList ++ st))) : W p l e room_1 s m args below meth c H locs cells slots Q (F0 m pc ls stk) := by
  obtain ⟨hst, hLC, hLM, hKJ, hnc, h1, h2, h3, h4⟩ := B
  obtain ⟨w1, w2, w3⟩ := hW
  refine W_conV (nL := 7) (own := RL) hx hb hml hown hLC hS w1 hls 0 0 (by decide) a' hcon tb hlink (ci := 7) rfl rfl hy (by show rk' + 7 ≤ 25; omega) (by show 8 + (nL' + 11) + (40 * rk' + 110) ≤ 11048; omega) hce hlen hsum hstk d (fun v9 ν h9 H1 locs1 z1 hP1 hR1 hS1 => ?_) (fun n ν h9 H1 locs1 q ce z1 hP1 hR1 hS1 g1 g2 g3 => ?_)
  · cases h9
    exact kk H1 locs1 ⟨hP1, cs_keep w2 hR1 (fun c hc d hd e => h1 d hd c hc e.symm), w3.one (hR1 o (w3 0 _ rfl).lt (fun c hc e => h2 c hc e.symm))⟩ hS1
  · cases h9
/-- a call of the reference's -/
theorem L_callM (hx : p.tables.exec = Jvm.exec) (hb : c.code = cL_law) (hml : c.maxLocals = 7) (hown : s.vm.findClass RL = some m.cls) (B : LB l E cJ o s) (hW : WL E cJ o μC μM f H) (hS : va_S (fun q => s.heap.size ≤ q) s.heap H locs) (hls : ls.size = 7) (a' : List Value) (v : Option Value) (hcon : Con l E lvM y cc' nL' ret' rk' (.ref (E.1 30 0) :: a') μM (.ok v, μ')) (tb : TbV y cc' nL' ret' n) (hlink : Cond.methodLink RL idx y ∈ lw_tbl) (hy : RX8 = y.cls) (hrk : rk' ≤ 10) (hnL : nL' ≤ 21) (hce : cells + 1 ≤ 603072 ∧ slots + 6 ≤ 7215210) (hlen : a'.length = n) (hsum : (st.map fun v => v.category).sum ≤ 8) (hstk : stk = a'.reverse ++ .ref (E.1 30 0) :: st) (d : decode cL_law pc = .ok (.invokevirtual idx, 3))
    (kk : ∀ H1 locs1, WL E cJ o μC μ' f H1 → va_S (fun q => s.heap.size ≤ q) s.heap H1 locs1 → W p l e room_1 s m args below meth c H1 locs1 (cells + 1) (slots + 6) Q (F0 m (pc + 3) ls (v.toList ++ st))) : W p l e room_1 s m args below meth c H locs cells slots Q (F0 m pc ls stk) := by
  obtain ⟨hst, hLC, hLM, hKJ, hnc, h1, h2, h3, h4⟩ := B
  obtain ⟨w1, w2, w3⟩ := hW
  refine W_conV (nL := 7) (own := RL) hx hb hml hown hLM hS w2 hls 30 0 (by decide) a' hcon tb hlink (ci := 8) rfl rfl hy (by show rk' + 7 ≤ 25; omega) (by show 8 + (nL' + 11) + (40 * rk' + 110) ≤ 11048; omega) hce hlen hsum hstk d (fun v9 ν h9 H1 locs1 z1 hP1 hR1 hS1 => ?_) (fun n ν h9 H1 locs1 q ce z1 hP1 hR1 hS1 g1 g2 g3 => ?_)
  · cases h9
    exact kk H1 locs1 ⟨cs_keep w1 hR1 (fun c hc d hd e => h1 c hc d hd e), hP1, w3.one (hR1 o (w3 0 _ rfl).lt (fun c hc e => h3 c hc e.symm))⟩ hS1
  · cases h9
theorem PcR.blind {sz : Nat} {μ : Mem} : FrameBlind (PcR E o cJ sz μ f) := by
  intro v U g mk h
  obtain ⟨h0, h1, hT, hk, hK, hA, hC, hP, hPo, hne, hnc⟩ := h
  exact ⟨h0, h1, Tab.same (s := U) (show U.vm = (U.calling g mk v).vm from rfl) hT, kTab.same (s := U) (show (U.calling g mk v).vm = U.vm from rfl) hk, va_K.moved (Vm.Alike.refl U.vm) hK, hA, Cst.moved (Vm.Alike.refl U.vm) hC, hP, hPo, hne, NCs.moved (Vm.Alike.refl U.vm) hnc⟩
theorem w_lrun : Cond.methodLink RL 38 yL_run ∈ lw_tbl := List.mem_of_getElem? (i := 312) (by decide +kernel)
theorem w_srun : Cond.static yL_run ∈ lw_tbl := List.mem_of_getElem? (i := 313) (by decide +kernel)
theorem w_ilaw : Cond.initialized RL ∈ lw_tbl := List.mem_of_getElem? (i := 54) (by decide +kernel)
/-- the call of the law's own run -/
theorem L_run {r : Except Nat Int32} (hx : p.tables.exec = Jvm.exec) (hb : c.code = cL_law) (hml : c.maxLocals = 7) (hown : s.vm.findClass RL = some m.cls) (B : LB l E cJ o s) (hW : WL E cJ o μC μM f H) (hS : va_S (fun q => s.heap.size ≤ q) s.heap H locs) (hls : ls.size = 7) (h : f_X7_run μC = some (r, μ')) (hr : ∀ n, r = .error n → eok n) (hce : cells + 1 ≤ 603072 ∧ slots + 6 ≤ 7215210) (hsum : (st.map fun v => v.category).sum ≤ 8) (d : decode cL_law pc = .ok (.invokestatic 38, 3))
    (kk : ∀ (k : Int32) (f' : Nat → Int64) H1 locs1, ((∃ v, r = .ok v ∧ k = 0 ∧ f' 0 = v.toInt64) ∨ ∃ n, r = .error n ∧ k = nI n) → WL E cJ o μ' μM f' H1 → va_S (fun q => s.heap.size ≤ q) s.heap H1 locs1 → W p l e room_1 s m args below meth c H1 locs1 (cells + 1) (slots + 6) Q (F0 m (pc + 3) ls (.int k :: st))) : W p l e room_1 s m args below meth c H locs cells slots Q (F0 m pc ls (.ref o :: .ref (E.1 0 0) :: st)) := by
  obtain ⟨hst, hLC, hLM, hKJ, hnc, h1, h2, h3, h4⟩ := B
  obtain ⟨w1, w2, w3⟩ := hW
  obtain ⟨hT, hk, hK, hA, hC, hin, hnew⟩ := id hLC
  have hAR : ∀ q, AR E o H.size q → s.heap.size ≤ q := by
    intro q hq
    rcases hq with hq | rfl
    · exact hLC.aw hS q hq
    · exact h4
  have cw : vx_CSW room_1 s args RL 38 yL_run cL_run 3 (some .int) hhR [Cond.codeWith yL_run cL_run 3 (some .int) hhR] rmR 1 6 2 := by
    refine ⟨⟨rfl, rfl, by show 15 + 1 ≤ 25; omega, by show 8 + (3 + 11) + 480 ≤ 11048; omega, ?_, List.mem_cons_self⟩, hT.use w_run1 rfl, hT.use w_ilaw rfl, by decide +kernel, ?_, hT.use w_lrun rfl, hT.use w_srun rfl⟩
    · intro w hw a' U hW
      rcases List.mem_cons.mp hw with rfl | hw
      · exact (hT.warm hW).use w_run1 rfl
      · cases hw
    · intro sig hs
      have hd : (parseMethodDescriptor yL_run.desc).map (fun d => d.parameters.length) = some 2 := by decide +kernel
      rw [hs] at hd
      exact (Option.some.inj hd).symm
  have hrun := vx_runSW (p := p) (l := l) (e := e) (R := room_1) (s := s) (m := m) (args := args) (below := below) (meth := meth) (c := c) (g := F0 m pc ls (.ref o :: .ref (E.1 0 0) :: st)) (As := [.ref (E.1 0 0), .ref o]) (rest := st) (Ts := []) (cells := cells) (slots := slots) (locs := locs) (H := H) ⟨hx, hb, hml, hown, fun w hw => by cases hw⟩ (con_run hst o cJ H.size f h hr) cw ⟨PcR.blind, fun U hU hW => ⟨rfl, by rw [hU], hT.warm hW, hk.warm hW, va_K.moved hW.alike hKJ, hA, by rw [hU]; exact ((hC.kept hS.2.1).narrow hAR).moved hW.alike, by rw [hU]; exact w1, by rw [hU]; exact w3, h2, hnc.moved hW.alike⟩⟩ rfl rfl hls rfl (lv_room hsum) d hce
  intro T hT9 X
  obtain ⟨v, st₀, t, T', L9, e0, X', hL9, e1, e2, ⟨k, f', q1, q2, q3, q4, q5⟩, stp⟩ := hrun T hT9 X
  cases q1
  obtain ⟨k1, k2, k3⟩ := vx_keep e0 e1 hS (fun q _ hq => hAR q hq) hAR hL9 q4
  obtain ⟨t2, a1, b1⟩ := kk k f' T'.heap (locs ++ L9) q5 ⟨by rw [e1]; exact q2, w2.kept (fun j q hj => by
    have hlt := (w2 j q hj).lt
    obtain ⟨c9, g1, rfl⟩ := cs_inv hj
    refine k2 _ hlt (fun z => ?_)
    rcases z with (⟨d9, g2, g3⟩ | g2) | g2
    · exact h1 d9 g2 c9 (List.mem_of_getElem? g1) g3.symm
    · have hlt' : E.1 c9.1 c9.2 < H.size := hlt
      omega
    · exact h3 c9 (List.mem_of_getElem? g1) g2), by rw [e1]; exact q3⟩ k3 T' rfl X'
  exact ⟨t2, stp t2 a1, b1⟩
end LWL
