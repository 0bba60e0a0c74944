/-! ===== the law, from its entry ===== -/
section LST
variable {p : Program} {l : Launch} {e : Env} {R : Room} {s : State} {m : MethodId} {args : Array Value} {below : List Frame} {meth : Method} {c : Code} {H : Heap} {locs : List Loc} {cells slots : Nat} {Q : State → Prop} {E : WE} {pc : Nat} {ls : Array Slot} {st : List Value} {cc : ByteArray} {own : String} {bb : Nat}
theorem W_new (hx : p.tables.exec = Jvm.exec) (hb : c.code = cc) (hown : s.vm.findClass own = some m.cls) (hT : Tab s) (hK : va_K E.2.1 vwCl (tysE E) s) {idx ci Nn : Nat} {Cn : String} {T : u_T} (ty : Nat → FieldType) (fs : List Value) (hcl : vwCl[ci]? = some (Cn, T, Nn)) (hin9 : ∀ w ∈ u_ws Cn T Nn, w ∈ lw_tbl) (hty : ∀ k, k < Nn → parseFieldDescriptor (T k).2.2.1 = some (ty k)) (h1 : Cond.classLink own idx Cn ∈ lw_tbl) (h2 : Cond.instantiable Cn Nn ∈ lw_tbl) (h3 : Cond.initialized Cn ∈ lw_tbl) (hfs : ∀ j, j < Nn → defaultValue (ty j) = vp_V fs j) (hk : cells + 1 ≤ R.cells) (hn : slots + Nn ≤ R.slots) (d : decode cc pc = .ok (.new idx, 3)) (hz : H.size = bb)
    (kk : ∀ H1 : Heap, H1.size = bb + 1 → va_P E.2.1 vwCl (wsb bb [.inr (ci, fs)]) H1 → (∀ q : Nat, q < bb → H1[q]? = H[q]?) → W p l e R s m args below meth c H1 locs (cells + 1) (slots + Nn) Q (F0 m (pc + 3) ls (.ref bb :: st))) : W p l e R s m args below meth c H locs cells slots Q (F0 m pc ls st) := by
  have hKn := hK.1 ci _ hcl
  refine W.newcK hx hb hown (hT.use h1 rfl) (hT.use h2 rfl) (hT.use h3 rfl) rfl d hk hn hKn.2.1 hz fun H1 kC hkC e1 z1 o1 => ?_
  refine kk H1 z1 (fun k x hx => ?_) o1
  have hz9 : k < 1 := (List.getElem?_eq_some_iff.mp hx).1
  rw [show k = 0 by omega] at hx
  cases hx
  exact ⟨_, hcl, (u_born ty (u_ws_use (a := args) hT hin9) (fun _ h => h) hKn hkC e1 hty).to hfs⟩
/-- a constructor without arguments is called -/
theorem W_ctor {y : MethodName} {cc' : ByteArray} {nL nL' mc ms rk idx a : Nat} {Pc : Array Value → State → Prop} {Qc : Array Value → State → Outcome → State → Prop} (hx : p.tables.exec = Jvm.exec) (hb : c.code = cc) (hml : c.maxLocals = nL) (hown : s.vm.findClass own = some m.cls) (hT : Tab s) (hS : va_S (fun q => s.heap.size ≤ q) s.heap H locs) (hbb : s.heap.size ≤ bb) (hls : ls.size = nL)
    (hM : Met l y [Cond.code y cc' nL' none] (rmN rk mc ms) Pc Qc mc ms (pB bb)) (hbl : FrameBlind Pc) (hpre : ∀ U : State, U.heap = H → s.WarmedH U.vm → Pc #[.ref a] U) (hQF : ∀ st0 oc t, Qc #[.ref a] st0 oc t → oc = .returned none ∧ va_F (pB bb) st0 t)
    (h1 : Cond.instanceMethod y ∈ lw_tbl) (h2 : Cond.code y cc' nL' none ∈ lw_tbl) (h3 : Cond.initialized y.cls ∈ lw_tbl) (h4 : Cond.methodLink own idx y ∈ lw_tbl) (hy : y.cls ≠ "java/lang/invoke/MethodHandle" ∧ y.cls ≠ "java/lang/invoke/VarHandle") (hd : (parseMethodDescriptor y.desc).map (fun d => d.parameters.length) = some 0) (hnm : y.name = "<init>") (hfr : rk + 3 ≤ R.frames) (hlo : 8 + (nL' + 11) + (40 * rk + 40) ≤ R.locals) (hce : cells + mc ≤ R.cells ∧ slots + ms ≤ R.slots) (hsum : (st.map fun v => v.category).sum ≤ 8) (d : decode cc pc = .ok (.invokespecial idx, 3))
    (kk : ∀ (st0 t : State) (H1 : Heap) (locs1 : List Loc), st0.heap = H → H1 = t.heap → Qc #[.ref a] st0 (.returned none) t → va_S (fun q => s.heap.size ≤ q) s.heap H1 locs1 → (∀ q : Nat, q < H.size → q < bb → H1[q]? = H[q]?) → W p l e R s m args below meth c H1 locs1 (cells + mc) (slots + ms) Q (F0 m (pc + 3) ls st)) : W p l e R s m args below meth c H locs cells slots Q (F0 m pc ls (.ref a :: st)) := by
  have hcond : ∀ w ∈ [Cond.code y cc' nL' none], ∀ (a' : Array Value) (U : State), s.WarmedH U.vm → w.before a' U = true := by
    intro w hw a' U hW
    rcases List.mem_cons.mp hw with rfl | hw
    · exact (hT.warm hW).use h2 rfl
    · cases hw
  have hlen : ∀ sig, parseMethodDescriptor y.desc = some sig → 0 = sig.parameters.length := by
    intro sig h
    rw [h] at hd
    exact (Option.some.inj hd).symm
  have hrun := va_runI (p := p) (l := l) (e := e) (R := R) (s := s) (m := m) (args := args) (below := below) (meth := meth) (c := c) (cells := cells) (slots := slots) (locs := locs) (H := H) (g := F0 m pc ls (.ref a :: st)) (rest := st) (b := a) (Ts := []) (As := []) ⟨hx, hb, hml, hown, fun w hw => by cases hw⟩ hM ⟨⟨rfl, rfl, by show rk + 2 + 1 ≤ R.frames; omega, hlo, hcond, List.mem_cons_self, hT.use h2 rfl, hT.use h3 rfl, hy, hlen, hT.use h4 rfl⟩, hnm, hT.use h1 rfl⟩ ⟨hbl, hpre⟩ rfl rfl hls rfl (lv_room hsum) d hce
  intro T9 hT9 X9
  obtain ⟨v, st0, t, T', L9, g0, X', hL, e1, e2, hq, stp⟩ := hrun T9 hT9 X9
  obtain ⟨q1, q4⟩ := hQF _ _ _ hq
  cases q1
  obtain ⟨k1, k2, k3⟩ := vx_keep g0 e1 hS (fun q _ h => Nat.le_trans hbb h) (fun q h => Nat.le_trans hbb h) hL q4
  obtain ⟨t2, a1, b1⟩ := kk st0 t T'.heap (locs ++ L9) g0 e1 hq k3 (fun q h1 h2 => k2 q h1 (Nat.not_le.mpr h2)) T' rfl X'
  exact ⟨t2, stp t2 a1, b1⟩
end LST
theorem w_nC1 : Cond.classLink RL 8 RX7 ∈ lw_tbl := List.mem_of_getElem? (i := 81) (by decide +kernel)
theorem w_nC2 : Cond.instantiable RX7 4 ∈ lw_tbl := List.mem_of_getElem? (i := 82) (by decide +kernel)
theorem w_nC3 : Cond.initialized RX7 ∈ lw_tbl := List.mem_of_getElem? (i := 55) (by decide +kernel)
theorem w_nC4 : Cond.instanceMethod yX7_init ∈ lw_tbl := List.mem_of_getElem? (i := 84) (by decide +kernel)
theorem w_nC5 : Cond.code yX7_init cX7_init 1 none ∈ lw_tbl := List.mem_of_getElem? (i := 85) (by decide +kernel)
theorem w_nM1 : Cond.classLink RL 26 RX8 ∈ lw_tbl := List.mem_of_getElem? (i := 828) (by decide +kernel)
theorem w_nM2 : Cond.instantiable RX8 19 ∈ lw_tbl := List.mem_of_getElem? (i := 829) (by decide +kernel)
theorem w_nM3 : Cond.initialized RX8 ∈ lw_tbl := List.mem_of_getElem? (i := 61) (by decide +kernel)
theorem w_nM4 : Cond.instanceMethod yX8_init ∈ lw_tbl := List.mem_of_getElem? (i := 831) (by decide +kernel)
theorem w_nM5 : Cond.code yX8_init cX8_init 2 none ∈ lw_tbl := List.mem_of_getElem? (i := 832) (by decide +kernel)
theorem w_ac : ∀ ty ∈ [FieldType.int, .char, .boolean, .long], Cond.arrayClass ty ∈ lw_tbl := by decide +kernel
theorem w_ao : Cond.arrayOver (.object "RankCalc$Grid") ∈ lw_tbl := List.mem_of_getElem? (i := 172) (by decide +kernel)
set_option maxHeartbeats 4000000 in
set_option maxRecDepth 100000 in
theorem whole_start {p : Program} {e : Env} {s : State} {m : MethodId} {below : List Frame} {meth : Method} {c : Code} (l : Launch) (hst : l.stackTraces = false) {b L : Nat} {xs : Nat → Int32} (hL : L ≤ 1024) (C0 : lw_At p s m meth c b L xs) : W p l e room_1 s m #[Value.ref b] below meth c s.heap [] 0 0 (lw_Z below #[Value.ref b] s) (entryFrame m ([Value.ref b] : List Value).toArray 7) := by
  obtain ⟨hx, hb, hr, hml, hown, hts, hX, hbl, hlocks, hgv⟩ := id C0
  have hT : Tab s := fun w hw ho => va_tabs ho rfl (hts w hw)
  have hKA : KA s := fun ty hty => hts _ (w_ac ty hty)
  have hO : va_AO "RankCalc$Grid" s := va_AO.of (hts _ w_ao)
  obtain ⟨dC, dI, hKn⟩ := kn_all hts
  obtain ⟨cI, hI1, hI2⟩ := arr_known (hts _ (w_ac .int (by decide)))
  obtain ⟨cC, hC1, hC2⟩ := arr_known (hts _ (w_ac .char (by decide)))
  obtain ⟨cZ, hZ1, hZ2⟩ := arr_known (hts _ (w_ac .boolean (by decide)))
  obtain ⟨cG, hG1, hG2⟩ := grid_known (hts _ w_ao)
  obtain ⟨adK, adV, hcst⟩ := cst_all hts hgv
  have hnc : NCs s := nc_all hgv
  obtain ⟨E, hE, hK, hC, hk⟩ : ∃ E : WE, (∀ k i, E.1 k i = s.heap.size + adr k i) ∧ va_K E.2.1 vwCl (tysE E) s ∧ Cst E (fun q => s.heap.size ≤ q) s s.heap ∧ kTab E s := by
    have h9 := hcst (fun k i => s.heap.size + adr k i, (dC, dI), fun k => if k = 0 then cI else if k = 1 then cC else if k = 2 then cZ else cG, adK, adV) rfl
    refine ⟨_, fun k i => rfl, ⟨hKn, fun k q hq => ?_⟩, h9.1, h9.2⟩
    match k, hq with
    | 0, hq => cases hq; exact ⟨hI1, hI2⟩
    | 1, hq => cases hq; exact ⟨hC1, hC2⟩
    | 2, hq => cases hq; exact ⟨hZ1, hZ2⟩
    | 3, hq => cases hq; exact ⟨hG1, hG2⟩
    | k + 4, hq => simp at hq
  have hEM : ∀ k, 30 ≤ k → E.1 k 0 = s.heap.size + 72 + (k - 30) := fun k hk9 => by rw [hE, adr_M hk9]; omega
  have hLC : LWd E lvC (fun q => s.heap.size ≤ q) s := ⟨hT, hk, hK, AdC hE, hC, fun c _ => by show _ ≤ E.1 c.1 c.2; rw [hE]; exact Nat.le_add_right _ _, fun q hq => hq⟩
  have hLM : LWd E lvM (fun q => s.heap.size ≤ q) s := ⟨hT, hk, hK, AdM hEM, hC, fun c _ => by show _ ≤ E.1 c.1 c.2; rw [hE]; exact Nat.le_add_right _ _, fun q hq => hq⟩
  have hCM : ∀ c ∈ lvC, ∀ d ∈ lvM, E.1 c.1 c.2 ≠ E.1 d.1 d.2 := by
    intro c hc
    refine lvM_all (fun k h1 h2 => ?_)
    have := adr_lt c hc
    show E.1 c.1 c.2 ≠ E.1 k 0
    rw [hE, hEM k h1]
    omega
  have hl := lv_entry ([.ref b]) (n := 7) (Nat.le_of_ble_eq_true rfl)
  rw [lg_entry_eq]
  generalize (lg_sl ([.ref b]) ++ List.replicate (7 - (lg_sl ([.ref b])).length) Slot.unset).toArray = ls at hl ⊢
  have hl : lv_has ls 7 [(0, .ref b)] := hl
  have hS : va_S (fun q => s.heap.size ≤ q) s.heap s.heap [] := va_S.rf
  refine W_new (own := RL) (E := E) (ci := 7) hx hb hown hT hK tyX7 [.null, .null, .null, .null] rfl inX7 tyX7_ok w_nC1 w_nC2 w_nC3 (fun j hj => by match j, hj with | 0, _ => rfl | 1, _ => rfl | 2, _ => rfl | 3, _ => rfl | n + 4, hj => omega) (by decide) (by decide) dL_law_0 (rfl : s.heap.size = s.heap.size) (fun H1 z1 hP1 o1 => ?_)
  have hS1 : va_S (fun q => s.heap.size ≤ q) s.heap H1 [] := ⟨by rw [z1]; omega, fun q h1 _ => o1 q h1, fun q hq => by cases hq⟩
  refine lv_dup hx hb dL_law_3 rfl ?_
  refine W_ctor (own := RL) (a := s.heap.size) (bb := s.heap.size) (rk := 6) (mc := 72) (ms := 2700) hx hb hml hown hT hS1 (Nat.le_refl _) hl.1 (con_Calc_init hE) PcI.blind (fun U hU hW => ⟨rfl, ⟨hT.warm hW, hKA.warm hW, va_K.moved hW.alike hK, va_AO.moved hW.alike hO, by rw [hU, z1]; rfl, by rw [hU]; exact hP1⟩, hk.warm hW, by rw [hU]; exact (hC.kept hS1.2.1).moved hW.alike⟩) (fun st0 oc t hq => ⟨hq.1, hq.2.2.2⟩) w_nC4 w_nC5 w_nC3 kl_X7_init (by decide +kernel) (by decide +kernel) rfl (by decide) (by decide) ⟨by decide, by decide⟩ (Nat.le_of_ble_eq_true rfl) dL_law_4 (fun st0 t H2 locs2 g0 e2 hq hS2 _ => ?_)
  obtain ⟨-, z2, hP2, -⟩ := hq
  rw [← e2] at z2 hP2
  refine lv_astore_n (lv' := [(1, .ref s.heap.size), (0, .ref b)]) hx hb dL_law_7 rfl hl (by decide) rfl (fun ls hl => ?_)
  refine W_new (own := RL) (E := E) (ci := 8) hx hb hown hT hK tyX8 [.null, .int 0, .null, .null, .null, .null, .null, .null, .null, .int 0, .int 0, .int 0, .null, .null, .null, .null, .int 0, .int 0, .int 0] rfl inX8 tyX8_ok w_nM1 w_nM2 w_nM3 (fun j hj => by match j, hj with | 0, _ => rfl | 1, _ => rfl | 2, _ => rfl | 3, _ => rfl | 4, _ => rfl | 5, _ => rfl | 6, _ => rfl | 7, _ => rfl | 8, _ => rfl | 9, _ => rfl | 10, _ => rfl | 11, _ => rfl | 12, _ => rfl | 13, _ => rfl | 14, _ => rfl | 15, _ => rfl | 16, _ => rfl | 17, _ => rfl | 18, _ => rfl | n + 19, hj => omega) (by decide) (by decide) dL_law_8 z2 (fun H3 z3 hP3 o3 => ?_)
  have hcl : ∀ c ∈ lvC, E.1 c.1 c.2 < s.heap.size + 72 := fun c hc => by rw [hE]; have := adr_lt c hc; omega
  have hPC3 : va_P E.2.1 vwCl (cs E lvC μI) H3 := hP2.kept (fun k q hk9 => by
    obtain ⟨c9, h1, rfl⟩ := cs_inv hk9
    exact o3 _ (hcl c9 (List.mem_of_getElem? h1)))
  have hS3 : va_S (fun q => s.heap.size ≤ q) s.heap H3 locs2 := ⟨by rw [z3]; omega, fun q h1 h2 => (o3 q (by omega)).trans (hS2.2.1 q h1 h2), hS2.2.2⟩
  refine lv_dup hx hb dL_law_11 rfl ?_
  refine W_ctor (own := RL) (a := s.heap.size + 72) (bb := s.heap.size + 72) (rk := 1) (mc := 12) (ms := 2017) hx hb hml hown hT hS3 (by omega) hl.1 (con_Model_init (l := l) (E := E) (b := s.heap.size + 72)) PcN.blind (fun U hU hW => ⟨rfl, hT.warm hW, hKA.warm hW, va_K.moved hW.alike hK, va_AO.moved hW.alike hO, by rw [hU, z3]; rfl, by rw [hU]; exact hP3⟩) (fun st0 oc t hq => ⟨hq.1, hq.2.2.2⟩) w_nM4 w_nM5 w_nM3 kl_X8_init (by decide +kernel) (by decide +kernel) rfl (by decide) (by decide) ⟨by decide, by decide⟩ (Nat.le_of_ble_eq_true rfl) dL_law_12 (fun st0 t H4 locs4 g0 e4 hq hS4 hk4 => ?_)
  obtain ⟨-, z4, hP4, -⟩ := hq
  rw [← e4] at z4 hP4
  have hPM4 := made_M hEM hP4
  have hPC4 : va_P E.2.1 vwCl (cs E lvC μI) H4 := hPC3.kept (fun k q hk9 => by
    have hlt := (hPC3 k q hk9).lt
    obtain ⟨c9, h1, rfl⟩ := cs_inv hk9
    exact hk4 _ hlt (hcl c9 (List.mem_of_getElem? h1)))
  refine lv_astore_n (lv' := [(2, .ref (s.heap.size + 72)), (1, .ref s.heap.size), (0, .ref b)]) hx hb dL_law_15 rfl hl (by decide) rfl (fun ls hl => ?_)
  refine lv_iconst (v := 1) hx hb dL_law_16 (by decide) ?_
  have hD4 : va_D (fun q => s.heap.size ≤ q) (cs E lvC μI ++ cs E lvM μM0) := by
    refine va_D.app ((cs_D (sz := 0) (AdC hE)).weaken (fun k q hk9 _ => ?_)) ((cs_D (sz := 0) (AdM hEM)).weaken (fun k q hk9 _ => ?_)) (fun i j p q hi hj => ?_)
    · obtain ⟨c9, h1, rfl⟩ := cs_inv hk9
      exact hLC.2.2.2.2.2.1 c9 (List.mem_of_getElem? h1)
    · obtain ⟨c9, h1, rfl⟩ := cs_inv hk9
      exact hLM.2.2.2.2.2.1 c9 (List.mem_of_getElem? h1)
    · obtain ⟨c9, h1, rfl⟩ := cs_inv hi
      obtain ⟨d9, h2, rfl⟩ := cs_inv hj
      exact hCM c9 (List.mem_of_getElem? h1) d9 (List.mem_of_getElem? h2)
  refine va_newa (atype := .long) (ty := .long) (a0 := (1, .inr (.inl fun _ => 0))) (N' := 1) hx hb (hts _ (w_ac .long (by decide))) rfl hK (hPC4.app hPM4) hD4 hS4 (fun q hq => hq) (fun _ => rfl) (by decide) (by decide) (by decide) (by decide) (by decide) dL_law_17 (fun o cJ H5 hK5 hP5 hD5 hS5 => ?_)
  have hoA : s.heap.size ≤ o := hD5.2 (cs E lvC μI ++ cs E lvM μM0).length (o, _) app_get
  have hne : ∀ (k : Nat) (q : Nat × va_E), (cs E lvC μI ++ cs E lvM μM0)[k]? = some q → q.1 ≠ o := by
    intro k q hk9 e9
    have h1 := (List.getElem?_eq_some_iff.mp hk9).1
    have h2 := hD5.1 k (cs E lvC μI ++ cs E lvM μM0).length q (o, _) (by rw [List.getElem?_append_left h1]; exact hk9) app_get e9
    omega
  have B : LB l E cJ o s := by
    refine ⟨hst, hLC, hLM, hK5, hnc, hCM, fun c hc => ?_, fun c hc => ?_, hoA⟩
    · obtain ⟨k9, h9⟩ := List.getElem?_of_mem hc
      have h8 := cs_at (E := E) (μ := μI) h9
      exact hne k9 _ (by rw [List.getElem?_append_left (List.getElem?_eq_some_iff.mp h8).1]; exact h8)
    · obtain ⟨k9, h9⟩ := List.getElem?_of_mem hc
      have h8 := cs_at (E := E) (μ := μM0) h9
      exact hne ((cs E lvC μI).length + k9) _ (by rw [List.getElem?_append_right (Nat.le_add_right _ _), Nat.add_sub_cancel_left]; exact h8)
  have hW : WL E cJ o μI μM0 (fun _ => 0) H5 := ⟨hP5.left.left, hP5.left.right, hP5.right⟩
  refine lv_astore_n (lv' := [(3, .ref o), (2, .ref (s.heap.size + 72)), (1, .ref s.heap.size), (0, .ref b)]) hx hb dL_law_19 rfl hl (by decide) rfl (fun ls hl => ?_)
  refine lv_iconst (v := 0) hx hb dL_law_20 (by decide) ?_
  refine lv_istore (lv' := [(4, .int 0), (3, .ref o), (2, .ref (s.heap.size + 72)), (1, .ref s.heap.size), (0, .ref b)]) hx hb dL_law_21 hl (by decide) rfl (fun ls hl => ?_)
  have e0 : E.1 0 0 = s.heap.size := hE 0 0
  have e30 : E.1 30 0 = s.heap.size + 72 := hEM 30 (by omega)
  have hgo := law_loop (p := p) (e := e) (below := below) C0 B hL L 0 (by omega) (by omega) μI μM0 (fun _ => 0) H5 locs4 ls inv_0 hW hS5 (by
    show lv_has ls 7 [(0, .ref b), (1, .ref (E.1 0 0)), (2, .ref (E.1 30 0)), (3, .ref o), (4, .int (nI 0))]
    rw [e0, e30]
    exact lv_sub hl [4, 3, 2, 1, 0] rfl)
  exact hgo
