/-! ===== the class's world, when it is made ===== -/
theorem k18 {k : Nat} (h : k < 18) : k = 0 ∨ k = 1 ∨ k = 2 ∨ k = 3 ∨ k = 4 ∨ k = 5 ∨ k = 6 ∨ k = 7 ∨ k = 8 ∨ k = 9 ∨ k = 10 ∨ k = 11 ∨ k = 12 ∨ k = 13 ∨ k = 14 ∨ k = 15 ∨ k = 16 ∨ k = 17 := by omega
theorem adr_g {k g : Nat} (hk : 20 ≤ k ∧ k ≤ 22) : adr k g = gb g + (k - 20) := by
  unfold adr
  rw [if_neg (by omega), if_neg (by omega), if_pos (by omega)]
theorem gb_1 {g : Nat} (h : g < 8) : gb g = 14 + 3 * g := by unfold gb; rw [if_pos h]
theorem gb_2 {g : Nat} (h : g < 8) : gb (8 + g) = 45 + 3 * g := by unfold gb; rw [if_neg (by omega), if_pos (by omega)]; omega
theorem K12_row {E : WE} {b g : Nat} (hg : g < 18) : (K12 E b)[gb g]? = some (.inr (3, [.ref (b + (gb g + 1)), .ref (b + (gb g + 2)), .int 1, .int 0])) ∧ (K12 E b)[gb g + 1]? = some (zI E 3) ∧ (K12 E b)[gb g + 2]? = some (zI E 48) := by
  by_cases h1 : g < 8
  · rw [gb_1 h1]
    obtain ⟨a1, a2, a3⟩ := K5_g E b g h1
    exact ⟨K12_8 (K8_5 a1 (by omega) (by omega)) (by omega), K12_8 (K8_5 a2 (by omega) (by omega)) (by omega), K12_8 (K8_5 a3 (by omega) (by omega)) (by omega)⟩
  · by_cases h2 : g < 16
    · obtain ⟨j, rfl⟩ : ∃ j, g = 8 + j := ⟨g - 8, by omega⟩
      rw [gb_2 (by omega)]
      obtain ⟨a1, a2, a3⟩ := K8_g E b j (by omega)
      exact ⟨K12_8 a1 (by omega), K12_8 a2 (by omega), K12_8 a3 (by omega)⟩
    · by_cases h3 : g = 16
      · subst h3
        rw [show gb 16 = 42 from rfl]
        obtain ⟨a1, a2, a3⟩ := bB9_g (E := E) (b := b) (K7_len E b)
        exact ⟨K12_8 (K8_lo a1 (by omega)) (by omega), K12_8 (K8_lo a2 (by omega)) (by omega), K12_8 (K8_lo a3 (by omega)) (by omega)⟩
      · have h4 : g = 17 := by omega
        subst h4
        exact K12_g E b
theorem made_C {E : WE} {b : Nat} {H : Heap} (hE : ∀ k i, E.1 k i = b + adr k i) (hP : va_P E.2.1 vwCl (wsb b (K12 E b)) H) : va_P E.2.1 vwCl (cs E lvC μI) H := by
  have lo : ∀ {m : Nat} {e : va_E}, (N5 E b)[m]? = some e → 12 ≠ m → 0 ≠ m → m < 38 → (K12 E b)[m]? = some e := fun h h1 h2 h3 => K12_8 (K8_5 (K5_lo h h1) h2 h3) h2
  refine cs_of (lvC_all (fun k hk => ?_) (fun g hg => ?_))
  · rcases k18 hk with rfl | rfl | rfl | rfl | rfl | rfl | rfl | rfl | rfl | rfl | rfl | rfl | rfl | rfl | rfl | rfl | rfl | rfl
    · refine at_of hP (K12_0 E b) (hE 0 0) ?_
      show Sum.inr (7, [Value.ref (E.1 1 0), .ref (E.1 11 0), .ref (E.1 14 0), .ref (E.1 20 17)]) = _
      rw [hE 1 0, hE 11 0, hE 14 0, hE 20 17]; rfl
    · refine at_of hP (lo (m := 1) rfl (by omega) (by omega) (by omega)) (hE 1 0) ?_
      show Sum.inr (5, [Value.ref (E.1 2 0), .ref (E.1 4 0), .ref (E.1 5 0), .ref (E.1 6 0), .ref (E.1 7 0), .ref (E.1 8 0), .ref (E.1 9 0), .ref (E.1 10 0), .int 0, .int 0, .int 0, .int 0, .int 0, .int 0]) = _
      rw [hE 2 0, hE 4 0, hE 5 0, hE 6 0, hE 7 0, hE 8 0, hE 9 0, hE 10 0]; rfl
    · refine at_of hP (lo (m := 2) rfl (by omega) (by omega) (by omega)) (hE 2 0) ?_
      show Sum.inr (6, [Value.ref (E.1 3 0), .int 0]) = _
      rw [hE 3 0]; rfl
    · exact at_of hP (lo (m := 3) rfl (by omega) (by omega) (by omega)) (hE 3 0) rfl
    · exact at_of hP (lo (m := 4) rfl (by omega) (by omega) (by omega)) (hE 4 0) rfl
    · exact at_of hP (lo (m := 5) rfl (by omega) (by omega) (by omega)) (hE 5 0) rfl
    · exact at_of hP (lo (m := 6) rfl (by omega) (by omega) (by omega)) (hE 6 0) rfl
    · exact at_of hP (lo (m := 7) rfl (by omega) (by omega) (by omega)) (hE 7 0) rfl
    · exact at_of hP (lo (m := 8) rfl (by omega) (by omega) (by omega)) (hE 8 0) rfl
    · exact at_of hP (lo (m := 9) rfl (by omega) (by omega) (by omega)) (hE 9 0) rfl
    · exact at_of hP (lo (m := 10) rfl (by omega) (by omega) (by omega)) (hE 10 0) rfl
    · refine at_of hP (lo (m := 11) rfl (by omega) (by omega) (by omega)) (hE 11 0) ?_
      show Sum.inr (4, [Value.ref (E.1 12 0), .ref (E.1 13 0)]) = _
      rw [hE 12 0, hE 13 0]; rfl
    · refine at_arr hP (K12_8 (K8_5 (K5_arr E b) (by omega) (by omega)) (by omega)) (hE 12 0) (fun j hj => ?_)
      rw [K5_row E b j hj, hE 20 j, adr_g (by omega), gb_1 hj]
      rfl
    · exact at_of hP (lo (m := 13) rfl (by omega) (by omega) (by omega)) (hE 13 0) rfl
    · refine at_of hP (K12_8 (K8_lo (bB9_obj (K7_len E b) (K7_at E b)) (by omega)) (by omega)) (hE 14 0) ?_
      show Sum.inr (2, [Value.ref (E.1 15 0), .ref (E.1 16 0), .ref (E.1 17 0), .ref (E.1 20 16), .int 0, .int 0, .int 0]) = _
      rw [hE 15 0, hE 16 0, hE 17 0, hE 20 16]; rfl
    · refine at_arr hP (K12_8 (K8_arr E b) (by omega)) (hE 15 0) (fun j hj => ?_)
      show some (E.1 20 (nI (8 + j)).toNatClampNeg) = _
      rw [K8_row E b j hj, nI_clamp (by omega), hE 20 (8 + j), adr_g (by omega), gb_2 hj]
      rfl
    · exact at_of hP (K12_8 (K8_lo (bB9_lo (c3B_40 (K7_len E b)) (by omega)) (by omega)) (by omega)) (hE 16 0) rfl
    · exact at_of hP (K12_8 (K8_lo (bB9_lo (c3B_41 (K7_len E b)) (by omega)) (by omega)) (by omega)) (hE 17 0) rfl
  · obtain ⟨a1, a2, a3⟩ := K12_row (E := E) (b := b) hg
    have e0 : E.1 20 g = b + gb g := by rw [hE, adr_g (by omega)]; rfl
    have e1 : E.1 21 g = b + (gb g + 1) := by rw [hE, adr_g (by omega)]
    have e2 : E.1 22 g = b + (gb g + 2) := by rw [hE, adr_g (by omega)]
    refine ⟨at_of hP a1 e0 ?_, at_of hP a2 e1 rfl, at_of hP a3 e2 rfl⟩
    show Sum.inr (3, [Value.ref (E.1 21 g), .ref (E.1 22 g), .int 1, .int 0]) = _
    rw [e1, e2]
theorem adr_inj : ∀ i, i < 72 → ∀ j, j < 72 → adr (lvC.getD i (0, 0)).1 (lvC.getD i (0, 0)).2 = adr (lvC.getD j (0, 0)).1 (lvC.getD j (0, 0)).2 → i = j := by decide +kernel
theorem lvC_len : lvC.length = 72 := by decide
theorem AdC {E : WE} {b : Nat} (hE : ∀ k i, E.1 k i = b + adr k i) : AdOk E lvC := by
  intro i j c d hi hj e
  have h1 := (List.getElem?_eq_some_iff.mp hi).1
  have h2 := (List.getElem?_eq_some_iff.mp hj).1
  rw [lvC_len] at h1 h2
  refine adr_inj i h1 j h2 ?_
  have e1 : lvC.getD i (0, 0) = c := by rw [List.getD_eq_getElem?_getD, hi]; rfl
  have e2 : lvC.getD j (0, 0) = d := by rw [List.getD_eq_getElem?_getD, hj]; rfl
  rw [e1, e2]
  rw [hE, hE] at e
  omega
theorem adr_lt : ∀ c ∈ lvC, adr c.1 c.2 < 72 := by decide +kernel
def PcI (E : WE) (b : Nat) : Array Value → State → Prop := fun v U => v = #[.ref (b + 0)] ∧ NW E b [bCalc] U ∧ kTab E U ∧ Cst E (pB b) U U.heap
def QI (E : WE) (b : Nat) : Array Value → State → Outcome → State → Prop := fun _ st o t => o = .returned none ∧ t.heap.size = b + 72 ∧ va_P E.2.1 vwCl (cs E lvC μI) t.heap ∧ va_F (pB b) st t
theorem PcI.blind {E : WE} {b : Nat} : FrameBlind (PcI E b) := by
  intro v U g mk h
  obtain ⟨h0, h1, h2, h3⟩ := h
  obtain ⟨h4, h5⟩ := PcN.blind v U g mk (show PcN E b 0 [bCalc] v U from ⟨h0, h1⟩)
  exact ⟨h4, h5, kTab.same (s := U) (show (U.calling g mk v).vm = U.vm from rfl) h2, Cst.moved (Vm.Alike.refl U.vm) h3⟩
set_option maxHeartbeats 4000000 in
set_option maxRecDepth 100000 in
theorem con_Calc_init {l : Launch} {E : WE} {b : Nat} (hE : ∀ k i, E.1 k i = b + adr k i) : Met l yX7_init [Cond.code yX7_init cX7_init 1 none] (rmN 6 72 2700) (PcI E b) (QI E b) 72 2700 (pB b) := by
  refine Met.ofW (cc := cX7_init) (maxL := 1) (ret := none) (by decide) rfl ?_
  intro p e s m args below meth c s₁ B hml hv
  obtain ⟨rfl, ⟨hT, hKA, hK, hO, hz, hP⟩, -, -⟩ := hv
  have hl := lv_entry ([.ref (b + 0)]) (n := 1) (by show 1 ≤ 1; omega)
  show W p l e _ s m _ below meth c s.heap [] 0 0 _ (entryFrame m ([.ref (b + 0)] : List Value).toArray 1)
  rw [lg_entry_eq]
  generalize (lg_sl [.ref (b + 0)] ++ List.replicate (1 - (lg_sl [.ref (b + 0)]).length) Slot.unset).toArray = ls at hl ⊢
  have hown : s.vm.findClass RX7 = some m.cls := findClass_of_methodNamed B.named
  have C : NOk (p, e, rmN 6 72 2700, s, m, #[.ref (b + 0)], below, meth, c) l E b 1 72 2700 RX7 cX7_init 6 := ⟨B.exec, B.bytes, hml, hown, B.returns, B.notSynchronized, ((name_of_methodNamed B.named B.method).1).trans rfl, rfl, hT, hKA, hK, hO, by rw [hz]; omega⟩
  suffices hN : N (p, e, rmN 6 72 2700, s, m, #[.ref (b + 0)], below, meth, c) l E b 1 72 2700 (QI E b) 0 [(0, .ref (b + 0))] [] [bCalc] 0 0 from hN s.heap [] ls hz hP va_S.rf hl
  refine N_aload_n C 0 dX7_init_0 rfl 0 rfl ?_
  refine N_object C (List.mem_of_getElem? (i := 86) (by decide +kernel)) (Nat.le_of_ble_eq_true rfl) dX7_init_1 ?_
  refine N_aload_n C 0 dX7_init_4 rfl 0 rfl ?_
  refine N_new (ci := 5) C tyX5 [.null, .null, .null, .null, .null, .null, .null, .null, .int 0, .int 0, .int 0, .int 0, .int 0, .int 0] rfl inX5 tyX5_ok (List.mem_of_getElem? (i := 89) (by decide +kernel)) (List.mem_of_getElem? (i := 90) (by decide +kernel)) (List.mem_of_getElem? (i := 56) (by decide +kernel)) (fun j hj => by match j, hj with | 0, _ => rfl | 1, _ => rfl | 2, _ => rfl | 3, _ => rfl | 4, _ => rfl | 5, _ => rfl | 6, _ => rfl | 7, _ => rfl | 8, _ => rfl | 9, _ => rfl | 10, _ => rfl | 11, _ => rfl | 12, _ => rfl | 13, _ => rfl | n + 14, hj => omega) (by omega) (by omega) dX7_init_5 ?_
  refine N_dup C dX7_init_8 rfl ?_
  refine N_call C 1 (con_Stmt_init [bCalc, bStmt] 1 rfl) (Or.inr ⟨"RankCalc", (List.mem_of_getElem? (i := 91) (by decide +kernel))⟩) (List.mem_of_getElem? (i := 92) (by decide +kernel)) (List.mem_of_getElem? (i := 93) (by decide +kernel)) (List.mem_of_getElem? (i := 56) (by decide +kernel)) (by decide +kernel) (by decide +kernel) rfl (by decide) (by decide) (by omega) (by omega) (Nat.le_of_ble_eq_true rfl) dX7_init_9 ?_
  refine N_putF C 0 0 tyX7 (.object "RankCalc$Statement") rfl inX7 tyX7_ok nmX7 (sI_ne (e := bCalc) rfl (by omega)) (by decide) (List.mem_of_getElem? (i := 247) (by decide +kernel)) rfl rfl (by decide +kernel) rfl rfl (Nat.le_of_ble_eq_true rfl) dX7_init_12 ?_
  show N _ l E b 1 72 2700 (QI E b) 15 [(0, .ref (b + 0))] [] ((sI E b [bCalc, bStmt] 1).set 0 (oCalc (.ref (b + 1)) .null .null .null)) 10 1616
  rw [K3_eq]
  refine N_aload_n C 0 dX7_init_15 rfl 0 rfl ?_
  refine N_new (ci := 4) C tyX2 [.null, .null] rfl inX2 tyX2_ok (List.mem_of_getElem? (i := 165) (by decide +kernel)) (List.mem_of_getElem? (i := 166) (by decide +kernel)) (List.mem_of_getElem? (i := 58) (by decide +kernel)) (fun j hj => by match j, hj with | 0, _ => rfl | 1, _ => rfl | n + 2, hj => omega) (by omega) (by omega) dX7_init_16 ?_
  refine N_dup C dX7_init_19 rfl ?_
  refine N_call C 11 (con_Names_init (K3 E b ++ [bNames]) 11 (ap_new rfl)) (Or.inl (List.mem_of_getElem? (i := 167) (by decide +kernel))) (List.mem_of_getElem? (i := 168) (by decide +kernel)) (List.mem_of_getElem? (i := 169) (by decide +kernel)) (List.mem_of_getElem? (i := 58) (by decide +kernel)) (by decide +kernel) (by decide +kernel) rfl (by decide) (by decide) (by omega) (by omega) (Nat.le_of_ble_eq_true rfl) dX7_init_20 ?_
  rw [K5_eq]
  refine N_putF C 0 1 tyX7 (.object "RankCalc$Names") rfl inX7 tyX7_ok nmX7 (K5_lo (e := oCalc (.ref (b + 1)) .null .null .null) rfl (by omega)) (by decide) (List.mem_of_getElem? (i := 248) (by decide +kernel)) rfl rfl (by decide +kernel) rfl rfl (Nat.le_of_ble_eq_true rfl) dX7_init_23 ?_
  show N _ l E b 1 72 2700 (QI E b) 26 [(0, .ref (b + 0))] [] ((K5 E b).set 0 (oCalc (.ref (b + 1)) (.ref (b + 11)) .null .null)) 37 2074
  refine N_aload_n C 0 dX7_init_26 rfl 0 rfl ?_
  refine N_new (ci := 2) C tyX0 [.null, .null, .null, .null, .int 0, .int 0, .int 0] rfl inX0 tyX0_ok (List.mem_of_getElem? (i := 214) (by decide +kernel)) (List.mem_of_getElem? (i := 215) (by decide +kernel)) (List.mem_of_getElem? (i := 60) (by decide +kernel)) (fun j hj => by match j, hj with | 0, _ => rfl | 1, _ => rfl | 2, _ => rfl | 3, _ => rfl | 4, _ => rfl | 5, _ => rfl | 6, _ => rfl | n + 7, hj => omega) (by omega) (by omega) dX7_init_27 ?_
  rw [show ((K5 E b).set 0 (oCalc (.ref (b + 1)) (.ref (b + 11)) .null .null)).length = 38 by rw [List.length_set, K5_len]]
  show N _ l E b 1 72 2700 (QI E b) 30 [(0, .ref (b + 0))] [.ref (b + 38), .ref (b + 0)] (K7 E b) 38 2081
  refine N_dup C dX7_init_30 rfl ?_
  refine N_call C 38 (con_Bench_init (K7 E b) 38 (K7_at E b)) (Or.inl (List.mem_of_getElem? (i := 216) (by decide +kernel))) (List.mem_of_getElem? (i := 217) (by decide +kernel)) (List.mem_of_getElem? (i := 218) (by decide +kernel)) (List.mem_of_getElem? (i := 60) (by decide +kernel)) (by decide +kernel) (by decide +kernel) rfl (by decide) (by decide) (by omega) (by omega) (Nat.le_of_ble_eq_true rfl) dX7_init_31 ?_
  rw [K8_eq]
  refine N_putF C 0 2 tyX7 (.object "RankCalc$Bench") rfl inX7 tyX7_ok nmX7 (K8_0 E b) (by decide) (List.mem_of_getElem? (i := 249) (by decide +kernel)) rfl rfl (by decide +kernel) rfl rfl (Nat.le_of_ble_eq_true rfl) dX7_init_34 ?_
  show N _ l E b 1 72 2700 (QI E b) 37 [(0, .ref (b + 0))] [] (K9 E b) 68 2639
  refine N_aload_n C 0 dX7_init_37 rfl 0 rfl ?_
  refine N_new (ci := 3) C tyX1 [.null, .null, .int 0, .int 0] rfl inX1 tyX1_ok (List.mem_of_getElem? (i := 245) (by decide +kernel)) (List.mem_of_getElem? (i := 173) (by decide +kernel)) (List.mem_of_getElem? (i := 59) (by decide +kernel)) (fun j hj => by match j, hj with | 0, _ => rfl | 1, _ => rfl | 2, _ => rfl | 3, _ => rfl | n + 4, hj => omega) (by omega) (by omega) dX7_init_38 ?_
  rw [K9_len]
  refine N_dup C dX7_init_41 rfl ?_
  refine N_call C 69 (con_Grid_init (K9 E b ++ [bGrid]) 69 (ap_new (K9_len E b))) (Or.inr ⟨"RankCalc", (List.mem_of_getElem? (i := 246) (by decide +kernel))⟩) (List.mem_of_getElem? (i := 175) (by decide +kernel)) (List.mem_of_getElem? (i := 176) (by decide +kernel)) (List.mem_of_getElem? (i := 59) (by decide +kernel)) (by decide +kernel) (by decide +kernel) rfl (by decide) (by decide) (by omega) (by omega) (Nat.le_of_ble_eq_true rfl) dX7_init_42 ?_
  refine N_putF C 0 3 tyX7 (.object "RankCalc$Grid") rfl inX7 tyX7_ok nmX7 (g69_0 E b) (by decide) (List.mem_of_getElem? (i := 250) (by decide +kernel)) rfl rfl (by decide +kernel) rfl rfl (Nat.le_of_ble_eq_true rfl) dX7_init_45 ?_
  show N _ l E b 1 72 2700 (QI E b) 48 [(0, .ref (b + 0))] [] (K12 E b) 71 2694
  intro H locs ls hz hP hS hl
  refine W.widen (k := 72) (n := 2700) (by omega) (by omega) ?_
  exact W.vret B.exec B.bytes B.returns (fun t ht hW => ⟨rfl, by rw [ht, hz, K12_len], by rw [ht]; exact made_C hE hP, hS.F ht⟩) hS.2.2 dX7_init_48 B.notSynchronized
