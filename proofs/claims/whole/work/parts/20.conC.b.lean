set_option maxHeartbeats 4000000 in
set_option maxRecDepth 100000 in
theorem lp_X4_turnRows_15 {Y : Mc} {l : Launch} {E : WE} (hl : l.stackTraces = false) (C : Ok Y l E lvC 5 RX4 cX4_turnRows none 3) {κ : Mem → Option (Except Nat Unit × Mem)} (g_5 : Nat) (g_6 : Nat) (c2_7 : Int32) (hg_5 : g_5 < 18) (hg_6 : g_6 < 18) (hκ : ∀  (μ_15 : Mem) x, κ  μ_15 = some x → V Y l E lvC 5 (rBu x) 63 [] [] μ_15) : ∀ (n : Nat) (a3_8 : Int32) (a4_9 : Int32) (μ_10 : Mem) {x}, f_X4_turnRows_L15 κ g_5 g_6 c2_7 n a3_8 a4_9 μ_10 = some x → V Y l E lvC 5 (rBu x) 15 [(0, .ref (E.1 20 g_5)), (1, .ref (E.1 20 g_6)), (2, .int c2_7), (3, .int a3_8), (4, .int a4_9)] [] μ_10 := by
  intro n
  induction n with
  | zero =>
    intro a3_8 a4_9 μ_10 x h
    simp [f_X4_turnRows_L15] at h
  | succ n ih =>
    intro a3_8 a4_9 μ_10 x h
    rw [f_X4_turnRows_L15] at h
    refine V_iload C dX4_turnRows_15 4 rfl ?_
    refine V_aload_n C 1 dX4_turnRows_17 rfl 1 rfl ?_
    refine V_getf (v := .int (μ_10 20 g_6 3)) C 20 g_6 (gr_0in g_6 hg_6) fl_RX4_18 rfl rfl dX4_turnRows_18 ?_
    refine V_icmp_ge C (tgt := 63) dX4_turnRows_21 (by decide) (fun hc => ?_) (fun hc => ?_)
    · replace h := (if_pos hc).symm.trans h
      refine V_sub (LP := []) [] rfl ?_
      exact hκ _ _ h
    · replace h := (if_neg hc).symm.trans h
      refine V_iload C dX4_turnRows_24 4 rfl ?_
      refine V_iload_n C 3 dX4_turnRows_26 rfl 3 rfl ?_
      refine V_iload_n C 2 dX4_turnRows_27 rfl 2 rfl ?_
      refine V_iadd C dX4_turnRows_28 ?_
      obtain ⟨j_12, hj_12, h⟩ := jn_ex h
      have J_12 : ∀ (a3_11 : Int32) x, j_12 a3_11 = some x → V Y l E lvC 5 (rBu x) 35 [(0, .ref (E.1 20 g_5)), (1, .ref (E.1 20 g_6)), (2, .int c2_7), (3, .int a3_11), (4, .int a4_9)] [] μ_10 := by
        intro a3_11  x h
        rw [hj_12] at h; clear hj_12
        refine V_aload_n C 1 dX4_turnRows_35 rfl 1 rfl ?_
        refine V_getf (v := .ref (E.1 22 g_6)) C 20 g_6 (gr_0in g_6 hg_6) fl_RX4_28 rfl rfl dX4_turnRows_36 ?_
        refine V_iload C dX4_turnRows_39 4 rfl ?_
        refine V_aload_n C 0 dX4_turnRows_41 rfl 0 rfl ?_
        refine V_getf (v := .ref (E.1 22 g_5)) C 20 g_5 (gr_0in g_5 hg_5) fl_RX4_28 rfl rfl dX4_turnRows_42 ?_
        refine V_iload_n C 3 dX4_turnRows_45 rfl 3 rfl ?_
        refine V_iload_n C 2 dX4_turnRows_46 rfl 2 rfl ?_
        refine V_iadd C dX4_turnRows_47 ?_
        refine V_iconst C (1 : Int32) dX4_turnRows_48 (by decide) ?_
        refine V_isub C dX4_turnRows_49 ?_
        refine V_iload C dX4_turnRows_50 4 rfl ?_
        refine V_iload_n C 3 dX4_turnRows_52 rfl 3 rfl ?_
        refine V_isub C dX4_turnRows_53 ?_
        refine V_isub C dX4_turnRows_54 ?_
        obtain ⟨hi9, h⟩ := gd_inv h
        refine V_iald C 22 g_5 (gr_2in g_5 hg_5) (fun _ => rfl) (inb_in hi9) dX4_turnRows_55 ?_
        obtain ⟨hi9, h⟩ := gd_inv h
        refine V_iast C 22 g_6 (gr_2in g_6 hg_6) (fun _ => rfl) (inb_in hi9) dX4_turnRows_56 ?_
        refine V_memn (fun μ_13 hn9 => ?_)
        replace h := lt_eq hn9 h; clear hn9
        obtain ⟨x_14, hn9⟩ : ∃ z : Int32, z = a4_9 + (1 : Int32) := ⟨_, rfl⟩
        replace h := lt_eq hn9 h
        refine V_iinc (L' := [(0, .ref (E.1 20 g_5)), (1, .ref (E.1 20 g_6)), (2, .int c2_7), (3, .int a3_11), (4, .int x_14)]) C x_14 dX4_turnRows_57 4 rfl (by rw [hn9]; exact congrArg (a4_9 + ·) (by decide)) (by decide) [1, 2, 3, 4, 0] rfl ?_
        clear hn9
        refine V_goto C (tgt := 15) dX4_turnRows_60 (by decide) ?_
        refine V_sub (LP := [(0, .ref (E.1 20 g_5)), (1, .ref (E.1 20 g_6)), (2, .int c2_7), (3, .int a3_11), (4, .int x_14)]) [0, 1, 2, 3, 4] rfl ?_
        exact ih _ _ _ h
      clear hj_12
      refine V_icmp_ne C (tgt := 35) dX4_turnRows_29 (by decide) (fun hc => ?_) (fun hc => ?_)
      · replace h := (if_neg hc).symm.trans h
        refine V_sub (LP := [(0, .ref (E.1 20 g_5)), (1, .ref (E.1 20 g_6)), (2, .int c2_7), (3, .int a3_8), (4, .int a4_9)]) [0, 1, 2, 3, 4] rfl ?_
        exact J_12 _ _ h
      · replace h := (if_pos hc).symm.trans h
        refine V_iload C dX4_turnRows_32 4 rfl ?_
        refine V_istore_n (L' := [(0, .ref (E.1 20 g_5)), (1, .ref (E.1 20 g_6)), (2, .int c2_7), (3, .int a4_9), (4, .int a4_9)]) C 3 dX4_turnRows_34 rfl (by decide) [1, 2, 3, 0, 4] rfl ?_
        refine V_sub (LP := [(0, .ref (E.1 20 g_5)), (1, .ref (E.1 20 g_6)), (2, .int c2_7), (3, .int a4_9), (4, .int a4_9)]) [0, 1, 2, 3, 4] rfl ?_
        exact J_12 _ _ h
set_option maxHeartbeats 4000000 in
set_option maxRecDepth 100000 in
theorem con_X4_turnRows {l : Launch} {E : WE} (hl : l.stackTraces = false) (g0 : Nat) (g1 : Nat) (hg0 : g0 < 18) (hg1 : g1 < 18) {μ : Mem} {x} (h : f_X4_turnRows g0 g1 μ = some x) : Con l E lvC yX4_turnRows cX4_turnRows 5 none 3 [.ref (E.1 20 g0), .ref (E.1 20 g1)] μ (rBu x) := by
  refine Con.of (by decide) hl (Nat.le_of_ble_eq_true rfl) (fun Y C => ?_)
  replace C : Ok Y l E lvC 5 RX4 cX4_turnRows none 3 := C
  show V Y l E lvC 5 (rBu x) 0 [(0, .ref (E.1 20 g0)), (1, .ref (E.1 20 g1))] [] μ
  unfold f_X4_turnRows at h
  refine V_aload_n C 0 dX4_turnRows_0 rfl 0 rfl ?_
  obtain ⟨v_1, hv, h⟩ := bP_inv h
  refine V_callVo C 20 g0 (gr_0in g0 hg0) (some (.int v_1)) (con_X1_rowLength hl g0 hg0 hv) tb_X1_rowLength lk_RX4_69 rfl rfl rfl (by decide) (by decide) rfl (Nat.le_of_ble_eq_true rfl) rfl dX4_turnRows_1 rfl ?_
  clear hv
  refine V_istore_n (L' := [(0, .ref (E.1 20 g0)), (1, .ref (E.1 20 g1)), (2, .int v_1)]) C 2 dX4_turnRows_4 rfl (by decide) [1, 2, 0] rfl ?_
  refine V_aload_n C 1 dX4_turnRows_5 rfl 1 rfl ?_
  refine V_aload_n C 0 dX4_turnRows_6 rfl 0 rfl ?_
  rcases bB_inv h with ⟨e_4, μ_3, hv, h⟩ | ⟨u_2, μ_3, hv, h⟩
  · cases h; exact V_callVe C 20 g1 (gr_0in g1 hg1) e_4 (con_X1_shapeLike hl g1 g0 hg1 hg0 hv) tb_X1_shapeLike lk_RX4_73 rfl rfl rfl (by decide) (by decide) rfl (Nat.le_of_ble_eq_true rfl) rfl dX4_turnRows_7 rfl
  refine V_callVo C 20 g1 (gr_0in g1 hg1) none (con_X1_shapeLike hl g1 g0 hg1 hg0 hv) tb_X1_shapeLike lk_RX4_73 rfl rfl rfl (by decide) (by decide) rfl (Nat.le_of_ble_eq_true rfl) rfl dX4_turnRows_7 rfl ?_
  clear hv
  refine V_iconst C (0 : Int32) dX4_turnRows_10 (by decide) ?_
  refine V_istore_n (L' := [(0, .ref (E.1 20 g0)), (1, .ref (E.1 20 g1)), (2, .int v_1), (3, .int (0 : Int32))]) C 3 dX4_turnRows_11 rfl (by decide) [1, 2, 3, 0] rfl ?_
  refine V_iconst C (0 : Int32) dX4_turnRows_12 (by decide) ?_
  refine V_istore (L' := [(0, .ref (E.1 20 g0)), (1, .ref (E.1 20 g1)), (2, .int v_1), (3, .int (0 : Int32)), (4, .int (0 : Int32))]) C dX4_turnRows_13 (by decide) [1, 2, 3, 4, 0] rfl ?_
  refine V_sub (LP := [(0, .ref (E.1 20 g0)), (1, .ref (E.1 20 g1)), (2, .int v_1), (3, .int (0 : Int32)), (4, .int (0 : Int32))]) [0, 1, 2, 3, 4] rfl ?_
  refine lp_X4_turnRows_15 hl C g0 g1 v_1 hg0 hg1 (fun μ_16 x h => ?_) 1000 _ _ _ h
  cases h
  exact V_return C rfl rfl dX4_turnRows_63
set_option maxHeartbeats 4000000 in
set_option maxRecDepth 100000 in
theorem con_X4_ofOne {l : Launch} {E : WE} (hl : l.stackTraces = false) (a0 : Int32) (g1 : Nat) (g2 : Nat) (hg1 : g1 < 18) (hg2 : g2 < 18) {μ : Mem} {x} (h : f_X4_ofOne a0 g1 g2 μ = some x) : Con l E lvC yX4_ofOne cX4_ofOne 3 none 4 [.int a0, .ref (E.1 20 g1), .ref (E.1 20 g2)] μ (rBu x) := by
  refine Con.of (by decide) hl (Nat.le_of_ble_eq_true rfl) (fun Y C => ?_)
  replace C : Ok Y l E lvC 3 RX4 cX4_ofOne none 4 := C
  show V Y l E lvC 3 (rBu x) 0 [(0, .int a0), (1, .ref (E.1 20 g1)), (2, .ref (E.1 20 g2))] [] μ
  unfold f_X4_ofOne at h
  refine V_iload_n C 0 dX4_ofOne_0 rfl 0 rfl ?_
  by_cases hk0 : a0 = (44 : Int32)
  · replace h := (if_pos hk0).symm.trans h
    refine V_lookup C (59) 60 dX4_ofOne_1 (by decide +kernel) (by rw [hk0]; decide +kernel) (by decide) ?_
    refine V_aload_n C 2 dX4_ofOne_60 rfl 2 rfl ?_
    refine V_aload_n C 1 dX4_ofOne_61 rfl 1 rfl ?_
    refine V_getf (v := .int (μ 20 g1 3)) C 20 g1 (gr_0in g1 hg1) fl_RX4_18 rfl rfl dX4_ofOne_62 ?_
    rcases bB_inv h with ⟨e_3, μ_2, hv, h⟩ | ⟨u_1, μ_2, hv, h⟩
    · cases h; exact V_callVe C 20 g2 (gr_0in g2 hg2) e_3 (con_X1_addAxis hl g2 (μ 20 g1 3) hg2 hv) tb_X1_addAxis lk_RX4_24 rfl rfl rfl (by decide) (by decide) rfl (Nat.le_of_ble_eq_true rfl) rfl dX4_ofOne_65 rfl
    refine V_callVo C 20 g2 (gr_0in g2 hg2) none (con_X1_addAxis hl g2 (μ 20 g1 3) hg2 hv) tb_X1_addAxis lk_RX4_24 rfl rfl rfl (by decide) (by decide) rfl (Nat.le_of_ble_eq_true rfl) rfl dX4_ofOne_65 rfl ?_
    clear hv
    refine V_aload_n C 1 dX4_ofOne_68 rfl 1 rfl ?_
    refine V_getf (v := .ref (E.1 22 g1)) C 20 g1 (gr_0in g1 hg1) fl_RX4_28 rfl rfl dX4_ofOne_69 ?_
    refine V_iconst C (0 : Int32) dX4_ofOne_72 (by decide) ?_
    refine V_aload_n C 2 dX4_ofOne_73 rfl 2 rfl ?_
    refine V_getf (v := .ref (E.1 22 g2)) C 20 g2 (gr_0in g2 hg2) fl_RX4_28 rfl rfl dX4_ofOne_74 ?_
    refine V_iconst C (0 : Int32) dX4_ofOne_77 (by decide) ?_
    refine V_aload_n C 1 dX4_ofOne_78 rfl 1 rfl ?_
    refine V_getf (v := .int (μ_2 20 g1 3)) C 20 g1 (gr_0in g1 hg1) fl_RX4_18 rfl rfl dX4_ofOne_79 ?_
    obtain ⟨hq9, h⟩ := gd_inv h
    obtain ⟨q1, q2, q3, q4, q5⟩ := cpok_g hq9
    refine V_copyi C 22 g1 22 g2 (gr_2in g1 hg1) (gr_2in g2 hg2) (fun _ => rfl) (fun _ => rfl) lk_RX4_32 w_cp1 w_cp2 w_cp3 q1 q2 q3 q4 q5 (Nat.le_of_ble_eq_true rfl) dX4_ofOne_82 ?_
    refine V_memn (fun μ_4 hn9 => ?_)
    replace h := lt_eq hn9 h; clear hn9
    refine V_goto C (tgt := 101) dX4_ofOne_85 (by decide) ?_
    cases h
    exact V_return C rfl rfl dX4_ofOne_101
  replace h := (if_neg hk0).symm.trans h
  by_cases hk1 : a0 = (105 : Int32)
  · replace h := (if_pos hk1).symm.trans h
    refine V_lookup C (43) 44 dX4_ofOne_1 (by decide +kernel) (by rw [hk1]; decide +kernel) (by decide) ?_
    refine V_aload_n C 1 dX4_ofOne_44 rfl 1 rfl ?_
    refine V_aload_n C 2 dX4_ofOne_45 rfl 2 rfl ?_
    rcases bB_inv h with ⟨e_7, μ_6, hv, h⟩ | ⟨u_5, μ_6, hv, h⟩
    · cases h; exact V_callSe C e_7 (con_X4_upTo hl g1 g2 hg1 hg2 hv) tb_X4_upTo lk_RX4_9 (by decide) (by decide) rfl (Nat.le_of_ble_eq_true rfl) rfl dX4_ofOne_46 rfl
    refine V_callSo C none (con_X4_upTo hl g1 g2 hg1 hg2 hv) tb_X4_upTo lk_RX4_9 (by decide) (by decide) rfl (Nat.le_of_ble_eq_true rfl) rfl dX4_ofOne_46 rfl ?_
    clear hv
    refine V_goto C (tgt := 101) dX4_ofOne_49 (by decide) ?_
    cases h
    exact V_return C rfl rfl dX4_ofOne_101
  replace h := (if_neg hk1).symm.trans h
  by_cases hk2 : a0 = (114 : Int32)
  · replace h := (if_pos hk2).symm.trans h
    refine V_lookup C (51) 52 dX4_ofOne_1 (by decide +kernel) (by rw [hk2]; decide +kernel) (by decide) ?_
    refine V_aload_n C 1 dX4_ofOne_52 rfl 1 rfl ?_
    refine V_aload_n C 2 dX4_ofOne_53 rfl 2 rfl ?_
    rcases bB_inv h with ⟨e_10, μ_9, hv, h⟩ | ⟨u_8, μ_9, hv, h⟩
    · cases h; exact V_callSe C e_10 (con_X4_lengthsOf hl g1 g2 hg1 hg2 hv) tb_X4_lengthsOf lk_RX4_15 (by decide) (by decide) rfl (Nat.le_of_ble_eq_true rfl) rfl dX4_ofOne_54 rfl
    refine V_callSo C none (con_X4_lengthsOf hl g1 g2 hg1 hg2 hv) tb_X4_lengthsOf lk_RX4_15 (by decide) (by decide) rfl (Nat.le_of_ble_eq_true rfl) rfl dX4_ofOne_54 rfl ?_
    clear hv
    refine V_goto C (tgt := 101) dX4_ofOne_57 (by decide) ?_
    cases h
    exact V_return C rfl rfl dX4_ofOne_101
  replace h := (if_neg hk2).symm.trans h
  by_cases hk3 : a0 = (116 : Int32)
  · replace h := (if_pos hk3).symm.trans h
    refine V_lookup C (87) 88 dX4_ofOne_1 (by decide +kernel) (by rw [hk3]; decide +kernel) (by decide) ?_
    refine V_aload_n C 1 dX4_ofOne_88 rfl 1 rfl ?_
    refine V_aload_n C 2 dX4_ofOne_89 rfl 2 rfl ?_
    rcases bB_inv h with ⟨e_13, μ_12, hv, h⟩ | ⟨u_11, μ_12, hv, h⟩
    · cases h; exact V_callSe C e_13 (con_X4_turnAxes hl g1 g2 hg1 hg2 hv) tb_X4_turnAxes lk_RX4_38 (by decide) (by decide) rfl (Nat.le_of_ble_eq_true rfl) rfl dX4_ofOne_90 rfl
    refine V_callSo C none (con_X4_turnAxes hl g1 g2 hg1 hg2 hv) tb_X4_turnAxes lk_RX4_38 (by decide) (by decide) rfl (Nat.le_of_ble_eq_true rfl) rfl dX4_ofOne_90 rfl ?_
    clear hv
    refine V_goto C (tgt := 101) dX4_ofOne_93 (by decide) ?_
    cases h
    exact V_return C rfl rfl dX4_ofOne_101
  replace h := (if_neg hk3).symm.trans h
  refine V_lookup C (95) 96 dX4_ofOne_1 (by decide +kernel) ((lv_osw hk0 (by decide +kernel)).trans ((lv_osw hk1 (by decide +kernel)).trans ((lv_osw hk2 (by decide +kernel)).trans ((lv_osw hk3 (by decide +kernel)).trans rfl)))) (by decide) ?_
  refine V_aload_n C 1 dX4_ofOne_96 rfl 1 rfl ?_
  refine V_aload_n C 2 dX4_ofOne_97 rfl 2 rfl ?_
  rcases bB_inv h with ⟨e_16, μ_15, hv, h⟩ | ⟨u_14, μ_15, hv, h⟩
  · cases h; exact V_callSe C e_16 (con_X4_turnRows hl g1 g2 hg1 hg2 hv) tb_X4_turnRows lk_RX4_41 (by decide) (by decide) rfl (Nat.le_of_ble_eq_true rfl) rfl dX4_ofOne_98 rfl
  refine V_callSo C none (con_X4_turnRows hl g1 g2 hg1 hg2 hv) tb_X4_turnRows lk_RX4_41 (by decide) (by decide) rfl (Nat.le_of_ble_eq_true rfl) rfl dX4_ofOne_98 rfl ?_
  clear hv
  cases h
  exact V_return C rfl rfl dX4_ofOne_101
set_option maxHeartbeats 4000000 in
set_option maxRecDepth 100000 in
theorem con_X3_workAlone {l : Launch} {E : WE} (hl : l.stackTraces = false) (a0 : Int32) (a1 : Int32)  {μ : Mem} {x} (h : f_X3_workAlone a0 a1 μ = some x) : Con l E lvC yX3_workAlone cX3_workAlone 2 (some .int) 1 [.int a0, .int a1] μ (rTi x μ) := by
  refine Con.of (by decide) hl (Nat.le_of_ble_eq_true rfl) (fun Y C => ?_)
  replace C : Ok Y l E lvC 2 RX3 cX3_workAlone (some .int) 1 := C
  show V Y l E lvC 2 (rTi x μ) 0 [(0, .int a0), (1, .int a1)] [] μ
  unfold f_X3_workAlone at h
  refine V_iload_n C 0 dX3_workAlone_0 rfl 0 rfl ?_
  by_cases hk0 : a0 = (45 : Int32)
  · replace h := (if_pos hk0).symm.trans h
    refine V_lookup C (27) 28 dX3_workAlone_1 (by decide +kernel) (by rw [hk0]; decide +kernel) (by decide) ?_
    refine V_iload_n C 1 dX3_workAlone_28 rfl 1 rfl ?_
    refine V_i2l C dX3_workAlone_29 ?_
    refine V_lneg C dX3_workAlone_30 ?_
    rcases bT_inv h with ⟨e_2, hv, h⟩ | ⟨v_1, hv, h⟩
    · cases h; exact V_callSe C e_2 (con_X3_fit hl (-(a1).toInt64) hv) tb_X3_fit lk_RX3_21 (by decide) (by decide) rfl (Nat.le_of_ble_eq_true rfl) rfl dX3_workAlone_31 rfl
    refine V_callSo C (some (.int v_1)) (con_X3_fit hl (-(a1).toInt64) hv) tb_X3_fit lk_RX3_21 (by decide) (by decide) rfl (Nat.le_of_ble_eq_true rfl) rfl dX3_workAlone_31 rfl ?_
    clear hv
    cases h
    exact V_ireturn C rfl rfl rfl dX3_workAlone_34
  replace h := (if_neg hk0).symm.trans h
  by_cases hk1 : a0 = (124 : Int32)
  · replace h := (if_pos hk1).symm.trans h
    refine V_lookup C (34) 35 dX3_workAlone_1 (by decide +kernel) (by rw [hk1]; decide +kernel) (by decide) ?_
    refine V_iload_n C 1 dX3_workAlone_35 rfl 1 rfl ?_
    obtain ⟨j_4, hj_4, h⟩ := jn_ex h
    have J_4 : ∀ (s_3 : Int64) x, j_4 s_3 = some x → V Y l E lvC 2 (rTi x μ) 47 [] [.long s_3] μ := by
      intro s_3  x h
      rw [hj_4] at h; clear hj_4
      rcases bT_inv h with ⟨e_6, hv, h⟩ | ⟨v_5, hv, h⟩
      · cases h; exact V_callSe C e_6 (con_X3_fit hl s_3 hv) tb_X3_fit lk_RX3_21 (by decide) (by decide) rfl (Nat.le_of_ble_eq_true rfl) rfl dX3_workAlone_47 rfl
      refine V_callSo C (some (.int v_5)) (con_X3_fit hl s_3 hv) tb_X3_fit lk_RX3_21 (by decide) (by decide) rfl (Nat.le_of_ble_eq_true rfl) rfl dX3_workAlone_47 rfl ?_
      clear hv
      cases h
      exact V_ireturn C rfl rfl rfl dX3_workAlone_50
    clear hj_4
    refine V_if_ge C (tgt := 45) dX3_workAlone_36 (by decide) (fun hc => ?_) (fun hc => ?_)
    · replace h := (if_pos hc).symm.trans h
      refine V_iload_n C 1 dX3_workAlone_45 rfl 1 rfl ?_
      refine V_i2l C dX3_workAlone_46 ?_
      refine V_sub (LP := []) [] rfl ?_
      exact J_4 _ _ h
    · replace h := (if_neg hc).symm.trans h
      refine V_iload_n C 1 dX3_workAlone_39 rfl 1 rfl ?_
      refine V_i2l C dX3_workAlone_40 ?_
      refine V_lneg C dX3_workAlone_41 ?_
      refine V_goto C (tgt := 47) dX3_workAlone_42 (by decide) ?_
      refine V_sub (LP := []) [] rfl ?_
      exact J_4 _ _ h
  replace h := (if_neg hk1).symm.trans h
  refine V_lookup C (50) 51 dX3_workAlone_1 (by decide +kernel) ((lv_osw hk0 (by decide +kernel)).trans ((lv_osw hk1 (by decide +kernel)).trans rfl)) (by decide) ?_
  refine V_iload_n C 1 dX3_workAlone_51 rfl 1 rfl ?_
  refine V_if_le C (tgt := 59) dX3_workAlone_52 (by decide) (fun hc => ?_) (fun hc => ?_)
  · replace h := (if_pos hc).symm.trans h
    refine V_iload_n C 1 dX3_workAlone_59 rfl 1 rfl ?_
    refine V_if_ge C (tgt := 67) dX3_workAlone_60 (by decide) (fun hc => ?_) (fun hc => ?_)
    · replace h := (if_pos hc).symm.trans h
      refine V_iconst C (0 : Int32) dX3_workAlone_67 (by decide) ?_
      cases h
      exact V_ireturn C rfl rfl rfl dX3_workAlone_68
    · replace h := (if_neg hc).symm.trans h
      refine V_iconst C (-1 : Int32) dX3_workAlone_63 (by decide) ?_
      refine V_goto C (tgt := 68) dX3_workAlone_64 (by decide) ?_
      cases h
      exact V_ireturn C rfl rfl rfl dX3_workAlone_68
  · replace h := (if_neg hc).symm.trans h
    refine V_iconst C (1 : Int32) dX3_workAlone_55 (by decide) ?_
    refine V_goto C (tgt := 68) dX3_workAlone_56 (by decide) ?_
    cases h
    exact V_ireturn C rfl rfl rfl dX3_workAlone_68
set_option maxHeartbeats 4000000 in
set_option maxRecDepth 100000 in
theorem lp_X3_eachOfOne_7 {Y : Mc} {l : Launch} {E : WE} (hl : l.stackTraces = false) (C : Ok Y l E lvC 4 RX3 cX3_eachOfOne none 3) {κ : Mem → Option (Except Nat Unit × Mem)} (c0_4 : Int32) (g_5 : Nat) (g_6 : Nat) (hg_5 : g_5 < 18) (hg_6 : g_6 < 18) (hκ : ∀  (μ_13 : Mem) x, κ  μ_13 = some x → V Y l E lvC 4 (rBu x) 37 [] [] μ_13) : ∀ (n : Nat) (a3_7 : Int32) (μ_8 : Mem) {x}, f_X3_eachOfOne_L7 κ c0_4 g_5 g_6 n a3_7 μ_8 = some x → V Y l E lvC 4 (rBu x) 7 [(0, .int c0_4), (1, .ref (E.1 20 g_5)), (2, .ref (E.1 20 g_6)), (3, .int a3_7)] [] μ_8 := by
  intro n
  induction n with
  | zero =>
    intro a3_7 μ_8 x h
    simp [f_X3_eachOfOne_L7] at h
  | succ n ih =>
    intro a3_7 μ_8 x h
    rw [f_X3_eachOfOne_L7] at h
    refine V_iload_n C 3 dX3_eachOfOne_7 rfl 3 rfl ?_
    refine V_aload_n C 2 dX3_eachOfOne_8 rfl 2 rfl ?_
    refine V_getf (v := .int (μ_8 20 g_6 3)) C 20 g_6 (gr_0in g_6 hg_6) fl_RX3_57 rfl rfl dX3_eachOfOne_9 ?_
    refine V_icmp_ge C (tgt := 37) dX3_eachOfOne_12 (by decide) (fun hc => ?_) (fun hc => ?_)
    · replace h := (if_pos hc).symm.trans h
      refine V_sub (LP := []) [] rfl ?_
      exact hκ _ _ h
    · replace h := (if_neg hc).symm.trans h
      refine V_aload_n C 2 dX3_eachOfOne_15 rfl 2 rfl ?_
      refine V_getf (v := .ref (E.1 22 g_6)) C 20 g_6 (gr_0in g_6 hg_6) fl_RX3_61 rfl rfl dX3_eachOfOne_16 ?_
      refine V_iload_n C 3 dX3_eachOfOne_19 rfl 3 rfl ?_
      refine V_iload_n C 0 dX3_eachOfOne_20 rfl 0 rfl ?_
      refine V_aload_n C 1 dX3_eachOfOne_21 rfl 1 rfl ?_
      refine V_getf (v := .ref (E.1 22 g_5)) C 20 g_5 (gr_0in g_5 hg_5) fl_RX3_61 rfl rfl dX3_eachOfOne_22 ?_
      refine V_iload_n C 3 dX3_eachOfOne_25 rfl 3 rfl ?_
      obtain ⟨hi9, h⟩ := gd_inv h
      refine V_iald C 22 g_5 (gr_2in g_5 hg_5) (fun _ => rfl) (inb_in hi9) dX3_eachOfOne_26 ?_
      rcases bT_inv h with ⟨e_10, hv, h⟩ | ⟨v_9, hv, h⟩
      · cases h; exact V_callSe C e_10 (con_X3_workAlone hl c0_4 (μ_8 22 g_5 (a3_7).toNatClampNeg) hv) tb_X3_workAlone lk_RX3_65 (by decide) (by decide) rfl (Nat.le_of_ble_eq_true rfl) rfl dX3_eachOfOne_27 rfl
      refine V_callSo C (some (.int v_9)) (con_X3_workAlone hl c0_4 (μ_8 22 g_5 (a3_7).toNatClampNeg) hv) tb_X3_workAlone lk_RX3_65 (by decide) (by decide) rfl (Nat.le_of_ble_eq_true rfl) rfl dX3_eachOfOne_27 rfl ?_
      clear hv
      obtain ⟨hi9, h⟩ := gd_inv h
      refine V_iast C 22 g_6 (gr_2in g_6 hg_6) (fun _ => rfl) (inb_in hi9) dX3_eachOfOne_30 ?_
      refine V_memn (fun μ_11 hn9 => ?_)
      replace h := lt_eq hn9 h; clear hn9
      obtain ⟨x_12, hn9⟩ : ∃ z : Int32, z = a3_7 + (1 : Int32) := ⟨_, rfl⟩
      replace h := lt_eq hn9 h
      refine V_iinc (L' := [(0, .int c0_4), (1, .ref (E.1 20 g_5)), (2, .ref (E.1 20 g_6)), (3, .int x_12)]) C x_12 dX3_eachOfOne_31 3 rfl (by rw [hn9]; exact congrArg (a3_7 + ·) (by decide)) (by decide) [1, 2, 3, 0] rfl ?_
      clear hn9
      refine V_goto C (tgt := 7) dX3_eachOfOne_34 (by decide) ?_
      refine V_sub (LP := [(0, .int c0_4), (1, .ref (E.1 20 g_5)), (2, .ref (E.1 20 g_6)), (3, .int x_12)]) [0, 1, 2, 3] rfl ?_
      exact ih _ _ h
set_option maxHeartbeats 4000000 in
set_option maxRecDepth 100000 in
theorem con_X3_eachOfOne {l : Launch} {E : WE} (hl : l.stackTraces = false) (a0 : Int32) (g1 : Nat) (g2 : Nat) (hg1 : g1 < 18) (hg2 : g2 < 18) {μ : Mem} {x} (h : f_X3_eachOfOne a0 g1 g2 μ = some x) : Con l E lvC yX3_eachOfOne cX3_eachOfOne 4 none 3 [.int a0, .ref (E.1 20 g1), .ref (E.1 20 g2)] μ (rBu x) := by
  refine Con.of (by decide) hl (Nat.le_of_ble_eq_true rfl) (fun Y C => ?_)
  replace C : Ok Y l E lvC 4 RX3 cX3_eachOfOne none 3 := C
  show V Y l E lvC 4 (rBu x) 0 [(0, .int a0), (1, .ref (E.1 20 g1)), (2, .ref (E.1 20 g2))] [] μ
  unfold f_X3_eachOfOne at h
  refine V_aload_n C 2 dX3_eachOfOne_0 rfl 2 rfl ?_
  refine V_aload_n C 1 dX3_eachOfOne_1 rfl 1 rfl ?_
  rcases bB_inv h with ⟨e_3, μ_2, hv, h⟩ | ⟨u_1, μ_2, hv, h⟩
  · cases h; exact V_callVe C 20 g2 (gr_0in g2 hg2) e_3 (con_X1_shapeLike hl g2 g1 hg2 hg1 hv) tb_X1_shapeLike lk_RX3_51 rfl rfl rfl (by decide) (by decide) rfl (Nat.le_of_ble_eq_true rfl) rfl dX3_eachOfOne_2 rfl
  refine V_callVo C 20 g2 (gr_0in g2 hg2) none (con_X1_shapeLike hl g2 g1 hg2 hg1 hv) tb_X1_shapeLike lk_RX3_51 rfl rfl rfl (by decide) (by decide) rfl (Nat.le_of_ble_eq_true rfl) rfl dX3_eachOfOne_2 rfl ?_
  clear hv
  refine V_iconst C (0 : Int32) dX3_eachOfOne_5 (by decide) ?_
  refine V_istore_n (L' := [(0, .int a0), (1, .ref (E.1 20 g1)), (2, .ref (E.1 20 g2)), (3, .int (0 : Int32))]) C 3 dX3_eachOfOne_6 rfl (by decide) [1, 2, 3, 0] rfl ?_
  refine V_sub (LP := [(0, .int a0), (1, .ref (E.1 20 g1)), (2, .ref (E.1 20 g2)), (3, .int (0 : Int32))]) [0, 1, 2, 3] rfl ?_
  refine lp_X3_eachOfOne_7 hl C a0 g1 g2 hg1 hg2 (fun μ_14 x h => ?_) 1000 _ _ h
  cases h
  exact V_return C rfl rfl dX3_eachOfOne_37
set_option maxHeartbeats 4000000 in
set_option maxRecDepth 100000 in
theorem con_X0_putSpare {l : Launch} {E : WE} (hl : l.stackTraces = false)   {μ : Mem} {x} (h : f_X0_putSpare  μ = some x) : Con l E lvC yX0_putSpare cX0_putSpare 2 none 0 [.ref (E.1 14 0)] μ (rWu x) := by
  refine Con.of (by decide) hl (Nat.le_of_ble_eq_true rfl) (fun Y C => ?_)
  replace C : Ok Y l E lvC 2 RX0 cX0_putSpare none 0 := C
  show V Y l E lvC 2 (rWu x) 0 [(0, .ref (E.1 14 0))] [] μ
  unfold f_X0_putSpare at h
  refine V_aload_n C 0 dX0_putSpare_0 rfl 0 rfl ?_
  refine V_getf (v := .ref (E.1 15 0)) C 14 0 m_14 fl_RX0_13 rfl rfl dX0_putSpare_1 ?_
  refine V_aload_n C 0 dX0_putSpare_4 rfl 0 rfl ?_
  refine V_getf (v := .int (μ 14 0 4)) C 14 0 m_14 fl_RX0_29 rfl rfl dX0_putSpare_5 ?_
  refine V_iconst C (1 : Int32) dX0_putSpare_8 (by decide) ?_
  refine V_isub C dX0_putSpare_9 ?_
  obtain ⟨hi9, h⟩ := gd_inv h
  refine V_aald (a := E.1 20 (μ 15 0 (((μ 14 0 4) - (1 : Int32))).toNatClampNeg).toNatClampNeg) C 15 0 m_15 rfl (inb_in hi9) rfl dX0_putSpare_10 ?_
  refine V_topg (fun g_1 hn9 => ?_)
  replace h := lt_eq hn9 h; clear hn9
  obtain ⟨hg_1, h⟩ := gd_inv h
  replace hg_1 := dec_t hg_1
  refine V_astore_n (L' := [(0, .ref (E.1 14 0)), (1, .ref (E.1 20 g_1))]) C 1 dX0_putSpare_11 rfl (by decide) [1, 0] rfl ?_
  refine V_aload_n C 0 dX0_putSpare_12 rfl 0 rfl ?_
  refine V_getf (v := .ref (E.1 15 0)) C 14 0 m_14 fl_RX0_13 rfl rfl dX0_putSpare_13 ?_
  refine V_aload_n C 0 dX0_putSpare_16 rfl 0 rfl ?_
  refine V_getf (v := .int (μ 14 0 4)) C 14 0 m_14 fl_RX0_29 rfl rfl dX0_putSpare_17 ?_
  refine V_iconst C (1 : Int32) dX0_putSpare_20 (by decide) ?_
  refine V_isub C dX0_putSpare_21 ?_
  refine V_aload_n C 0 dX0_putSpare_22 rfl 0 rfl ?_
  refine V_getf (v := .ref (E.1 20 (μ 14 0 3).toNatClampNeg)) C 14 0 m_14 fl_RX0_25 rfl rfl dX0_putSpare_23 ?_
  refine V_topg (fun g_2 hn9 => ?_)
  replace h := lt_eq hn9 h; clear hn9
  obtain ⟨hg_2, h⟩ := gd_inv h
  replace hg_2 := dec_t hg_2
  obtain ⟨hi9, h⟩ := gd_inv h
  refine V_aastV C g_2 hg_2 (inb_in hi9) dX0_putSpare_26 ?_
  refine V_memn (fun μ_3 hn9 => ?_)
  replace h := lt_eq hn9 h; clear hn9
  refine V_aload_n C 0 dX0_putSpare_27 rfl 0 rfl ?_
  refine V_aload_n C 1 dX0_putSpare_28 rfl 1 rfl ?_
  refine V_putSp C g_1 hg_1 fp_RX0_25 rfl rfl dX0_putSpare_29 ?_
  refine V_memn (fun μ_4 hn9 => ?_)
  replace h := lt_eq hn9 h; clear hn9
  refine V_aload_n C 0 dX0_putSpare_32 rfl 0 rfl ?_
  refine V_dup C dX0_putSpare_33 rfl ?_
  refine V_getf (v := .int (μ_4 14 0 6)) C 14 0 m_14 fl_RX0_36 rfl rfl dX0_putSpare_34 ?_
  refine V_iconst C (1 : Int32) dX0_putSpare_37 (by decide) ?_
  refine V_iadd C dX0_putSpare_38 ?_
  refine V_putI C 14 0 m_14 fp_RX0_36 rfl rfl rfl rfl (Nat.le_of_ble_eq_true rfl) dX0_putSpare_39 ?_
  refine V_memn (fun μ_5 hn9 => ?_)
  replace h := lt_eq hn9 h; clear hn9
  cases h
  exact V_return C rfl rfl dX0_putSpare_42
set_option maxHeartbeats 4000000 in
set_option maxRecDepth 100000 in
theorem con_X0_workOnOne {l : Launch} {E : WE} (hl : l.stackTraces = false) (a2 : Int32)  {μ : Mem} {x} (h : f_X0_workOnOne a2 μ = some x) : Con l E lvC yX0_workOnOne cX0_workOnOne 6 none 6 [.ref (E.1 14 0), .ref (E.1 1 0), .int a2] μ (rBu x) := by
  refine Con.of (by decide) hl (Nat.le_of_ble_eq_true rfl) (fun Y C => ?_)
  replace C : Ok Y l E lvC 6 RX0 cX0_workOnOne none 6 := C
  show V Y l E lvC 6 (rBu x) 0 [(0, .ref (E.1 14 0)), (1, .ref (E.1 1 0)), (2, .int a2)] [] μ
  unfold f_X0_workOnOne at h
  refine V_aload_n C 1 dX0_workOnOne_0 rfl 1 rfl ?_
  refine V_getf (v := .ref (E.1 7 0)) C 1 0 m_1 fl_RX0_96 rfl rfl dX0_workOnOne_1 ?_
  refine V_iload_n C 2 dX0_workOnOne_4 rfl 2 rfl ?_
  obtain ⟨hi9, h⟩ := gd_inv h
  refine V_cald C 7 0 m_7 (fun _ => rfl) (inb_in hi9) dX0_workOnOne_5 ?_
  refine V_topi (fun x_1 hn9 => ?_)
  replace h := lt_eq hn9 h; clear hn9
  refine V_istore_n (L' := [(0, .ref (E.1 14 0)), (1, .ref (E.1 1 0)), (2, .int a2), (3, .int x_1)]) C 3 dX0_workOnOne_6 rfl (by decide) [1, 2, 3, 0] rfl ?_
  refine V_aload_n C 1 dX0_workOnOne_7 rfl 1 rfl ?_
  refine V_getf (v := .ref (E.1 8 0)) C 1 0 m_1 fl_RX0_100 rfl rfl dX0_workOnOne_8 ?_
  refine V_iload_n C 2 dX0_workOnOne_11 rfl 2 rfl ?_
  obtain ⟨hi9, h⟩ := gd_inv h
  refine V_cald C 8 0 m_8 (fun _ => rfl) (inb_in hi9) dX0_workOnOne_12 ?_
  refine V_topi (fun x_2 hn9 => ?_)
  replace h := lt_eq hn9 h; clear hn9
  refine V_istore (L' := [(0, .ref (E.1 14 0)), (1, .ref (E.1 1 0)), (2, .int a2), (3, .int x_1), (4, .int x_2)]) C dX0_workOnOne_13 (by decide) [1, 2, 3, 4, 0] rfl ?_
  refine V_aload_n C 0 dX0_workOnOne_15 rfl 0 rfl ?_
  refine V_getf (v := .ref (E.1 15 0)) C 14 0 m_14 fl_RX0_13 rfl rfl dX0_workOnOne_16 ?_
  refine V_aload_n C 0 dX0_workOnOne_19 rfl 0 rfl ?_
  refine V_getf (v := .int (μ 14 0 4)) C 14 0 m_14 fl_RX0_29 rfl rfl dX0_workOnOne_20 ?_
  refine V_iconst C (1 : Int32) dX0_workOnOne_23 (by decide) ?_
  refine V_isub C dX0_workOnOne_24 ?_
  obtain ⟨hi9, h⟩ := gd_inv h
  refine V_aald (a := E.1 20 (μ 15 0 (((μ 14 0 4) - (1 : Int32))).toNatClampNeg).toNatClampNeg) C 15 0 m_15 rfl (inb_in hi9) rfl dX0_workOnOne_25 ?_
  refine V_topg (fun g_3 hn9 => ?_)
  replace h := lt_eq hn9 h; clear hn9
  obtain ⟨hg_3, h⟩ := gd_inv h
  replace hg_3 := dec_t hg_3
  refine V_astore (L' := [(0, .ref (E.1 14 0)), (1, .ref (E.1 1 0)), (2, .int a2), (3, .int x_1), (4, .int x_2), (5, .ref (E.1 20 g_3))]) C dX0_workOnOne_26 (by decide) [1, 2, 3, 4, 5, 0] rfl ?_
  refine V_aload_n C 0 dX0_workOnOne_28 rfl 0 rfl ?_
  refine V_getf (v := .ref (E.1 20 (μ 14 0 3).toNatClampNeg)) C 14 0 m_14 fl_RX0_25 rfl rfl dX0_workOnOne_29 ?_
  refine V_topg (fun g_4 hn9 => ?_)
  replace h := lt_eq hn9 h; clear hn9
  obtain ⟨hg_4, h⟩ := gd_inv h
  replace hg_4 := dec_t hg_4
  obtain ⟨u_5, μ_6, hv, h⟩ := bW_inv h
  refine V_callVo C 20 g_4 (gr_0in g_4 hg_4) none (con_X1_restart hl g_4 hg_4 hv) tb_X1_restart lk_RX0_77 rfl rfl rfl (by decide) (by decide) rfl (Nat.le_of_ble_eq_true rfl) rfl dX0_workOnOne_32 rfl ?_
  clear hv
  refine V_iload C dX0_workOnOne_35 4 rfl ?_
  refine V_bipush C (47 : Int32) dX0_workOnOne_37 (by decide) ?_
  obtain ⟨j_8, hj_8, h⟩ := jn_ex h
  have J_8 : ∀ (μ_7 : Mem) x, j_8 μ_7 = some x → V Y l E lvC 6 (rBu x) 107 [(0, .ref (E.1 14 0))] [] μ_7 := by
    intro μ_7  x h
    rw [hj_8] at h; clear hj_8
    refine V_aload_n C 0 dX0_workOnOne_107 rfl 0 rfl ?_
    obtain ⟨u_9, μ_10, hv, h⟩ := bW_inv h
    refine V_callVo C 14 0 m_14 none (con_X0_putSpare hl hv) tb_X0_putSpare lk_RX0_128 rfl rfl rfl (by decide) (by decide) rfl (Nat.le_of_ble_eq_true rfl) rfl dX0_workOnOne_108 rfl ?_
    clear hv
    cases h
    exact V_return C rfl rfl dX0_workOnOne_111
  clear hj_8
  refine V_icmp_ne C (tgt := 55) dX0_workOnOne_39 (by decide) (fun hc => ?_) (fun hc => ?_)
  · replace h := (if_neg hc).symm.trans h
    refine V_iload C dX0_workOnOne_55 4 rfl ?_
    refine V_bipush C (92 : Int32) dX0_workOnOne_57 (by decide) ?_
    refine V_icmp_ne C (tgt := 75) dX0_workOnOne_59 (by decide) (fun hc => ?_) (fun hc => ?_)
    · replace h := (if_neg hc).symm.trans h
      refine V_ldcS (tx := "ir,tv") C 1 (by decide +kernel) dX0_workOnOne_75 ?_
      refine V_iload_n C 3 dX0_workOnOne_77 rfl 3 rfl ?_
      refine V_indexOf C hl 1 (by decide) lk_RX0_114 (by decide) (Nat.le_of_ble_eq_true rfl) dX0_workOnOne_78 ?_
      refine V_if_lt C (tgt := 97) dX0_workOnOne_81 (by decide) (fun hc => ?_) (fun hc => ?_)
      · replace h := (if_pos hc).symm.trans h
        refine V_iload_n C 3 dX0_workOnOne_97 rfl 3 rfl ?_
        refine V_aload C dX0_workOnOne_98 5 rfl ?_
        refine V_aload_n C 0 dX0_workOnOne_100 rfl 0 rfl ?_
        refine V_getf (v := .ref (E.1 20 (μ_6 14 0 3).toNatClampNeg)) C 14 0 m_14 fl_RX0_25 rfl rfl dX0_workOnOne_101 ?_
        refine V_topg (fun g_11 hn9 => ?_)
        replace h := lt_eq hn9 h; clear hn9
        obtain ⟨hg_11, h⟩ := gd_inv h
        replace hg_11 := dec_t hg_11
        rcases bB_inv h with ⟨e_14, μ_13, hv, h⟩ | ⟨u_12, μ_13, hv, h⟩
        · cases h; exact V_callSe C e_14 (con_X3_eachOfOne hl x_1 g_3 g_11 hg_3 hg_11 hv) tb_X3_eachOfOne lk_RX0_125 (by decide) (by decide) rfl (Nat.le_of_ble_eq_true rfl) rfl dX0_workOnOne_104 rfl
        refine V_callSo C none (con_X3_eachOfOne hl x_1 g_3 g_11 hg_3 hg_11 hv) tb_X3_eachOfOne lk_RX0_125 (by decide) (by decide) rfl (Nat.le_of_ble_eq_true rfl) rfl dX0_workOnOne_104 rfl ?_
        clear hv
        refine V_sub (LP := [(0, .ref (E.1 14 0))]) [0] rfl ?_
        exact J_8 _ _ h
      · replace h := (if_neg hc).symm.trans h
        refine V_iload_n C 3 dX0_workOnOne_84 rfl 3 rfl ?_
        refine V_aload C dX0_workOnOne_85 5 rfl ?_
        refine V_aload_n C 0 dX0_workOnOne_87 rfl 0 rfl ?_
        refine V_getf (v := .ref (E.1 20 (μ_6 14 0 3).toNatClampNeg)) C 14 0 m_14 fl_RX0_25 rfl rfl dX0_workOnOne_88 ?_
        refine V_topg (fun g_15 hn9 => ?_)
        replace h := lt_eq hn9 h; clear hn9
        obtain ⟨hg_15, h⟩ := gd_inv h
        replace hg_15 := dec_t hg_15
        rcases bB_inv h with ⟨e_18, μ_17, hv, h⟩ | ⟨u_16, μ_17, hv, h⟩
        · cases h; exact V_callSe C e_18 (con_X4_ofOne hl x_1 g_3 g_15 hg_3 hg_15 hv) tb_X4_ofOne lk_RX0_120 (by decide) (by decide) rfl (Nat.le_of_ble_eq_true rfl) rfl dX0_workOnOne_91 rfl
        refine V_callSo C none (con_X4_ofOne hl x_1 g_3 g_15 hg_3 hg_15 hv) tb_X4_ofOne lk_RX0_120 (by decide) (by decide) rfl (Nat.le_of_ble_eq_true rfl) rfl dX0_workOnOne_91 rfl ?_
        clear hv
        refine V_goto C (tgt := 107) dX0_workOnOne_94 (by decide) ?_
        refine V_sub (LP := [(0, .ref (E.1 14 0))]) [0] rfl ?_
        exact J_8 _ _ h
    · replace h := (if_pos hc).symm.trans h
      refine V_iload_n C 3 dX0_workOnOne_62 rfl 3 rfl ?_
      refine V_aload C dX0_workOnOne_63 5 rfl ?_
      refine V_aload_n C 0 dX0_workOnOne_65 rfl 0 rfl ?_
      refine V_getf (v := .ref (E.1 20 (μ_6 14 0 3).toNatClampNeg)) C 14 0 m_14 fl_RX0_25 rfl rfl dX0_workOnOne_66 ?_
      refine V_topg (fun g_19 hn9 => ?_)
      replace h := lt_eq hn9 h; clear hn9
      obtain ⟨hg_19, h⟩ := gd_inv h
      replace hg_19 := dec_t hg_19
      rcases bB_inv h with ⟨e_22, μ_21, hv, h⟩ | ⟨u_20, μ_21, hv, h⟩
      · cases h; exact V_callSe C e_22 (con_X3_scan hl x_1 g_3 g_19 hg_3 hg_19 hv) tb_X3_scan lk_RX0_109 (by decide) (by decide) rfl (Nat.le_of_ble_eq_true rfl) rfl dX0_workOnOne_69 rfl
      refine V_callSo C none (con_X3_scan hl x_1 g_3 g_19 hg_3 hg_19 hv) tb_X3_scan lk_RX0_109 (by decide) (by decide) rfl (Nat.le_of_ble_eq_true rfl) rfl dX0_workOnOne_69 rfl ?_
      clear hv
      refine V_goto C (tgt := 107) dX0_workOnOne_72 (by decide) ?_
      refine V_sub (LP := [(0, .ref (E.1 14 0))]) [0] rfl ?_
      exact J_8 _ _ h
  · replace h := (if_pos hc).symm.trans h
    refine V_iload_n C 3 dX0_workOnOne_42 rfl 3 rfl ?_
    refine V_aload C dX0_workOnOne_43 5 rfl ?_
    refine V_aload_n C 0 dX0_workOnOne_45 rfl 0 rfl ?_
    refine V_getf (v := .ref (E.1 20 (μ_6 14 0 3).toNatClampNeg)) C 14 0 m_14 fl_RX0_25 rfl rfl dX0_workOnOne_46 ?_
    refine V_topg (fun g_23 hn9 => ?_)
    replace h := lt_eq hn9 h; clear hn9
    obtain ⟨hg_23, h⟩ := gd_inv h
    replace hg_23 := dec_t hg_23
    rcases bB_inv h with ⟨e_26, μ_25, hv, h⟩ | ⟨u_24, μ_25, hv, h⟩
    · cases h; exact V_callSe C e_26 (con_X3_reduce hl x_1 g_3 g_23 hg_3 hg_23 hv) tb_X3_reduce lk_RX0_103 (by decide) (by decide) rfl (Nat.le_of_ble_eq_true rfl) rfl dX0_workOnOne_49 rfl
    refine V_callSo C none (con_X3_reduce hl x_1 g_3 g_23 hg_3 hg_23 hv) tb_X3_reduce lk_RX0_103 (by decide) (by decide) rfl (Nat.le_of_ble_eq_true rfl) rfl dX0_workOnOne_49 rfl ?_
    clear hv
    refine V_goto C (tgt := 107) dX0_workOnOne_52 (by decide) ?_
    refine V_sub (LP := [(0, .ref (E.1 14 0))]) [0] rfl ?_
    exact J_8 _ _ h
set_option maxHeartbeats 4000000 in
set_option maxRecDepth 100000 in
theorem con_X2_has {l : Launch} {E : WE} (hl : l.stackTraces = false) (a1 : Int32)  {μ : Mem} {x} (h : f_X2_has a1 μ = some x) : Con l E lvC yX2_has cX2_has 2 (some .boolean) 0 [.ref (E.1 11 0), .int a1] μ (rPi x μ) := by
  refine Con.of (by decide) hl (Nat.le_of_ble_eq_true rfl) (fun Y C => ?_)
  replace C : Ok Y l E lvC 2 RX2 cX2_has (some .boolean) 0 := C
  show V Y l E lvC 2 (rPi x μ) 0 [(0, .ref (E.1 11 0)), (1, .int a1)] [] μ
  unfold f_X2_has at h
  refine V_iload_n C 1 dX2_has_0 rfl 1 rfl ?_
  obtain ⟨j_1, hj_1, h⟩ := jn_ex h
  have J_1 : ∀ (_ : Unit) x, j_1 () = some x → V Y l E lvC 2 (rPi x μ) 23 [] [] μ := by
    intro _  x h
    rw [hj_1] at h; clear hj_1
    refine V_iconst C (0 : Int32) dX2_has_23 (by decide) ?_
    cases h
    exact V_ireturn C rfl rfl rfl dX2_has_24
  clear hj_1
  refine V_if_lt C (tgt := 23) dX2_has_1 (by decide) (fun hc => ?_) (fun hc => ?_)
  · replace h := (if_pos hc).symm.trans h
    refine V_sub (LP := []) [] rfl ?_
    exact J_1 () _ h
  · replace h := (if_neg hc).symm.trans h
    refine V_iload_n C 1 dX2_has_4 rfl 1 rfl ?_
    refine V_bipush C (8 : Int32) dX2_has_5 (by decide) ?_
    refine V_icmp_ge C (tgt := 23) dX2_has_7 (by decide) (fun hc => ?_) (fun hc => ?_)
    · replace h := (if_pos hc).symm.trans h
      refine V_sub (LP := []) [] rfl ?_
      exact J_1 () _ h
    · replace h := (if_neg hc).symm.trans h
      refine V_aload_n C 0 dX2_has_10 rfl 0 rfl ?_
      refine V_getf (v := .ref (E.1 13 0)) C 11 0 m_11 fl_RX2_17 rfl rfl dX2_has_11 ?_
      refine V_iload_n C 1 dX2_has_14 rfl 1 rfl ?_
      obtain ⟨hi9, h⟩ := gd_inv h
      refine V_zald C 13 0 m_13 (fun _ => rfl) (inb_in hi9) dX2_has_15 ?_
      refine V_if_eq C (tgt := 23) dX2_has_16 (by decide) (fun hc => ?_) (fun hc => ?_)
      · replace h := (if_pos hc).symm.trans h
        refine V_sub (LP := []) [] rfl ?_
        exact J_1 () _ h
      · replace h := (if_neg hc).symm.trans h
        refine V_iconst C (1 : Int32) dX2_has_19 (by decide) ?_
        refine V_goto C (tgt := 24) dX2_has_20 (by decide) ?_
        cases h
        exact V_ireturn C rfl rfl rfl dX2_has_24
set_option maxHeartbeats 4000000 in
set_option maxRecDepth 100000 in
theorem con_X2_find {l : Launch} {E : WE} (hl : l.stackTraces = false) (a1 : Int32)  {μ : Mem} {x} (h : f_X2_find a1 μ = some x) : Con l E lvC yX2_find cX2_find 2 (some (.object "RankCalc$Grid")) 1 [.ref (E.1 11 0), .int a1] μ (rTg E x μ) := by
  refine Con.of (by decide) hl (Nat.le_of_ble_eq_true rfl) (fun Y C => ?_)
  replace C : Ok Y l E lvC 2 RX2 cX2_find (some (.object "RankCalc$Grid")) 1 := C
  show V Y l E lvC 2 (rTg E x μ) 0 [(0, .ref (E.1 11 0)), (1, .int a1)] [] μ
  unfold f_X2_find at h
  refine V_aload_n C 0 dX2_find_0 rfl 0 rfl ?_
  refine V_iload_n C 1 dX2_find_1 rfl 1 rfl ?_
  obtain ⟨v_1, hv, h⟩ := bP_inv h
  refine V_callVo C 11 0 m_11 (some (.int v_1)) (con_X2_has hl a1 hv) tb_X2_has lk_RX2_26 rfl rfl rfl (by decide) (by decide) rfl (Nat.le_of_ble_eq_true rfl) rfl dX2_find_2 rfl ?_
  clear hv
  refine V_if_ne C (tgt := 16) dX2_find_5 (by decide) (fun hc => ?_) (fun hc => ?_)
  · replace h := (if_neg hc).symm.trans h
    refine V_aload_n C 0 dX2_find_16 rfl 0 rfl ?_
    refine V_getf (v := .ref (E.1 12 0)) C 11 0 m_11 fl_RX2_11 rfl rfl dX2_find_17 ?_
    refine V_iload_n C 1 dX2_find_20 rfl 1 rfl ?_
    obtain ⟨hi9, h⟩ := gd_inv h
    refine V_aald (a := E.1 20 (a1).toNatClampNeg) C 12 0 m_12 rfl (inb_in hi9) rfl dX2_find_21 ?_
    refine V_topg (fun g_2 hn9 => ?_)
    replace h := lt_eq hn9 h; clear hn9
    obtain ⟨hg_2, h⟩ := gd_inv h
    replace hg_2 := dec_t hg_2
    cases h
    exact V_areturn C rfl rfl dX2_find_22
  · replace h := (if_pos hc).symm.trans h
    cases h
    exact V_throw C 6 th_RX2_30 rfl (Nat.le_of_ble_eq_true rfl) dX2_find_8 dX2_find_11 dX2_find_12 dX2_find_15
set_option maxHeartbeats 4000000 in
set_option maxRecDepth 100000 in
theorem con_X1_copy {l : Launch} {E : WE} (hl : l.stackTraces = false) (g0 : Nat) (g1 : Nat) (hg0 : g0 < 18) (hg1 : g1 < 18) {μ : Mem} {x} (h : f_X1_copy g0 g1 μ = some x) : Con l E lvC yX1_copy cX1_copy 2 none 3 [.ref (E.1 20 g0), .ref (E.1 20 g1)] μ (rBu x) := by
  refine Con.of (by decide) hl (Nat.le_of_ble_eq_true rfl) (fun Y C => ?_)
  replace C : Ok Y l E lvC 2 RX1 cX1_copy none 3 := C
  show V Y l E lvC 2 (rBu x) 0 [(0, .ref (E.1 20 g0)), (1, .ref (E.1 20 g1))] [] μ
  unfold f_X1_copy at h
  refine V_aload_n C 0 dX1_copy_0 rfl 0 rfl ?_
  refine V_aload_n C 1 dX1_copy_1 rfl 1 rfl ?_
  rcases bB_inv h with ⟨e_3, μ_2, hv, h⟩ | ⟨u_1, μ_2, hv, h⟩
  · cases h; exact V_callVe C 20 g0 (gr_0in g0 hg0) e_3 (con_X1_shapeLike hl g0 g1 hg0 hg1 hv) tb_X1_shapeLike lk_RX1_39 rfl rfl rfl (by decide) (by decide) rfl (Nat.le_of_ble_eq_true rfl) rfl dX1_copy_2 rfl
  refine V_callVo C 20 g0 (gr_0in g0 hg0) none (con_X1_shapeLike hl g0 g1 hg0 hg1 hv) tb_X1_shapeLike lk_RX1_39 rfl rfl rfl (by decide) (by decide) rfl (Nat.le_of_ble_eq_true rfl) rfl dX1_copy_2 rfl ?_
  clear hv
  refine V_aload_n C 1 dX1_copy_5 rfl 1 rfl ?_
  refine V_getf (v := .ref (E.1 22 g1)) C 20 g1 (gr_0in g1 hg1) fl_RX1_15 rfl rfl dX1_copy_6 ?_
  refine V_iconst C (0 : Int32) dX1_copy_9 (by decide) ?_
  refine V_aload_n C 0 dX1_copy_10 rfl 0 rfl ?_
  refine V_getf (v := .ref (E.1 22 g0)) C 20 g0 (gr_0in g0 hg0) fl_RX1_15 rfl rfl dX1_copy_11 ?_
  refine V_iconst C (0 : Int32) dX1_copy_14 (by decide) ?_
  refine V_aload_n C 0 dX1_copy_15 rfl 0 rfl ?_
  refine V_getf (v := .int (μ_2 20 g0 3)) C 20 g0 (gr_0in g0 hg0) fl_RX1_18 rfl rfl dX1_copy_16 ?_
  obtain ⟨hq9, h⟩ := gd_inv h
  obtain ⟨q1, q2, q3, q4, q5⟩ := cpok_g hq9
  refine V_copyi C 22 g1 22 g0 (gr_2in g1 hg1) (gr_2in g0 hg0) (fun _ => rfl) (fun _ => rfl) lk_RX1_43 w_cp1 w_cp2 w_cp3 q1 q2 q3 q4 q5 (Nat.le_of_ble_eq_true rfl) dX1_copy_19 ?_
  refine V_memn (fun μ_4 hn9 => ?_)
  replace h := lt_eq hn9 h; clear hn9
  cases h
  exact V_return C rfl rfl dX1_copy_22
set_option maxHeartbeats 4000000 in
set_option maxRecDepth 100000 in
theorem con_X0_pushNumbers {l : Launch} {E : WE} (hl : l.stackTraces = false) (a2 : Int32)  {μ : Mem} {x} (h : f_X0_pushNumbers a2 μ = some x) : Con l E lvC yX0_pushNumbers cX0_pushNumbers 5 none 1 [.ref (E.1 14 0), .ref (E.1 1 0), .int a2] μ (rBu x) := by
  refine Con.of (by decide) hl (Nat.le_of_ble_eq_true rfl) (fun Y C => ?_)
  replace C : Ok Y l E lvC 5 RX0 cX0_pushNumbers none 1 := C
  show V Y l E lvC 5 (rBu x) 0 [(0, .ref (E.1 14 0)), (1, .ref (E.1 1 0)), (2, .int a2)] [] μ
  unfold f_X0_pushNumbers at h
  refine V_aload_n C 1 dX0_pushNumbers_0 rfl 1 rfl ?_
  refine V_getf (v := .ref (E.1 6 0)) C 1 0 m_1 fl_RX0_74 rfl rfl dX0_pushNumbers_1 ?_
  refine V_iload_n C 2 dX0_pushNumbers_4 rfl 2 rfl ?_
  obtain ⟨hi9, h⟩ := gd_inv h
  refine V_iald C 6 0 m_6 (fun _ => rfl) (inb_in hi9) dX0_pushNumbers_5 ?_
  refine V_topi (fun x_1 hn9 => ?_)
  replace h := lt_eq hn9 h; clear hn9
  refine V_istore_n (L' := [(0, .ref (E.1 14 0)), (1, .ref (E.1 1 0)), (2, .int a2), (3, .int x_1)]) C 3 dX0_pushNumbers_6 rfl (by decide) [1, 2, 3, 0] rfl ?_
  refine V_aload_n C 0 dX0_pushNumbers_7 rfl 0 rfl ?_
  refine V_getf (v := .ref (E.1 15 0)) C 14 0 m_14 fl_RX0_13 rfl rfl dX0_pushNumbers_8 ?_
  refine V_aload_n C 0 dX0_pushNumbers_11 rfl 0 rfl ?_
  refine V_getf (v := .int (μ 14 0 4)) C 14 0 m_14 fl_RX0_29 rfl rfl dX0_pushNumbers_12 ?_
  obtain ⟨hi9, h⟩ := gd_inv h
  refine V_aald (a := E.1 20 (μ 15 0 ((μ 14 0 4)).toNatClampNeg).toNatClampNeg) C 15 0 m_15 rfl (inb_in hi9) rfl dX0_pushNumbers_15 ?_
  refine V_topg (fun g_2 hn9 => ?_)
  replace h := lt_eq hn9 h; clear hn9
  obtain ⟨hg_2, h⟩ := gd_inv h
  replace hg_2 := dec_t hg_2
  refine V_astore (L' := [(0, .ref (E.1 14 0)), (1, .ref (E.1 1 0)), (2, .int a2), (3, .int x_1), (4, .ref (E.1 20 g_2))]) C dX0_pushNumbers_16 (by decide) [1, 2, 3, 4, 0] rfl ?_
  refine V_aload C dX0_pushNumbers_18 4 rfl ?_
  obtain ⟨u_3, μ_4, hv, h⟩ := bW_inv h
  refine V_callVo C 20 g_2 (gr_0in g_2 hg_2) none (con_X1_restart hl g_2 hg_2 hv) tb_X1_restart lk_RX0_77 rfl rfl rfl (by decide) (by decide) rfl (Nat.le_of_ble_eq_true rfl) rfl dX0_pushNumbers_20 rfl ?_
  clear hv
  refine V_iload_n C 3 dX0_pushNumbers_23 rfl 3 rfl ?_
  refine V_iconst C (1 : Int32) dX0_pushNumbers_24 (by decide) ?_
  obtain ⟨j_6, hj_6, h⟩ := jn_ex h
  have J_6 : ∀ (μ_5 : Mem) x, j_6 μ_5 = some x → V Y l E lvC 5 (rBu x) 34 [(0, .ref (E.1 14 0)), (1, .ref (E.1 1 0)), (2, .int a2), (3, .int x_1), (4, .ref (E.1 20 g_2))] [] μ_5 := by
    intro μ_5  x h
    rw [hj_6] at h; clear hj_6
    refine V_aload_n C 1 dX0_pushNumbers_34 rfl 1 rfl ?_
    refine V_getf (v := .ref (E.1 10 0)) C 1 0 m_1 fl_RX0_84 rfl rfl dX0_pushNumbers_35 ?_
    refine V_aload_n C 1 dX0_pushNumbers_38 rfl 1 rfl ?_
    refine V_getf (v := .ref (E.1 5 0)) C 1 0 m_1 fl_RX0_58 rfl rfl dX0_pushNumbers_39 ?_
    refine V_iload_n C 2 dX0_pushNumbers_42 rfl 2 rfl ?_
    obtain ⟨hi9, h⟩ := gd_inv h
    refine V_iald C 5 0 m_5 (fun _ => rfl) (inb_in hi9) dX0_pushNumbers_43 ?_
    refine V_aload C dX0_pushNumbers_44 4 rfl ?_
    refine V_getf (v := .ref (E.1 22 g_2)) C 20 g_2 (gr_0in g_2 hg_2) fl_RX0_87 rfl rfl dX0_pushNumbers_46 ?_
    refine V_iconst C (0 : Int32) dX0_pushNumbers_49 (by decide) ?_
    refine V_iload_n C 3 dX0_pushNumbers_50 rfl 3 rfl ?_
    obtain ⟨hq9, h⟩ := gd_inv h
    obtain ⟨q1, q2, q3, q4, q5⟩ := cpok_g hq9
    refine V_copyi C 10 0 22 g_2 m_10 (gr_2in g_2 hg_2) (fun _ => rfl) (fun _ => rfl) lk_RX0_90 w_cp1 w_cp2 w_cp3 q1 q2 q3 q4 q5 (Nat.le_of_ble_eq_true rfl) dX0_pushNumbers_51 ?_
    refine V_memn (fun μ_7 hn9 => ?_)
    replace h := lt_eq hn9 h; clear hn9
    refine V_aload_n C 0 dX0_pushNumbers_54 rfl 0 rfl ?_
    refine V_dup C dX0_pushNumbers_55 rfl ?_
    refine V_getf (v := .int (μ_7 14 0 4)) C 14 0 m_14 fl_RX0_29 rfl rfl dX0_pushNumbers_56 ?_
    refine V_iconst C (1 : Int32) dX0_pushNumbers_59 (by decide) ?_
    refine V_iadd C dX0_pushNumbers_60 ?_
    refine V_putI C 14 0 m_14 fp_RX0_29 rfl rfl rfl rfl (Nat.le_of_ble_eq_true rfl) dX0_pushNumbers_61 ?_
    refine V_memn (fun μ_8 hn9 => ?_)
    replace h := lt_eq hn9 h; clear hn9
    cases h
    exact V_return C rfl rfl dX0_pushNumbers_64
  clear hj_6
  refine V_icmp_le C (tgt := 34) dX0_pushNumbers_25 (by decide) (fun hc => ?_) (fun hc => ?_)
  · replace h := (if_pos hc).symm.trans h
    refine V_sub (LP := [(0, .ref (E.1 14 0)), (1, .ref (E.1 1 0)), (2, .int a2), (3, .int x_1), (4, .ref (E.1 20 g_2))]) [0, 1, 2, 3, 4] rfl ?_
    exact J_6 _ _ h
  · replace h := (if_neg hc).symm.trans h
    refine V_aload C dX0_pushNumbers_28 4 rfl ?_
    refine V_iload_n C 3 dX0_pushNumbers_30 rfl 3 rfl ?_
    rcases bB_inv h with ⟨e_11, μ_10, hv, h⟩ | ⟨u_9, μ_10, hv, h⟩
    · cases h; exact V_callVe C 20 g_2 (gr_0in g_2 hg_2) e_11 (con_X1_addAxis hl g_2 x_1 hg_2 hv) tb_X1_addAxis lk_RX0_80 rfl rfl rfl (by decide) (by decide) rfl (Nat.le_of_ble_eq_true rfl) rfl dX0_pushNumbers_31 rfl
    refine V_callVo C 20 g_2 (gr_0in g_2 hg_2) none (con_X1_addAxis hl g_2 x_1 hg_2 hv) tb_X1_addAxis lk_RX0_80 rfl rfl rfl (by decide) (by decide) rfl (Nat.le_of_ble_eq_true rfl) rfl dX0_pushNumbers_31 rfl ?_
    clear hv
    refine V_sub (LP := [(0, .ref (E.1 14 0)), (1, .ref (E.1 1 0)), (2, .int a2), (3, .int x_1), (4, .ref (E.1 20 g_2))]) [0, 1, 2, 3, 4] rfl ?_
    exact J_6 _ _ h
set_option maxHeartbeats 4000000 in
set_option maxRecDepth 100000 in
theorem con_X0_endsTerm {l : Launch} {E : WE} (hl : l.stackTraces = false) (a2 : Int32)  {μ : Mem} {x} (h : f_X0_endsTerm a2 μ = some x) : Con l E lvC yX0_endsTerm cX0_endsTerm 4 (some .boolean) 4 [.ref (E.1 14 0), .ref (E.1 1 0), .int a2, .ref (E.1 11 0)] μ (rBi x) := by
  refine Con.of (by decide) hl (Nat.le_of_ble_eq_true rfl) (fun Y C => ?_)
  replace C : Ok Y l E lvC 4 RX0 cX0_endsTerm (some .boolean) 4 := C
  show V Y l E lvC 4 (rBi x) 0 [(0, .ref (E.1 14 0)), (1, .ref (E.1 1 0)), (2, .int a2), (3, .ref (E.1 11 0))] [] μ
  unfold f_X0_endsTerm at h
  refine V_aload_n C 1 dX0_endsTerm_0 rfl 1 rfl ?_
  refine V_getf (v := .ref (E.1 4 0)) C 1 0 m_1 fl_RX0_44 rfl rfl dX0_endsTerm_1 ?_
  refine V_iload_n C 2 dX0_endsTerm_4 rfl 2 rfl ?_
  obtain ⟨hi9, h⟩ := gd_inv h
  refine V_iald C 4 0 m_4 (fun _ => rfl) (inb_in hi9) dX0_endsTerm_5 ?_
  obtain ⟨j_2, hj_2, h⟩ := jn_ex h
  have J_2 : ∀ (μ_1 : Mem) x, j_2 μ_1 = some x → V Y l E lvC 4 (rBi x) 120 [(0, .ref (E.1 14 0)), (1, .ref (E.1 1 0)), (2, .int a2)] [] μ_1 := by
    intro μ_1  x h
    rw [hj_2] at h; clear hj_2
    refine V_aload_n C 0 dX0_endsTerm_120 rfl 0 rfl ?_
    refine V_aload_n C 1 dX0_endsTerm_121 rfl 1 rfl ?_
    refine V_iload_n C 2 dX0_endsTerm_122 rfl 2 rfl ?_
    rcases bB_inv h with ⟨e_5, μ_4, hv, h⟩ | ⟨u_3, μ_4, hv, h⟩
    · cases h; exact V_callVe C 14 0 m_14 e_5 (con_X0_pushNumbers hl a2 hv) tb_X0_pushNumbers lk_RX0_71 rfl rfl rfl (by decide) (by decide) rfl (Nat.le_of_ble_eq_true rfl) rfl dX0_endsTerm_123 rfl
    refine V_callVo C 14 0 m_14 none (con_X0_pushNumbers hl a2 hv) tb_X0_pushNumbers lk_RX0_71 rfl rfl rfl (by decide) (by decide) rfl (Nat.le_of_ble_eq_true rfl) rfl dX0_endsTerm_123 rfl ?_
    clear hv
    refine V_iconst C (1 : Int32) dX0_endsTerm_126 (by decide) ?_
    cases h
    exact V_ireturn C rfl rfl rfl dX0_endsTerm_127
  clear hj_2
  by_cases hk0 : (μ 4 0 (a2).toNatClampNeg) = (1 : Int32)
  · replace h := (if_pos hk0).symm.trans h
    refine V_tableIn C (80) 86 dX0_endsTerm_6 (by rw [hk0]; decide +kernel) (by rw [hk0]; decide +kernel) (by rw [hk0]; decide +kernel) (by decide) ?_
    refine V_aload_n C 0 dX0_endsTerm_86 rfl 0 rfl ?_
    refine V_getf (v := .ref (E.1 15 0)) C 14 0 m_14 fl_RX0_13 rfl rfl dX0_endsTerm_87 ?_
    refine V_aload_n C 0 dX0_endsTerm_90 rfl 0 rfl ?_
    refine V_getf (v := .int (μ 14 0 4)) C 14 0 m_14 fl_RX0_29 rfl rfl dX0_endsTerm_91 ?_
    obtain ⟨hi9, h⟩ := gd_inv h
    refine V_aald (a := E.1 20 (μ 15 0 ((μ 14 0 4)).toNatClampNeg).toNatClampNeg) C 15 0 m_15 rfl (inb_in hi9) rfl dX0_endsTerm_94 ?_
    refine V_topg (fun g_6 hn9 => ?_)
    replace h := lt_eq hn9 h; clear hn9
    obtain ⟨hg_6, h⟩ := gd_inv h
    replace hg_6 := dec_t hg_6
    refine V_aload_n C 3 dX0_endsTerm_95 rfl 3 rfl ?_
    refine V_aload_n C 1 dX0_endsTerm_96 rfl 1 rfl ?_
    refine V_getf (v := .ref (E.1 5 0)) C 1 0 m_1 fl_RX0_58 rfl rfl dX0_endsTerm_97 ?_
    refine V_iload_n C 2 dX0_endsTerm_100 rfl 2 rfl ?_
    obtain ⟨hi9, h⟩ := gd_inv h
    refine V_iald C 5 0 m_5 (fun _ => rfl) (inb_in hi9) dX0_endsTerm_101 ?_
    rcases bT_inv h with ⟨e_8, hv, h⟩ | ⟨v_7, hv, h⟩
    · cases h; exact V_callVe C 11 0 m_11 e_8 (con_X2_find hl (μ 5 0 (a2).toNatClampNeg) hv) tb_X2_find lk_RX0_61 rfl rfl rfl (by decide) (by decide) rfl (Nat.le_of_ble_eq_true rfl) rfl dX0_endsTerm_102 rfl
    refine V_callVo C 11 0 m_11 (some (.ref (E.1 20 v_7))) (con_X2_find hl (μ 5 0 (a2).toNatClampNeg) hv) tb_X2_find lk_RX0_61 rfl rfl rfl (by decide) (by decide) rfl (Nat.le_of_ble_eq_true rfl) rfl dX0_endsTerm_102 rfl ?_
    clear hv
    obtain ⟨hv_7, h⟩ := gd_inv h
    replace hv_7 := dec_t hv_7
    rcases bB_inv h with ⟨e_11, μ_10, hv, h⟩ | ⟨u_9, μ_10, hv, h⟩
    · cases h; exact V_callVe C 20 g_6 (gr_0in g_6 hg_6) e_11 (con_X1_copy hl g_6 v_7 hg_6 hv_7 hv) tb_X1_copy lk_RX0_67 rfl rfl rfl (by decide) (by decide) rfl (Nat.le_of_ble_eq_true rfl) rfl dX0_endsTerm_105 rfl
    refine V_callVo C 20 g_6 (gr_0in g_6 hg_6) none (con_X1_copy hl g_6 v_7 hg_6 hv_7 hv) tb_X1_copy lk_RX0_67 rfl rfl rfl (by decide) (by decide) rfl (Nat.le_of_ble_eq_true rfl) rfl dX0_endsTerm_105 rfl ?_
    clear hv
    refine V_aload_n C 0 dX0_endsTerm_108 rfl 0 rfl ?_
    refine V_dup C dX0_endsTerm_109 rfl ?_
    refine V_getf (v := .int (μ_10 14 0 4)) C 14 0 m_14 fl_RX0_29 rfl rfl dX0_endsTerm_110 ?_
    refine V_iconst C (1 : Int32) dX0_endsTerm_113 (by decide) ?_
    refine V_iadd C dX0_endsTerm_114 ?_
    refine V_putI C 14 0 m_14 fp_RX0_29 rfl rfl rfl rfl (Nat.le_of_ble_eq_true rfl) dX0_endsTerm_115 ?_
    refine V_memn (fun μ_12 hn9 => ?_)
    replace h := lt_eq hn9 h; clear hn9
    refine V_iconst C (1 : Int32) dX0_endsTerm_118 (by decide) ?_
    cases h
    exact V_ireturn C rfl rfl rfl dX0_endsTerm_119
  replace h := (if_neg hk0).symm.trans h
  by_cases hk1 : (μ 4 0 (a2).toNatClampNeg) = (2 : Int32)
  · replace h := (if_pos hk1).symm.trans h
    refine V_tableIn C (68) 74 dX0_endsTerm_6 (by rw [hk1]; decide +kernel) (by rw [hk1]; decide +kernel) (by rw [hk1]; decide +kernel) (by decide) ?_
    refine V_aload_n C 0 dX0_endsTerm_74 rfl 0 rfl ?_
    refine V_dup C dX0_endsTerm_75 rfl ?_
    refine V_getf (v := .int (μ 14 0 5)) C 14 0 m_14 fl_RX0_33 rfl rfl dX0_endsTerm_76 ?_
    refine V_iconst C (1 : Int32) dX0_endsTerm_79 (by decide) ?_
    refine V_isub C dX0_endsTerm_80 ?_
    refine V_putI C 14 0 m_14 fp_RX0_33 rfl rfl rfl rfl (Nat.le_of_ble_eq_true rfl) dX0_endsTerm_81 ?_
    refine V_memn (fun μ_13 hn9 => ?_)
    replace h := lt_eq hn9 h; clear hn9
    refine V_iconst C (1 : Int32) dX0_endsTerm_84 (by decide) ?_
    cases h
    exact V_ireturn C rfl rfl rfl dX0_endsTerm_85
  replace h := (if_neg hk1).symm.trans h
  by_cases hk2 : (μ 4 0 (a2).toNatClampNeg) = (3 : Int32)
  · replace h := (if_pos hk2).symm.trans h
    refine V_tableIn C (34) 40 dX0_endsTerm_6 (by rw [hk2]; decide +kernel) (by rw [hk2]; decide +kernel) (by rw [hk2]; decide +kernel) (by decide) ?_
    refine V_aload_n C 0 dX0_endsTerm_40 rfl 0 rfl ?_
    refine V_dup C dX0_endsTerm_41 rfl ?_
    refine V_getf (v := .int (μ 14 0 5)) C 14 0 m_14 fl_RX0_33 rfl rfl dX0_endsTerm_42 ?_
    refine V_iconst C (1 : Int32) dX0_endsTerm_45 (by decide) ?_
    refine V_iadd C dX0_endsTerm_46 ?_
    refine V_putI C 14 0 m_14 fp_RX0_33 rfl rfl rfl rfl (Nat.le_of_ble_eq_true rfl) dX0_endsTerm_47 ?_
    refine V_memn (fun μ_14 hn9 => ?_)
    replace h := lt_eq hn9 h; clear hn9
    refine V_aload_n C 0 dX0_endsTerm_50 rfl 0 rfl ?_
    refine V_getf (v := .ref (E.1 16 0)) C 14 0 m_14 fl_RX0_17 rfl rfl dX0_endsTerm_51 ?_
    refine V_aload_n C 0 dX0_endsTerm_54 rfl 0 rfl ?_
    refine V_getf (v := .int (μ_14 14 0 5)) C 14 0 m_14 fl_RX0_33 rfl rfl dX0_endsTerm_55 ?_
    refine V_iconst C (-1 : Int32) dX0_endsTerm_58 (by decide) ?_
    obtain ⟨hi9, h⟩ := gd_inv h
    refine V_iast C 16 0 m_16 (fun _ => rfl) (inb_in hi9) dX0_endsTerm_59 ?_
    refine V_memn (fun μ_15 hn9 => ?_)
    replace h := lt_eq hn9 h; clear hn9
    refine V_iconst C (0 : Int32) dX0_endsTerm_60 (by decide) ?_
    cases h
    exact V_ireturn C rfl rfl rfl dX0_endsTerm_61
  replace h := (if_neg hk2).symm.trans h
  by_cases hk3 : (μ 4 0 (a2).toNatClampNeg) = (5 : Int32)
  · replace h := (if_pos hk3).symm.trans h
    refine V_tableIn C (56) 62 dX0_endsTerm_6 (by rw [hk3]; decide +kernel) (by rw [hk3]; decide +kernel) (by rw [hk3]; decide +kernel) (by decide) ?_
    refine V_aload_n C 0 dX0_endsTerm_62 rfl 0 rfl ?_
    refine V_getf (v := .ref (E.1 16 0)) C 14 0 m_14 fl_RX0_17 rfl rfl dX0_endsTerm_63 ?_
    refine V_aload_n C 0 dX0_endsTerm_66 rfl 0 rfl ?_
    refine V_getf (v := .int (μ 14 0 5)) C 14 0 m_14 fl_RX0_33 rfl rfl dX0_endsTerm_67 ?_
    refine V_iload_n C 2 dX0_endsTerm_70 rfl 2 rfl ?_
    obtain ⟨hi9, h⟩ := gd_inv h
    refine V_iast C 16 0 m_16 (fun _ => rfl) (inb_in hi9) dX0_endsTerm_71 ?_
    refine V_memn (fun μ_16 hn9 => ?_)
    replace h := lt_eq hn9 h; clear hn9
    refine V_iconst C (0 : Int32) dX0_endsTerm_72 (by decide) ?_
    cases h
    exact V_ireturn C rfl rfl rfl dX0_endsTerm_73
  replace h := (if_neg hk3).symm.trans h
  by_cases hh0 : (μ 4 0 (a2).toNatClampNeg) = (4 : Int32)
  · refine V_tableIn C (114) 120 dX0_endsTerm_6 (by rw [hh0]; decide +kernel) (by rw [hh0]; decide +kernel) (by rw [hh0]; decide +kernel) (by decide) ?_
    refine V_sub (LP := [(0, .ref (E.1 14 0)), (1, .ref (E.1 1 0)), (2, .int a2)]) [0, 1, 2] rfl ?_
    exact J_2 _ _ h
  have ne0 := lv_neT (a := 1) hk0 (by decide +kernel)
  have ne1 := lv_neT (a := 2) hk1 (by decide +kernel)
  have ne2 := lv_neT (a := 3) hk2 (by decide +kernel)
  have ne3 := lv_neT (a := 5) hk3 (by decide +kernel)
  have ne4 := lv_neT (a := 4) hh0 (by decide +kernel)
  refine V_tableOut C 120 dX0_endsTerm_6 (by omega) (by decide) ?_
  refine V_sub (LP := [(0, .ref (E.1 14 0)), (1, .ref (E.1 1 0)), (2, .int a2)]) [0, 1, 2] rfl ?_
  exact J_2 _ _ h
set_option maxHeartbeats 4000000 in
set_option maxRecDepth 100000 in
theorem con_X1_isScalar {l : Launch} {E : WE} (hl : l.stackTraces = false) (g0 : Nat) (hg0 : g0 < 18) {μ : Mem} {x} (h : f_X1_isScalar g0 μ = some x) : Con l E lvC yX1_isScalar cX1_isScalar 1 (some .boolean) 0 [.ref (E.1 20 g0)] μ (rPi x μ) := by
  refine Con.of (by decide) hl (Nat.le_of_ble_eq_true rfl) (fun Y C => ?_)
  replace C : Ok Y l E lvC 1 RX1 cX1_isScalar (some .boolean) 0 := C
  show V Y l E lvC 1 (rPi x μ) 0 [(0, .ref (E.1 20 g0))] [] μ
  unfold f_X1_isScalar at h
  refine V_aload_n C 0 dX1_isScalar_0 rfl 0 rfl ?_
  refine V_getf (v := .int (μ 20 g0 2)) C 20 g0 (gr_0in g0 hg0) fl_RX1_22 rfl rfl dX1_isScalar_1 ?_
  refine V_if_ne C (tgt := 11) dX1_isScalar_4 (by decide) (fun hc => ?_) (fun hc => ?_)
  · replace h := (if_neg hc).symm.trans h
    refine V_iconst C (0 : Int32) dX1_isScalar_11 (by decide) ?_
    cases h
    exact V_ireturn C rfl rfl rfl dX1_isScalar_12
  · replace h := (if_pos hc).symm.trans h
    refine V_iconst C (1 : Int32) dX1_isScalar_7 (by decide) ?_
    refine V_goto C (tgt := 12) dX1_isScalar_8 (by decide) ?_
    cases h
    exact V_ireturn C rfl rfl rfl dX1_isScalar_12
set_option maxHeartbeats 4000000 in
set_option maxRecDepth 100000 in
theorem lp_X1_span_5 {Y : Mc} {l : Launch} {E : WE} (hl : l.stackTraces = false) (C : Ok Y l E lvC 5 RX1 cX1_span (some .int) 0) {κ : Int32 → Option (Int32)} (g_1 : Nat) (c2_2 : Int32) (μ_5 : Mem) (hg_1 : g_1 < 18) (hκ : ∀ (a3_8 : Int32) x, κ a3_8 = some x → V Y l E lvC 5 (rPi x μ_5) 27 [(3, .int a3_8)] [] μ_5) : ∀ (n : Nat) (a3_3 : Int32) (a4_4 : Int32) {x}, f_X1_span_L5 κ g_1 c2_2 μ_5 n a3_3 a4_4 = some x → V Y l E lvC 5 (rPi x μ_5) 5 [(0, .ref (E.1 20 g_1)), (2, .int c2_2), (3, .int a3_3), (4, .int a4_4)] [] μ_5 := by
  intro n
  induction n with
  | zero =>
    intro a3_3 a4_4 x h
    simp [f_X1_span_L5] at h
  | succ n ih =>
    intro a3_3 a4_4 x h
    rw [f_X1_span_L5] at h
    refine V_iload C dX1_span_5 3 rfl ?_
    refine V_iload_n C 2 dX1_span_7 rfl 1 rfl ?_
    refine V_icmp_ge C (tgt := 27) dX1_span_8 (by decide) (fun hc => ?_) (fun hc => ?_)
    · replace h := (if_pos hc).symm.trans h
      refine V_sub (LP := [(3, .int a3_3)]) [2] rfl ?_
      exact hκ _ _ h
    · replace h := (if_neg hc).symm.trans h
      refine V_iload_n C 3 dX1_span_11 rfl 2 rfl ?_
      refine V_aload_n C 0 dX1_span_12 rfl 0 rfl ?_
      refine V_getf (v := .ref (E.1 21 g_1)) C 20 g_1 (gr_0in g_1 hg_1) fl_RX1_9 rfl rfl dX1_span_13 ?_
      refine V_iload C dX1_span_16 3 rfl ?_
      obtain ⟨hi9, h⟩ := gd_inv h
      refine V_iald C 21 g_1 (gr_1in g_1 hg_1) (fun _ => rfl) (inb_in hi9) dX1_span_18 ?_
      refine V_imul C dX1_span_19 ?_
      refine V_topi (fun x_6 hn9 => ?_)
      replace h := lt_eq hn9 h; clear hn9
      refine V_istore_n (L' := [(0, .ref (E.1 20 g_1)), (2, .int c2_2), (3, .int x_6), (4, .int a4_4)]) C 3 dX1_span_20 rfl (by decide) [1, 2, 0, 3] rfl ?_
      obtain ⟨x_7, hn9⟩ : ∃ z : Int32, z = a4_4 + (1 : Int32) := ⟨_, rfl⟩
      replace h := lt_eq hn9 h
      refine V_iinc (L' := [(0, .ref (E.1 20 g_1)), (2, .int c2_2), (3, .int x_6), (4, .int x_7)]) C x_7 dX1_span_21 3 rfl (by rw [hn9]; exact congrArg (a4_4 + ·) (by decide)) (by decide) [1, 2, 3, 0] rfl ?_
      clear hn9
      refine V_goto C (tgt := 5) dX1_span_24 (by decide) ?_
      refine V_sub (LP := [(0, .ref (E.1 20 g_1)), (2, .int c2_2), (3, .int x_6), (4, .int x_7)]) [0, 1, 2, 3] rfl ?_
      exact ih _ _ h
set_option maxHeartbeats 4000000 in
set_option maxRecDepth 100000 in
theorem con_X1_span {l : Launch} {E : WE} (hl : l.stackTraces = false) (g0 : Nat) (a1 : Int32) (a2 : Int32) (hg0 : g0 < 18) {μ : Mem} {x} (h : f_X1_span g0 a1 a2 μ = some x) : Con l E lvC yX1_span cX1_span 5 (some .int) 0 [.ref (E.1 20 g0), .int a1, .int a2] μ (rPi x μ) := by
  refine Con.of (by decide) hl (Nat.le_of_ble_eq_true rfl) (fun Y C => ?_)
  replace C : Ok Y l E lvC 5 RX1 cX1_span (some .int) 0 := C
  show V Y l E lvC 5 (rPi x μ) 0 [(0, .ref (E.1 20 g0)), (1, .int a1), (2, .int a2)] [] μ
  unfold f_X1_span at h
  refine V_iconst C (1 : Int32) dX1_span_0 (by decide) ?_
  refine V_istore_n (L' := [(0, .ref (E.1 20 g0)), (1, .int a1), (2, .int a2), (3, .int (1 : Int32))]) C 3 dX1_span_1 rfl (by decide) [1, 2, 3, 0] rfl ?_
  refine V_iload_n C 1 dX1_span_2 rfl 1 rfl ?_
  refine V_istore (L' := [(0, .ref (E.1 20 g0)), (1, .int a1), (2, .int a2), (3, .int (1 : Int32)), (4, .int a1)]) C dX1_span_3 (by decide) [1, 2, 3, 4, 0] rfl ?_
  refine V_sub (LP := [(0, .ref (E.1 20 g0)), (2, .int a2), (3, .int (1 : Int32)), (4, .int a1)]) [0, 2, 3, 4] rfl ?_
  refine lp_X1_span_5 hl C g0 a2 μ hg0 (fun a3_9 x h => ?_) 1000 _ _ h
  refine V_iload_n C 3 dX1_span_27 rfl 0 rfl ?_
  cases h
  exact V_ireturn C rfl rfl rfl dX1_span_28
set_option maxHeartbeats 4000000 in
set_option maxRecDepth 100000 in
theorem lp_X3_inner_122 {Y : Mc} {l : Launch} {E : WE} (hl : l.stackTraces = false) (C : Ok Y l E lvC 12 RX3 cX3_inner none 3) {κ : Mem → Option (Except Nat Unit × Mem)} (c0_26 : Int32) (c1_27 : Int32) (g_28 : Nat) (g_29 : Nat) (g_30 : Nat) (k_31 : Nat) (i_32 : Nat) (c6_33 : Int32) (c7_34 : Int32) (c8_35 : Int32) (c9_36 : Int32) (c10_37 : Int32) (hg_28 : g_28 < 18) (hg_29 : g_29 < 18) (hg_30 : g_30 < 18) (hmk_31 : (k_31, i_32) ∈ lvC) (hck_31 : ∀ f : Nat → Int32, celk E k_31 i_32 f = .inl (E.2.2.1 0, 48, .inl f)) (hκ : ∀  (μ_44 : Mem) x, κ  μ_44 = some x → V Y l E lvC 12 (rBu x) 170 [(0, .int c0_26), (1, .int c1_27), (2, .ref (E.1 20 g_28)), (3, .ref (E.1 20 g_29)), (4, .ref (E.1 20 g_30)), (5, .ref (E.1 k_31 i_32)), (6, .int c6_33), (7, .int c7_34), (8, .int c8_35), (9, .int c9_36), (10, .int c10_37)] [] μ_44) : ∀ (n : Nat) (a11_38 : Int32) (μ_39 : Mem) {x}, f_X3_inner_L122 κ c0_26 c1_27 g_28 g_29 g_30 k_31 i_32 c6_33 c7_34 c8_35 c9_36 c10_37 n a11_38 μ_39 = some x → V Y l E lvC 12 (rBu x) 122 [(0, .int c0_26), (1, .int c1_27), (2, .ref (E.1 20 g_28)), (3, .ref (E.1 20 g_29)), (4, .ref (E.1 20 g_30)), (5, .ref (E.1 k_31 i_32)), (6, .int c6_33), (7, .int c7_34), (8, .int c8_35), (9, .int c9_36), (10, .int c10_37), (11, .int a11_38)] [] μ_39 := by
  intro n
  induction n with
  | zero =>
    intro a11_38 μ_39 x h
    simp [f_X3_inner_L122] at h
  | succ n ih =>
    intro a11_38 μ_39 x h
    rw [f_X3_inner_L122] at h
    refine V_iload C dX3_inner_122 11 rfl ?_
    refine V_iload C dX3_inner_124 6 rfl ?_
    refine V_icmp_ge C (tgt := 170) dX3_inner_126 (by decide) (fun hc => ?_) (fun hc => ?_)
    · replace h := (if_pos hc).symm.trans h
      refine V_sub (LP := [(0, .int c0_26), (1, .int c1_27), (2, .ref (E.1 20 g_28)), (3, .ref (E.1 20 g_29)), (4, .ref (E.1 20 g_30)), (5, .ref (E.1 k_31 i_32)), (6, .int c6_33), (7, .int c7_34), (8, .int c8_35), (9, .int c9_36), (10, .int c10_37)]) [0, 1, 2, 3, 4, 5, 6, 7, 8, 9, 10] rfl ?_
      exact hκ _ _ h
    · replace h := (if_neg hc).symm.trans h
      refine V_aload C dX3_inner_129 5 rfl ?_
      refine V_iload C dX3_inner_131 11 rfl ?_
      refine V_iload_n C 1 dX3_inner_133 rfl 1 rfl ?_
      refine V_aload_n C 2 dX3_inner_134 rfl 2 rfl ?_
      refine V_getf (v := .ref (E.1 22 g_28)) C 20 g_28 (gr_0in g_28 hg_28) fl_RX3_61 rfl rfl dX3_inner_135 ?_
      refine V_iload C dX3_inner_138 8 rfl ?_
      refine V_iload C dX3_inner_140 6 rfl ?_
      refine V_imul C dX3_inner_142 ?_
      refine V_iload C dX3_inner_143 11 rfl ?_
      refine V_iadd C dX3_inner_145 ?_
      obtain ⟨hi9, h⟩ := gd_inv h
      refine V_iald C 22 g_28 (gr_2in g_28 hg_28) (fun _ => rfl) (inb_in hi9) dX3_inner_146 ?_
      refine V_aload_n C 3 dX3_inner_147 rfl 3 rfl ?_
      refine V_getf (v := .ref (E.1 22 g_29)) C 20 g_29 (gr_0in g_29 hg_29) fl_RX3_61 rfl rfl dX3_inner_148 ?_
      refine V_iload C dX3_inner_151 11 rfl ?_
      refine V_iload C dX3_inner_153 7 rfl ?_
      refine V_imul C dX3_inner_155 ?_
      refine V_iload C dX3_inner_156 9 rfl ?_
      refine V_iadd C dX3_inner_158 ?_
      obtain ⟨hi9, h⟩ := gd_inv h
      refine V_iald C 22 g_29 (gr_2in g_29 hg_29) (fun _ => rfl) (inb_in hi9) dX3_inner_159 ?_
      rcases bT_inv h with ⟨e_41, hv, h⟩ | ⟨v_40, hv, h⟩
      · cases h; exact V_callSe C e_41 (con_X3_work hl c1_27 (μ_39 22 g_28 (((c8_35 * c6_33) + a11_38)).toNatClampNeg) (μ_39 22 g_29 (((a11_38 * c7_34) + c9_36)).toNatClampNeg) hv) tb_X3_work lk_RX3_47 (by decide) (by decide) rfl (Nat.le_of_ble_eq_true rfl) rfl dX3_inner_160 rfl
      refine V_callSo C (some (.int v_40)) (con_X3_work hl c1_27 (μ_39 22 g_28 (((c8_35 * c6_33) + a11_38)).toNatClampNeg) (μ_39 22 g_29 (((a11_38 * c7_34) + c9_36)).toNatClampNeg) hv) tb_X3_work lk_RX3_47 (by decide) (by decide) rfl (Nat.le_of_ble_eq_true rfl) rfl dX3_inner_160 rfl ?_
      clear hv
      obtain ⟨hi9, h⟩ := gd_inv h
      refine V_iast C k_31 i_32 hmk_31 hck_31 (inb_in hi9) dX3_inner_163 ?_
      refine V_memn (fun μ_42 hn9 => ?_)
      replace h := lt_eq hn9 h; clear hn9
      obtain ⟨x_43, hn9⟩ : ∃ z : Int32, z = a11_38 + (1 : Int32) := ⟨_, rfl⟩
      replace h := lt_eq hn9 h
      refine V_iinc (L' := [(0, .int c0_26), (1, .int c1_27), (2, .ref (E.1 20 g_28)), (3, .ref (E.1 20 g_29)), (4, .ref (E.1 20 g_30)), (5, .ref (E.1 k_31 i_32)), (6, .int c6_33), (7, .int c7_34), (8, .int c8_35), (9, .int c9_36), (10, .int c10_37), (11, .int x_43)]) C x_43 dX3_inner_164 11 rfl (by rw [hn9]; exact congrArg (a11_38 + ·) (by decide)) (by decide) [1, 2, 3, 4, 5, 6, 7, 8, 9, 10, 11, 0] rfl ?_
      clear hn9
      refine V_goto C (tgt := 122) dX3_inner_167 (by decide) ?_
      refine V_sub (LP := [(0, .int c0_26), (1, .int c1_27), (2, .ref (E.1 20 g_28)), (3, .ref (E.1 20 g_29)), (4, .ref (E.1 20 g_30)), (5, .ref (E.1 k_31 i_32)), (6, .int c6_33), (7, .int c7_34), (8, .int c8_35), (9, .int c9_36), (10, .int c10_37), (11, .int x_43)]) [0, 1, 2, 3, 4, 5, 6, 7, 8, 9, 10, 11] rfl ?_
      exact ih _ _ h
set_option maxHeartbeats 4000000 in
set_option maxRecDepth 100000 in
theorem lp_X3_inner_109 {Y : Mc} {l : Launch} {E : WE} (hl : l.stackTraces = false) (C : Ok Y l E lvC 12 RX3 cX3_inner none 3) {κ : Mem → Option (Except Nat Unit × Mem)} (c0_13 : Int32) (c1_14 : Int32) (g_15 : Nat) (g_16 : Nat) (g_17 : Nat) (k_18 : Nat) (i_19 : Nat) (c6_20 : Int32) (c7_21 : Int32) (hg_15 : g_15 < 18) (hg_16 : g_16 < 18) (hg_17 : g_17 < 18) (hmk_18 : (k_18, i_19) ∈ lvC) (hck_18 : ∀ f : Nat → Int32, celk E k_18 i_19 f = .inl (E.2.2.1 0, 48, .inl f)) (hκ : ∀  (μ_55 : Mem) x, κ  μ_55 = some x → V Y l E lvC 12 (rBu x) 209 [] [] μ_55) : ∀ (n : Nat) (a8_22 : Int32) (a9_23 : Int32) (a10_24 : Int32) (μ_25 : Mem) {x}, f_X3_inner_L109 κ c0_13 c1_14 g_15 g_16 g_17 k_18 i_19 c6_20 c7_21 n a8_22 a9_23 a10_24 μ_25 = some x → V Y l E lvC 12 (rBu x) 109 [(0, .int c0_13), (1, .int c1_14), (2, .ref (E.1 20 g_15)), (3, .ref (E.1 20 g_16)), (4, .ref (E.1 20 g_17)), (5, .ref (E.1 k_18 i_19)), (6, .int c6_20), (7, .int c7_21), (8, .int a8_22), (9, .int a9_23), (10, .int a10_24)] [] μ_25 := by
  intro n
  induction n with
  | zero =>
    intro a8_22 a9_23 a10_24 μ_25 x h
    simp [f_X3_inner_L109] at h
  | succ n ih =>
    intro a8_22 a9_23 a10_24 μ_25 x h
    rw [f_X3_inner_L109] at h
    refine V_iload C dX3_inner_109 10 rfl ?_
    refine V_aload C dX3_inner_111 4 rfl ?_
    refine V_getf (v := .int (μ_25 20 g_17 3)) C 20 g_17 (gr_0in g_17 hg_17) fl_RX3_57 rfl rfl dX3_inner_113 ?_
    refine V_icmp_ge C (tgt := 209) dX3_inner_116 (by decide) (fun hc => ?_) (fun hc => ?_)
    · replace h := (if_pos hc).symm.trans h
      refine V_sub (LP := []) [] rfl ?_
      exact hκ _ _ h
    · replace h := (if_neg hc).symm.trans h
      refine V_iconst C (0 : Int32) dX3_inner_119 (by decide) ?_
      refine V_istore (L' := [(0, .int c0_13), (1, .int c1_14), (2, .ref (E.1 20 g_15)), (3, .ref (E.1 20 g_16)), (4, .ref (E.1 20 g_17)), (5, .ref (E.1 k_18 i_19)), (6, .int c6_20), (7, .int c7_21), (8, .int a8_22), (9, .int a9_23), (10, .int a10_24), (11, .int (0 : Int32))]) C dX3_inner_120 (by decide) [1, 2, 3, 4, 5, 6, 7, 8, 9, 10, 11, 0] rfl ?_
      refine V_sub (LP := [(0, .int c0_13), (1, .int c1_14), (2, .ref (E.1 20 g_15)), (3, .ref (E.1 20 g_16)), (4, .ref (E.1 20 g_17)), (5, .ref (E.1 k_18 i_19)), (6, .int c6_20), (7, .int c7_21), (8, .int a8_22), (9, .int a9_23), (10, .int a10_24), (11, .int (0 : Int32))]) [0, 1, 2, 3, 4, 5, 6, 7, 8, 9, 10, 11] rfl ?_
      refine lp_X3_inner_122 hl C c0_13 c1_14 g_15 g_16 g_17 k_18 i_19 c6_20 c7_21 a8_22 a9_23 a10_24 hg_15 hg_16 hg_17 hmk_18 hck_18 (fun μ_45 x h => ?_) 1000 _ _ h
      refine V_aload C dX3_inner_170 4 rfl ?_
      refine V_getf (v := .ref (E.1 22 g_17)) C 20 g_17 (gr_0in g_17 hg_17) fl_RX3_61 rfl rfl dX3_inner_172 ?_
      refine V_iload C dX3_inner_175 10 rfl ?_
      refine V_iload_n C 0 dX3_inner_177 rfl 0 rfl ?_
      refine V_aload C dX3_inner_178 5 rfl ?_
      refine V_iconst C (0 : Int32) dX3_inner_180 (by decide) ?_
      refine V_iload C dX3_inner_181 6 rfl ?_
      rcases bT_inv h with ⟨e_47, hv, h⟩ | ⟨v_46, hv, h⟩
      · cases h; exact V_callSe C e_47 (con_X3_fold hl c0_13 k_18 i_19 (0 : Int32) c6_20 hmk_18 hck_18 hv) tb_X3_fold lk_RX3_104 (by decide) (by decide) rfl (Nat.le_of_ble_eq_true rfl) rfl dX3_inner_183 rfl
      refine V_callSo C (some (.int v_46)) (con_X3_fold hl c0_13 k_18 i_19 (0 : Int32) c6_20 hmk_18 hck_18 hv) tb_X3_fold lk_RX3_104 (by decide) (by decide) rfl (Nat.le_of_ble_eq_true rfl) rfl dX3_inner_183 rfl ?_
      clear hv
      obtain ⟨hi9, h⟩ := gd_inv h
      refine V_iast C 22 g_17 (gr_2in g_17 hg_17) (fun _ => rfl) (inb_in hi9) dX3_inner_186 ?_
      refine V_memn (fun μ_48 hn9 => ?_)
      replace h := lt_eq hn9 h; clear hn9
      obtain ⟨x_49, hn9⟩ : ∃ z : Int32, z = a9_23 + (1 : Int32) := ⟨_, rfl⟩
      replace h := lt_eq hn9 h
      refine V_iinc (L' := [(0, .int c0_13), (1, .int c1_14), (2, .ref (E.1 20 g_15)), (3, .ref (E.1 20 g_16)), (4, .ref (E.1 20 g_17)), (5, .ref (E.1 k_18 i_19)), (6, .int c6_20), (7, .int c7_21), (8, .int a8_22), (9, .int x_49), (10, .int a10_24)]) C x_49 dX3_inner_187 9 rfl (by rw [hn9]; exact congrArg (a9_23 + ·) (by decide)) (by decide) [1, 2, 3, 4, 5, 6, 7, 8, 9, 0, 10] rfl ?_
      clear hn9
      refine V_iload C dX3_inner_190 9 rfl ?_
      refine V_iload C dX3_inner_192 7 rfl ?_
      obtain ⟨j_52, hj_52, h⟩ := jn_ex h
      have J_52 : ∀ (a8_50 : Int32) (a9_51 : Int32) x, j_52 a8_50 a9_51 = some x → V Y l E lvC 12 (rBu x) 203 [(0, .int c0_13), (1, .int c1_14), (2, .ref (E.1 20 g_15)), (3, .ref (E.1 20 g_16)), (4, .ref (E.1 20 g_17)), (5, .ref (E.1 k_18 i_19)), (6, .int c6_20), (7, .int c7_21), (8, .int a8_50), (9, .int a9_51), (10, .int a10_24)] [] μ_48 := by
        intro a8_50 a9_51  x h
        rw [hj_52] at h; clear hj_52
        obtain ⟨x_53, hn9⟩ : ∃ z : Int32, z = a10_24 + (1 : Int32) := ⟨_, rfl⟩
        replace h := lt_eq hn9 h
        refine V_iinc (L' := [(0, .int c0_13), (1, .int c1_14), (2, .ref (E.1 20 g_15)), (3, .ref (E.1 20 g_16)), (4, .ref (E.1 20 g_17)), (5, .ref (E.1 k_18 i_19)), (6, .int c6_20), (7, .int c7_21), (8, .int a8_50), (9, .int a9_51), (10, .int x_53)]) C x_53 dX3_inner_203 10 rfl (by rw [hn9]; exact congrArg (a10_24 + ·) (by decide)) (by decide) [1, 2, 3, 4, 5, 6, 7, 8, 9, 10, 0] rfl ?_
        clear hn9
        refine V_goto C (tgt := 109) dX3_inner_206 (by decide) ?_
        refine V_sub (LP := [(0, .int c0_13), (1, .int c1_14), (2, .ref (E.1 20 g_15)), (3, .ref (E.1 20 g_16)), (4, .ref (E.1 20 g_17)), (5, .ref (E.1 k_18 i_19)), (6, .int c6_20), (7, .int c7_21), (8, .int a8_50), (9, .int a9_51), (10, .int x_53)]) [0, 1, 2, 3, 4, 5, 6, 7, 8, 9, 10] rfl ?_
        exact ih _ _ _ _ h
      clear hj_52
      refine V_icmp_ne C (tgt := 203) dX3_inner_194 (by decide) (fun hc => ?_) (fun hc => ?_)
      · replace h := (if_neg hc).symm.trans h
        refine V_sub (LP := [(0, .int c0_13), (1, .int c1_14), (2, .ref (E.1 20 g_15)), (3, .ref (E.1 20 g_16)), (4, .ref (E.1 20 g_17)), (5, .ref (E.1 k_18 i_19)), (6, .int c6_20), (7, .int c7_21), (8, .int a8_22), (9, .int x_49), (10, .int a10_24)]) [0, 1, 2, 3, 4, 5, 6, 7, 8, 9, 10] rfl ?_
        exact J_52 _ _ _ h
      · replace h := (if_pos hc).symm.trans h
        refine V_iconst C (0 : Int32) dX3_inner_197 (by decide) ?_
        refine V_istore (L' := [(0, .int c0_13), (1, .int c1_14), (2, .ref (E.1 20 g_15)), (3, .ref (E.1 20 g_16)), (4, .ref (E.1 20 g_17)), (5, .ref (E.1 k_18 i_19)), (6, .int c6_20), (7, .int c7_21), (8, .int a8_22), (9, .int (0 : Int32)), (10, .int a10_24)]) C dX3_inner_198 (by decide) [1, 2, 3, 4, 5, 6, 7, 8, 9, 0, 10] rfl ?_
        obtain ⟨x_54, hn9⟩ : ∃ z : Int32, z = a8_22 + (1 : Int32) := ⟨_, rfl⟩
        replace h := lt_eq hn9 h
        refine V_iinc (L' := [(0, .int c0_13), (1, .int c1_14), (2, .ref (E.1 20 g_15)), (3, .ref (E.1 20 g_16)), (4, .ref (E.1 20 g_17)), (5, .ref (E.1 k_18 i_19)), (6, .int c6_20), (7, .int c7_21), (8, .int x_54), (9, .int (0 : Int32)), (10, .int a10_24)]) C x_54 dX3_inner_200 8 rfl (by rw [hn9]; exact congrArg (a8_22 + ·) (by decide)) (by decide) [1, 2, 3, 4, 5, 6, 7, 8, 0, 9, 10] rfl ?_
        clear hn9
        refine V_sub (LP := [(0, .int c0_13), (1, .int c1_14), (2, .ref (E.1 20 g_15)), (3, .ref (E.1 20 g_16)), (4, .ref (E.1 20 g_17)), (5, .ref (E.1 k_18 i_19)), (6, .int c6_20), (7, .int c7_21), (8, .int x_54), (9, .int (0 : Int32)), (10, .int a10_24)]) [0, 1, 2, 3, 4, 5, 6, 7, 8, 9, 10] rfl ?_
        exact J_52 _ _ _ h
set_option maxHeartbeats 4000000 in
set_option maxRecDepth 100000 in
theorem con_X3_inner {l : Launch} {E : WE} (hl : l.stackTraces = false) (a0 : Int32) (a1 : Int32) (g2 : Nat) (g3 : Nat) (g4 : Nat) (k5 : Nat) (i5 : Nat) (hg2 : g2 < 18) (hg3 : g3 < 18) (hg4 : g4 < 18) (hm5 : (k5, i5) ∈ lvC) (hc5 : ∀ f : Nat → Int32, celk E k5 i5 f = .inl (E.2.2.1 0, 48, .inl f)) {μ : Mem} {x} (h : f_X3_inner a0 a1 g2 g3 g4 k5 i5 μ = some x) : Con l E lvC yX3_inner cX3_inner 12 none 3 [.int a0, .int a1, .ref (E.1 20 g2), .ref (E.1 20 g3), .ref (E.1 20 g4), .ref (E.1 k5 i5)] μ (rBu x) := by
  refine Con.of (by decide) hl (Nat.le_of_ble_eq_true rfl) (fun Y C => ?_)
  replace C : Ok Y l E lvC 12 RX3 cX3_inner none 3 := C
  show V Y l E lvC 12 (rBu x) 0 [(0, .int a0), (1, .int a1), (2, .ref (E.1 20 g2)), (3, .ref (E.1 20 g3)), (4, .ref (E.1 20 g4)), (5, .ref (E.1 k5 i5))] [] μ
  unfold f_X3_inner at h
  refine V_aload_n C 2 dX3_inner_0 rfl 2 rfl ?_
  obtain ⟨v_1, hv, h⟩ := bP_inv h
  refine V_callVo C 20 g2 (gr_0in g2 hg2) (some (.int v_1)) (con_X1_isScalar hl g2 hg2 hv) tb_X1_isScalar lk_RX3_69 rfl rfl rfl (by decide) (by decide) rfl (Nat.le_of_ble_eq_true rfl) rfl dX3_inner_1 rfl ?_
  clear hv
  refine V_if_ne C (tgt := 27) dX3_inner_4 (by decide) (fun hc => ?_) (fun hc => ?_)
  · replace h := (if_neg hc).symm.trans h
    cases h
    exact V_throw C 4 th_RX3_84 rfl (Nat.le_of_ble_eq_true rfl) dX3_inner_27 dX3_inner_30 dX3_inner_31 dX3_inner_34
  · replace h := (if_pos hc).symm.trans h
    refine V_aload_n C 3 dX3_inner_7 rfl 3 rfl ?_
    obtain ⟨v_2, hv, h⟩ := bP_inv h
    refine V_callVo C 20 g3 (gr_0in g3 hg3) (some (.int v_2)) (con_X1_isScalar hl g3 hg3 hv) tb_X1_isScalar lk_RX3_69 rfl rfl rfl (by decide) (by decide) rfl (Nat.le_of_ble_eq_true rfl) rfl dX3_inner_8 rfl ?_
    clear hv
    refine V_if_ne C (tgt := 27) dX3_inner_11 (by decide) (fun hc => ?_) (fun hc => ?_)
    · replace h := (if_neg hc).symm.trans h
      cases h
      exact V_throw C 4 th_RX3_84 rfl (Nat.le_of_ble_eq_true rfl) dX3_inner_27 dX3_inner_30 dX3_inner_31 dX3_inner_34
    · replace h := (if_pos hc).symm.trans h
      refine V_aload_n C 2 dX3_inner_14 rfl 2 rfl ?_
      refine V_getf (v := .int (μ 20 g2 2)) C 20 g2 (gr_0in g2 hg2) fl_RX3_81 rfl rfl dX3_inner_15 ?_
      refine V_aload_n C 3 dX3_inner_18 rfl 3 rfl ?_
      refine V_getf (v := .int (μ 20 g3 2)) C 20 g3 (gr_0in g3 hg3) fl_RX3_81 rfl rfl dX3_inner_19 ?_
      refine V_iadd C dX3_inner_22 ?_
      refine V_iconst C (5 : Int32) dX3_inner_23 (by decide) ?_
      refine V_icmp_le C (tgt := 35) dX3_inner_24 (by decide) (fun hc => ?_) (fun hc => ?_)
      · replace h := (if_pos hc).symm.trans h
        refine V_aload_n C 2 dX3_inner_35 rfl 2 rfl ?_
        obtain ⟨v_3, hv, h⟩ := bP_inv h
        refine V_callVo C 20 g2 (gr_0in g2 hg2) (some (.int v_3)) (con_X1_rowLength hl g2 hg2 hv) tb_X1_rowLength lk_RX3_93 rfl rfl rfl (by decide) (by decide) rfl (Nat.le_of_ble_eq_true rfl) rfl dX3_inner_36 rfl ?_
        clear hv
        refine V_istore (L' := [(0, .int a0), (1, .int a1), (2, .ref (E.1 20 g2)), (3, .ref (E.1 20 g3)), (4, .ref (E.1 20 g4)), (5, .ref (E.1 k5 i5)), (6, .int v_3)]) C dX3_inner_39 (by decide) [1, 2, 3, 4, 5, 6, 0] rfl ?_
        refine V_iload C dX3_inner_41 6 rfl ?_
        refine V_aload_n C 3 dX3_inner_43 rfl 3 rfl ?_
        refine V_getf (v := .ref (E.1 21 g3)) C 20 g3 (gr_0in g3 hg3) fl_RX3_87 rfl rfl dX3_inner_44 ?_
        refine V_iconst C (0 : Int32) dX3_inner_47 (by decide) ?_
        obtain ⟨hi9, h⟩ := gd_inv h
        refine V_iald C 21 g3 (gr_1in g3 hg3) (fun _ => rfl) (inb_in hi9) dX3_inner_48 ?_
        refine V_icmp_eq C (tgt := 60) dX3_inner_49 (by decide) (fun hc => ?_) (fun hc => ?_)
        · replace h := (if_pos hc).symm.trans h
          refine V_aload C dX3_inner_60 4 rfl ?_
          refine V_aload_n C 2 dX3_inner_62 rfl 2 rfl ?_
          refine V_iconst C (0 : Int32) dX3_inner_63 (by decide) ?_
          refine V_aload_n C 2 dX3_inner_64 rfl 2 rfl ?_
          refine V_getf (v := .int (μ 20 g2 2)) C 20 g2 (gr_0in g2 hg2) fl_RX3_81 rfl rfl dX3_inner_65 ?_
          refine V_iconst C (1 : Int32) dX3_inner_68 (by decide) ?_
          refine V_isub C dX3_inner_69 ?_
          rcases bB_inv h with ⟨e_6, μ_5, hv, h⟩ | ⟨u_4, μ_5, hv, h⟩
          · cases h; exact V_callVe C 20 g4 (gr_0in g4 hg4) e_6 (con_X1_addAxesOf hl g4 g2 (0 : Int32) ((μ 20 g2 2) - (1 : Int32)) hg4 hg2 hv) tb_X1_addAxesOf lk_RX3_97 rfl rfl rfl (by decide) (by decide) rfl (Nat.le_of_ble_eq_true rfl) rfl dX3_inner_70 rfl
          refine V_callVo C 20 g4 (gr_0in g4 hg4) none (con_X1_addAxesOf hl g4 g2 (0 : Int32) ((μ 20 g2 2) - (1 : Int32)) hg4 hg2 hv) tb_X1_addAxesOf lk_RX3_97 rfl rfl rfl (by decide) (by decide) rfl (Nat.le_of_ble_eq_true rfl) rfl dX3_inner_70 rfl ?_
          clear hv
          refine V_aload C dX3_inner_73 4 rfl ?_
          refine V_aload_n C 3 dX3_inner_75 rfl 3 rfl ?_
          refine V_iconst C (1 : Int32) dX3_inner_76 (by decide) ?_
          refine V_aload_n C 3 dX3_inner_77 rfl 3 rfl ?_
          refine V_getf (v := .int (μ_5 20 g3 2)) C 20 g3 (gr_0in g3 hg3) fl_RX3_81 rfl rfl dX3_inner_78 ?_
          rcases bB_inv h with ⟨e_9, μ_8, hv, h⟩ | ⟨u_7, μ_8, hv, h⟩
          · cases h; exact V_callVe C 20 g4 (gr_0in g4 hg4) e_9 (con_X1_addAxesOf hl g4 g3 (1 : Int32) (μ_5 20 g3 2) hg4 hg3 hv) tb_X1_addAxesOf lk_RX3_97 rfl rfl rfl (by decide) (by decide) rfl (Nat.le_of_ble_eq_true rfl) rfl dX3_inner_81 rfl
          refine V_callVo C 20 g4 (gr_0in g4 hg4) none (con_X1_addAxesOf hl g4 g3 (1 : Int32) (μ_5 20 g3 2) hg4 hg3 hv) tb_X1_addAxesOf lk_RX3_97 rfl rfl rfl (by decide) (by decide) rfl (Nat.le_of_ble_eq_true rfl) rfl dX3_inner_81 rfl ?_
          clear hv
          refine V_aload C dX3_inner_84 4 rfl ?_
          rcases bT_inv h with ⟨e_11, hv, h⟩ | ⟨u_10, hv, h⟩
          · cases h; exact V_callVe C 20 g4 (gr_0in g4 hg4) e_11 (con_X1_endAxes hl g4 hg4 hv) tb_X1_endAxes lk_RX3_101 rfl rfl rfl (by decide) (by decide) rfl (Nat.le_of_ble_eq_true rfl) rfl dX3_inner_86 rfl
          refine V_callVo C 20 g4 (gr_0in g4 hg4) none (con_X1_endAxes hl g4 hg4 hv) tb_X1_endAxes lk_RX3_101 rfl rfl rfl (by decide) (by decide) rfl (Nat.le_of_ble_eq_true rfl) rfl dX3_inner_86 rfl ?_
          clear hv
          refine V_aload_n C 3 dX3_inner_89 rfl 3 rfl ?_
          refine V_iconst C (1 : Int32) dX3_inner_90 (by decide) ?_
          refine V_aload_n C 3 dX3_inner_91 rfl 3 rfl ?_
          refine V_getf (v := .int (μ_8 20 g3 2)) C 20 g3 (gr_0in g3 hg3) fl_RX3_81 rfl rfl dX3_inner_92 ?_
          obtain ⟨v_12, hv, h⟩ := bP_inv h
          refine V_callVo C 20 g3 (gr_0in g3 hg3) (some (.int v_12)) (con_X1_span hl g3 (1 : Int32) (μ_8 20 g3 2) hg3 hv) tb_X1_span lk_RX3_108 rfl rfl rfl (by decide) (by decide) rfl (Nat.le_of_ble_eq_true rfl) rfl dX3_inner_95 rfl ?_
          clear hv
          refine V_istore (L' := [(0, .int a0), (1, .int a1), (2, .ref (E.1 20 g2)), (3, .ref (E.1 20 g3)), (4, .ref (E.1 20 g4)), (5, .ref (E.1 k5 i5)), (6, .int v_3), (7, .int v_12)]) C dX3_inner_98 (by decide) [1, 2, 3, 4, 5, 6, 7, 0] rfl ?_
          refine V_iconst C (0 : Int32) dX3_inner_100 (by decide) ?_
          refine V_istore (L' := [(0, .int a0), (1, .int a1), (2, .ref (E.1 20 g2)), (3, .ref (E.1 20 g3)), (4, .ref (E.1 20 g4)), (5, .ref (E.1 k5 i5)), (6, .int v_3), (7, .int v_12), (8, .int (0 : Int32))]) C dX3_inner_101 (by decide) [1, 2, 3, 4, 5, 6, 7, 8, 0] rfl ?_
          refine V_iconst C (0 : Int32) dX3_inner_103 (by decide) ?_
          refine V_istore (L' := [(0, .int a0), (1, .int a1), (2, .ref (E.1 20 g2)), (3, .ref (E.1 20 g3)), (4, .ref (E.1 20 g4)), (5, .ref (E.1 k5 i5)), (6, .int v_3), (7, .int v_12), (8, .int (0 : Int32)), (9, .int (0 : Int32))]) C dX3_inner_104 (by decide) [1, 2, 3, 4, 5, 6, 7, 8, 9, 0] rfl ?_
          refine V_iconst C (0 : Int32) dX3_inner_106 (by decide) ?_
          refine V_istore (L' := [(0, .int a0), (1, .int a1), (2, .ref (E.1 20 g2)), (3, .ref (E.1 20 g3)), (4, .ref (E.1 20 g4)), (5, .ref (E.1 k5 i5)), (6, .int v_3), (7, .int v_12), (8, .int (0 : Int32)), (9, .int (0 : Int32)), (10, .int (0 : Int32))]) C dX3_inner_107 (by decide) [1, 2, 3, 4, 5, 6, 7, 8, 9, 10, 0] rfl ?_
          refine V_sub (LP := [(0, .int a0), (1, .int a1), (2, .ref (E.1 20 g2)), (3, .ref (E.1 20 g3)), (4, .ref (E.1 20 g4)), (5, .ref (E.1 k5 i5)), (6, .int v_3), (7, .int v_12), (8, .int (0 : Int32)), (9, .int (0 : Int32)), (10, .int (0 : Int32))]) [0, 1, 2, 3, 4, 5, 6, 7, 8, 9, 10] rfl ?_
          refine lp_X3_inner_109 hl C a0 a1 g2 g3 g4 k5 i5 v_3 v_12 hg2 hg3 hg4 hm5 hc5 (fun μ_56 x h => ?_) 1000 _ _ _ _ h
          cases h
          exact V_return C rfl rfl dX3_inner_209
        · replace h := (if_neg hc).symm.trans h
          cases h
          exact V_throw C 3 th_RX3_90 rfl (Nat.le_of_ble_eq_true rfl) dX3_inner_52 dX3_inner_55 dX3_inner_56 dX3_inner_59
      · replace h := (if_neg hc).symm.trans h
        cases h
        exact V_throw C 4 th_RX3_84 rfl (Nat.le_of_ble_eq_true rfl) dX3_inner_27 dX3_inner_30 dX3_inner_31 dX3_inner_34
