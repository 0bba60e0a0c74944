set_option maxHeartbeats 4000000 in
set_option maxRecDepth 100000 in
theorem con_X0_pushNumbers {l : Launch} {E : WE} (hl : l.stackTraces = false) (a2 : Int32)  {μ : Mem} {x} (h : f_X0_pushNumbers a2 μ = some x) : Con l E lvC yX0_pushNumbers cX0_pushNumbers 5 none 1 [.ref (E.1 14 0), .ref (E.1 1 0), .int a2] μ (rBu x) := by
  refine Con.of (by decide) hl (Nat.le_of_ble_eq_true rfl) (fun Y C => ?_)
  replace C : Ok Y l E lvC 5 RX0 cX0_pushNumbers none 1 := C
  show V Y l E lvC 5 (rBu x) 0 [(0, .ref (E.1 14 0)), (1, .ref (E.1 1 0)), (2, .int a2)] [] μ
  unfold f_X0_pushNumbers at h
  refine V_aload_n C 1 dX0_pushNumbers_0 rfl 1 rfl ?_
  refine V_getf (v := .ref (E.1 6 0)) C 1 0 m_1 fl_RX0_74 rfl rfl dX0_pushNumbers_1 ?_
  refine V_iload_n C 2 dX0_pushNumbers_4 rfl 2 rfl ?_
  obtain ⟨hi9, h⟩ := gd_inv h
  refine V_iald C 6 0 m_6 (fun _ => rfl) (inb_in hi9) dX0_pushNumbers_5 ?_
  refine V_topi (fun x_1 hn9 => ?_)
  replace h := lt_eq hn9 h; clear hn9
  refine V_istore_n (L' := [(0, .ref (E.1 14 0)), (1, .ref (E.1 1 0)), (2, .int a2), (3, .int x_1)]) C 3 dX0_pushNumbers_6 rfl (by decide) [1, 2, 3, 0] rfl ?_
  refine V_aload_n C 0 dX0_pushNumbers_7 rfl 0 rfl ?_
  refine V_getf (v := .ref (E.1 15 0)) C 14 0 m_14 fl_RX0_13 rfl rfl dX0_pushNumbers_8 ?_
  refine V_aload_n C 0 dX0_pushNumbers_11 rfl 0 rfl ?_
  refine V_getf (v := .int (μ 14 0 4)) C 14 0 m_14 fl_RX0_29 rfl rfl dX0_pushNumbers_12 ?_
  obtain ⟨hi9, h⟩ := gd_inv h
  refine V_aald (a := E.1 20 (μ 15 0 ((μ 14 0 4)).toNatClampNeg).toNatClampNeg) C 15 0 m_15 rfl (inb_in hi9) rfl dX0_pushNumbers_15 ?_
  refine V_topg (fun g_2 hn9 => ?_)
  replace h := lt_eq hn9 h; clear hn9
  obtain ⟨hg_2, h⟩ := gd_inv h
  replace hg_2 := dec_t hg_2
  refine V_astore (L' := [(0, .ref (E.1 14 0)), (1, .ref (E.1 1 0)), (2, .int a2), (3, .int x_1), (4, .ref (E.1 20 g_2))]) C dX0_pushNumbers_16 (by decide) [1, 2, 3, 4, 0] rfl ?_
  refine V_aload C dX0_pushNumbers_18 4 rfl ?_
  obtain ⟨u_3, μ_4, hv, h⟩ := bW_inv h
  refine V_callVo C 20 g_2 (gr_0in g_2 hg_2) none (con_X1_restart hl g_2 hg_2 hv) tb_X1_restart lk_RX0_77 rfl rfl rfl (by decide) (by decide) rfl (Nat.le_of_ble_eq_true rfl) rfl dX0_pushNumbers_20 rfl ?_
  clear hv
  refine V_iload_n C 3 dX0_pushNumbers_23 rfl 3 rfl ?_
  refine V_iconst C (1 : Int32) dX0_pushNumbers_24 (by decide) ?_
  obtain ⟨j_6, hj_6, h⟩ := jn_ex h
  have J_6 : ∀ (μ_5 : Mem) x, j_6 μ_5 = some x → V Y l E lvC 5 (rBu x) 34 [(0, .ref (E.1 14 0)), (1, .ref (E.1 1 0)), (2, .int a2), (3, .int x_1), (4, .ref (E.1 20 g_2))] [] μ_5 := by
    intro μ_5  x h
    rw [hj_6] at h; clear hj_6
    refine V_aload_n C 1 dX0_pushNumbers_34 rfl 1 rfl ?_
    refine V_getf (v := .ref (E.1 10 0)) C 1 0 m_1 fl_RX0_84 rfl rfl dX0_pushNumbers_35 ?_
    refine V_aload_n C 1 dX0_pushNumbers_38 rfl 1 rfl ?_
    refine V_getf (v := .ref (E.1 5 0)) C 1 0 m_1 fl_RX0_58 rfl rfl dX0_pushNumbers_39 ?_
    refine V_iload_n C 2 dX0_pushNumbers_42 rfl 2 rfl ?_
    obtain ⟨hi9, h⟩ := gd_inv h
    refine V_iald C 5 0 m_5 (fun _ => rfl) (inb_in hi9) dX0_pushNumbers_43 ?_
    refine V_aload C dX0_pushNumbers_44 4 rfl ?_
    refine V_getf (v := .ref (E.1 22 g_2)) C 20 g_2 (gr_0in g_2 hg_2) fl_RX0_87 rfl rfl dX0_pushNumbers_46 ?_
    refine V_iconst C (0 : Int32) dX0_pushNumbers_49 (by decide) ?_
    refine V_iload_n C 3 dX0_pushNumbers_50 rfl 3 rfl ?_
    obtain ⟨hq9, h⟩ := gd_inv h
    obtain ⟨q1, q2, q3, q4, q5⟩ := cpok_g hq9
    refine V_copyi C 10 0 22 g_2 m_10 (gr_2in g_2 hg_2) (fun _ => rfl) (fun _ => rfl) lk_RX0_90 w_cp1 w_cp2 w_cp3 q1 q2 q3 q4 q5 (Nat.le_of_ble_eq_true rfl) dX0_pushNumbers_51 ?_
    refine V_memn (fun μ_7 hn9 => ?_)
    replace h := lt_eq hn9 h; clear hn9
    refine V_aload_n C 0 dX0_pushNumbers_54 rfl 0 rfl ?_
    refine V_dup C dX0_pushNumbers_55 rfl ?_
    refine V_getf (v := .int (μ_7 14 0 4)) C 14 0 m_14 fl_RX0_29 rfl rfl dX0_pushNumbers_56 ?_
    refine V_iconst C (1 : Int32) dX0_pushNumbers_59 (by decide) ?_
    refine V_iadd C dX0_pushNumbers_60 ?_
    refine V_putI C 14 0 m_14 fp_RX0_29 rfl rfl rfl rfl (Nat.le_of_ble_eq_true rfl) dX0_pushNumbers_61 ?_
    refine V_memn (fun μ_8 hn9 => ?_)
    replace h := lt_eq hn9 h; clear hn9
    cases h
    exact V_return C rfl rfl dX0_pushNumbers_64
  clear hj_6
  refine V_icmp_le C (tgt := 34) dX0_pushNumbers_25 (by decide) (fun hc => ?_) (fun hc => ?_)
  · replace h := (if_pos hc).symm.trans h
    refine V_sub (LP := [(0, .ref (E.1 14 0)), (1, .ref (E.1 1 0)), (2, .int a2), (3, .int x_1), (4, .ref (E.1 20 g_2))]) [0, 1, 2, 3, 4] rfl ?_
    exact J_6 _ _ h
  · replace h := (if_neg hc).symm.trans h
    refine V_aload C dX0_pushNumbers_28 4 rfl ?_
    refine V_iload_n C 3 dX0_pushNumbers_30 rfl 3 rfl ?_
    rcases bB_inv h with ⟨e_11, μ_10, hv, h⟩ | ⟨u_9, μ_10, hv, h⟩
    · cases h; exact V_callVe C 20 g_2 (gr_0in g_2 hg_2) e_11 (con_X1_addAxis hl g_2 x_1 hg_2 hv) tb_X1_addAxis lk_RX0_80 rfl rfl rfl (by decide) (by decide) rfl (Nat.le_of_ble_eq_true rfl) rfl dX0_pushNumbers_31 rfl
    refine V_callVo C 20 g_2 (gr_0in g_2 hg_2) none (con_X1_addAxis hl g_2 x_1 hg_2 hv) tb_X1_addAxis lk_RX0_80 rfl rfl rfl (by decide) (by decide) rfl (Nat.le_of_ble_eq_true rfl) rfl dX0_pushNumbers_31 rfl ?_
    clear hv
    refine V_sub (LP := [(0, .ref (E.1 14 0)), (1, .ref (E.1 1 0)), (2, .int a2), (3, .int x_1), (4, .ref (E.1 20 g_2))]) [0, 1, 2, 3, 4] rfl ?_
    exact J_6 _ _ h
set_option maxHeartbeats 4000000 in
set_option maxRecDepth 100000 in
theorem con_X0_endsTerm {l : Launch} {E : WE} (hl : l.stackTraces = false) (a2 : Int32)  {μ : Mem} {x} (h : f_X0_endsTerm a2 μ = some x) : Con l E lvC yX0_endsTerm cX0_endsTerm 4 (some .boolean) 4 [.ref (E.1 14 0), .ref (E.1 1 0), .int a2, .ref (E.1 11 0)] μ (rBi x) := by
  refine Con.of (by decide) hl (Nat.le_of_ble_eq_true rfl) (fun Y C => ?_)
  replace C : Ok Y l E lvC 4 RX0 cX0_endsTerm (some .boolean) 4 := C
  show V Y l E lvC 4 (rBi x) 0 [(0, .ref (E.1 14 0)), (1, .ref (E.1 1 0)), (2, .int a2), (3, .ref (E.1 11 0))] [] μ
  unfold f_X0_endsTerm at h
  refine V_aload_n C 1 dX0_endsTerm_0 rfl 1 rfl ?_
  refine V_getf (v := .ref (E.1 4 0)) C 1 0 m_1 fl_RX0_44 rfl rfl dX0_endsTerm_1 ?_
  refine V_iload_n C 2 dX0_endsTerm_4 rfl 2 rfl ?_
  obtain ⟨hi9, h⟩ := gd_inv h
  refine V_iald C 4 0 m_4 (fun _ => rfl) (inb_in hi9) dX0_endsTerm_5 ?_
  obtain ⟨j_2, hj_2, h⟩ := jn_ex h
  have J_2 : ∀ (μ_1 : Mem) x, j_2 μ_1 = some x → V Y l E lvC 4 (rBi x) 120 [(0, .ref (E.1 14 0)), (1, .ref (E.1 1 0)), (2, .int a2)] [] μ_1 := by
    intro μ_1  x h
    rw [hj_2] at h; clear hj_2
    refine V_aload_n C 0 dX0_endsTerm_120 rfl 0 rfl ?_
    refine V_aload_n C 1 dX0_endsTerm_121 rfl 1 rfl ?_
    refine V_iload_n C 2 dX0_endsTerm_122 rfl 2 rfl ?_
    rcases bB_inv h with ⟨e_5, μ_4, hv, h⟩ | ⟨u_3, μ_4, hv, h⟩
    · cases h; exact V_callVe C 14 0 m_14 e_5 (con_X0_pushNumbers hl a2 hv) tb_X0_pushNumbers lk_RX0_71 rfl rfl rfl (by decide) (by decide) rfl (Nat.le_of_ble_eq_true rfl) rfl dX0_endsTerm_123 rfl
    refine V_callVo C 14 0 m_14 none (con_X0_pushNumbers hl a2 hv) tb_X0_pushNumbers lk_RX0_71 rfl rfl rfl (by decide) (by decide) rfl (Nat.le_of_ble_eq_true rfl) rfl dX0_endsTerm_123 rfl ?_
    clear hv
    refine V_iconst C (1 : Int32) dX0_endsTerm_126 (by decide) ?_
    cases h
    exact V_ireturn C rfl rfl rfl dX0_endsTerm_127
  clear hj_2
  by_cases hk0 : (μ 4 0 (a2).toNatClampNeg) = (1 : Int32)
  · replace h := (if_pos hk0).symm.trans h
    refine V_tableIn C (80) 86 dX0_endsTerm_6 (by rw [hk0]; decide +kernel) (by rw [hk0]; decide +kernel) (by rw [hk0]; decide +kernel) (by decide) ?_
    refine V_aload_n C 0 dX0_endsTerm_86 rfl 0 rfl ?_
    refine V_getf (v := .ref (E.1 15 0)) C 14 0 m_14 fl_RX0_13 rfl rfl dX0_endsTerm_87 ?_
    refine V_aload_n C 0 dX0_endsTerm_90 rfl 0 rfl ?_
    refine V_getf (v := .int (μ 14 0 4)) C 14 0 m_14 fl_RX0_29 rfl rfl dX0_endsTerm_91 ?_
    obtain ⟨hi9, h⟩ := gd_inv h
    refine V_aald (a := E.1 20 (μ 15 0 ((μ 14 0 4)).toNatClampNeg).toNatClampNeg) C 15 0 m_15 rfl (inb_in hi9) rfl dX0_endsTerm_94 ?_
    refine V_topg (fun g_6 hn9 => ?_)
    replace h := lt_eq hn9 h; clear hn9
    obtain ⟨hg_6, h⟩ := gd_inv h
    replace hg_6 := dec_t hg_6
    refine V_aload_n C 3 dX0_endsTerm_95 rfl 3 rfl ?_
    refine V_aload_n C 1 dX0_endsTerm_96 rfl 1 rfl ?_
    refine V_getf (v := .ref (E.1 5 0)) C 1 0 m_1 fl_RX0_58 rfl rfl dX0_endsTerm_97 ?_
    refine V_iload_n C 2 dX0_endsTerm_100 rfl 2 rfl ?_
    obtain ⟨hi9, h⟩ := gd_inv h
    refine V_iald C 5 0 m_5 (fun _ => rfl) (inb_in hi9) dX0_endsTerm_101 ?_
    rcases bT_inv h with ⟨e_8, hv, h⟩ | ⟨v_7, hv, h⟩
    · cases h; exact V_callVe C 11 0 m_11 e_8 (con_X2_find hl (μ 5 0 (a2).toNatClampNeg) hv) tb_X2_find lk_RX0_61 rfl rfl rfl (by decide) (by decide) rfl (Nat.le_of_ble_eq_true rfl) rfl dX0_endsTerm_102 rfl
    refine V_callVo C 11 0 m_11 (some (.ref (E.1 20 v_7))) (con_X2_find hl (μ 5 0 (a2).toNatClampNeg) hv) tb_X2_find lk_RX0_61 rfl rfl rfl (by decide) (by decide) rfl (Nat.le_of_ble_eq_true rfl) rfl dX0_endsTerm_102 rfl ?_
    clear hv
    obtain ⟨hv_7, h⟩ := gd_inv h
    replace hv_7 := dec_t hv_7
    rcases bB_inv h with ⟨e_11, μ_10, hv, h⟩ | ⟨u_9, μ_10, hv, h⟩
    · cases h; exact V_callVe C 20 g_6 (gr_0in g_6 hg_6) e_11 (con_X1_copy hl g_6 v_7 hg_6 hv_7 hv) tb_X1_copy lk_RX0_67 rfl rfl rfl (by decide) (by decide) rfl (Nat.le_of_ble_eq_true rfl) rfl dX0_endsTerm_105 rfl
    refine V_callVo C 20 g_6 (gr_0in g_6 hg_6) none (con_X1_copy hl g_6 v_7 hg_6 hv_7 hv) tb_X1_copy lk_RX0_67 rfl rfl rfl (by decide) (by decide) rfl (Nat.le_of_ble_eq_true rfl) rfl dX0_endsTerm_105 rfl ?_
    clear hv
    refine V_aload_n C 0 dX0_endsTerm_108 rfl 0 rfl ?_
    refine V_dup C dX0_endsTerm_109 rfl ?_
    refine V_getf (v := .int (μ_10 14 0 4)) C 14 0 m_14 fl_RX0_29 rfl rfl dX0_endsTerm_110 ?_
    refine V_iconst C (1 : Int32) dX0_endsTerm_113 (by decide) ?_
    refine V_iadd C dX0_endsTerm_114 ?_
    refine V_putI C 14 0 m_14 fp_RX0_29 rfl rfl rfl rfl (Nat.le_of_ble_eq_true rfl) dX0_endsTerm_115 ?_
    refine V_memn (fun μ_12 hn9 => ?_)
    replace h := lt_eq hn9 h; clear hn9
    refine V_iconst C (1 : Int32) dX0_endsTerm_118 (by decide) ?_
    cases h
    exact V_ireturn C rfl rfl rfl dX0_endsTerm_119
  replace h := (if_neg hk0).symm.trans h
  by_cases hk1 : (μ 4 0 (a2).toNatClampNeg) = (2 : Int32)
  · replace h := (if_pos hk1).symm.trans h
    refine V_tableIn C (68) 74 dX0_endsTerm_6 (by rw [hk1]; decide +kernel) (by rw [hk1]; decide +kernel) (by rw [hk1]; decide +kernel) (by decide) ?_
    refine V_aload_n C 0 dX0_endsTerm_74 rfl 0 rfl ?_
    refine V_dup C dX0_endsTerm_75 rfl ?_
    refine V_getf (v := .int (μ 14 0 5)) C 14 0 m_14 fl_RX0_33 rfl rfl dX0_endsTerm_76 ?_
    refine V_iconst C (1 : Int32) dX0_endsTerm_79 (by decide) ?_
    refine V_isub C dX0_endsTerm_80 ?_
    refine V_putI C 14 0 m_14 fp_RX0_33 rfl rfl rfl rfl (Nat.le_of_ble_eq_true rfl) dX0_endsTerm_81 ?_
    refine V_memn (fun μ_13 hn9 => ?_)
    replace h := lt_eq hn9 h; clear hn9
    refine V_iconst C (1 : Int32) dX0_endsTerm_84 (by decide) ?_
    cases h
    exact V_ireturn C rfl rfl rfl dX0_endsTerm_85
  replace h := (if_neg hk1).symm.trans h
  by_cases hk2 : (μ 4 0 (a2).toNatClampNeg) = (3 : Int32)
  · replace h := (if_pos hk2).symm.trans h
    refine V_tableIn C (34) 40 dX0_endsTerm_6 (by rw [hk2]; decide +kernel) (by rw [hk2]; decide +kernel) (by rw [hk2]; decide +kernel) (by decide) ?_
    refine V_aload_n C 0 dX0_endsTerm_40 rfl 0 rfl ?_
    refine V_dup C dX0_endsTerm_41 rfl ?_
    refine V_getf (v := .int (μ 14 0 5)) C 14 0 m_14 fl_RX0_33 rfl rfl dX0_endsTerm_42 ?_
    refine V_iconst C (1 : Int32) dX0_endsTerm_45 (by decide) ?_
    refine V_iadd C dX0_endsTerm_46 ?_
    refine V_putI C 14 0 m_14 fp_RX0_33 rfl rfl rfl rfl (Nat.le_of_ble_eq_true rfl) dX0_endsTerm_47 ?_
    refine V_memn (fun μ_14 hn9 => ?_)
    replace h := lt_eq hn9 h; clear hn9
    refine V_aload_n C 0 dX0_endsTerm_50 rfl 0 rfl ?_
    refine V_getf (v := .ref (E.1 16 0)) C 14 0 m_14 fl_RX0_17 rfl rfl dX0_endsTerm_51 ?_
    refine V_aload_n C 0 dX0_endsTerm_54 rfl 0 rfl ?_
    refine V_getf (v := .int (μ_14 14 0 5)) C 14 0 m_14 fl_RX0_33 rfl rfl dX0_endsTerm_55 ?_
    refine V_iconst C (-1 : Int32) dX0_endsTerm_58 (by decide) ?_
    obtain ⟨hi9, h⟩ := gd_inv h
    refine V_iast C 16 0 m_16 (fun _ => rfl) (inb_in hi9) dX0_endsTerm_59 ?_
    refine V_memn (fun μ_15 hn9 => ?_)
    replace h := lt_eq hn9 h; clear hn9
    refine V_iconst C (0 : Int32) dX0_endsTerm_60 (by decide) ?_
    cases h
    exact V_ireturn C rfl rfl rfl dX0_endsTerm_61
  replace h := (if_neg hk2).symm.trans h
  by_cases hk3 : (μ 4 0 (a2).toNatClampNeg) = (5 : Int32)
  · replace h := (if_pos hk3).symm.trans h
    refine V_tableIn C (56) 62 dX0_endsTerm_6 (by rw [hk3]; decide +kernel) (by rw [hk3]; decide +kernel) (by rw [hk3]; decide +kernel) (by decide) ?_
    refine V_aload_n C 0 dX0_endsTerm_62 rfl 0 rfl ?_
    refine V_getf (v := .ref (E.1 16 0)) C 14 0 m_14 fl_RX0_17 rfl rfl dX0_endsTerm_63 ?_
    refine V_aload_n C 0 dX0_endsTerm_66 rfl 0 rfl ?_
    refine V_getf (v := .int (μ 14 0 5)) C 14 0 m_14 fl_RX0_33 rfl rfl dX0_endsTerm_67 ?_
    refine V_iload_n C 2 dX0_endsTerm_70 rfl 2 rfl ?_
    obtain ⟨hi9, h⟩ := gd_inv h
    refine V_iast C 16 0 m_16 (fun _ => rfl) (inb_in hi9) dX0_endsTerm_71 ?_
    refine V_memn (fun μ_16 hn9 => ?_)
    replace h := lt_eq hn9 h; clear hn9
    refine V_iconst C (0 : Int32) dX0_endsTerm_72 (by decide) ?_
    cases h
    exact V_ireturn C rfl rfl rfl dX0_endsTerm_73
  replace h := (if_neg hk3).symm.trans h
  by_cases hh0 : (μ 4 0 (a2).toNatClampNeg) = (4 : Int32)
  · refine V_tableIn C (114) 120 dX0_endsTerm_6 (by rw [hh0]; decide +kernel) (by rw [hh0]; decide +kernel) (by rw [hh0]; decide +kernel) (by decide) ?_
    refine V_sub (LP := [(0, .ref (E.1 14 0)), (1, .ref (E.1 1 0)), (2, .int a2)]) [0, 1, 2] rfl ?_
    exact J_2 _ _ h
  have ne0 := lv_neT (a := 1) hk0 (by decide +kernel)
  have ne1 := lv_neT (a := 2) hk1 (by decide +kernel)
  have ne2 := lv_neT (a := 3) hk2 (by decide +kernel)
  have ne3 := lv_neT (a := 5) hk3 (by decide +kernel)
  have ne4 := lv_neT (a := 4) hh0 (by decide +kernel)
  refine V_tableOut C 120 dX0_endsTerm_6 (by omega) (by decide) ?_
  refine V_sub (LP := [(0, .ref (E.1 14 0)), (1, .ref (E.1 1 0)), (2, .int a2)]) [0, 1, 2] rfl ?_
  exact J_2 _ _ h
set_option maxHeartbeats 4000000 in
set_option maxRecDepth 100000 in
theorem con_X1_isScalar {l : Launch} {E : WE} (hl : l.stackTraces = false) (g0 : Nat) (hg0 : g0 < 18) {μ : Mem} {x} (h : f_X1_isScalar g0 μ = some x) : Con l E lvC yX1_isScalar cX1_isScalar 1 (some .boolean) 0 [.ref (E.1 20 g0)] μ (rPi x μ) := by
  refine Con.of (by decide) hl (Nat.le_of_ble_eq_true rfl) (fun Y C => ?_)
  replace C : Ok Y l E lvC 1 RX1 cX1_isScalar (some .boolean) 0 := C
  show V Y l E lvC 1 (rPi x μ) 0 [(0, .ref (E.1 20 g0))] [] μ
  unfold f_X1_isScalar at h
  refine V_aload_n C 0 dX1_isScalar_0 rfl 0 rfl ?_
  refine V_getf (v := .int (μ 20 g0 2)) C 20 g0 (gr_0in g0 hg0) fl_RX1_18 rfl rfl dX1_isScalar_1 ?_
  refine V_if_ne C (tgt := 11) dX1_isScalar_4 (by decide) (fun hc => ?_) (fun hc => ?_)
  · replace h := (if_neg hc).symm.trans h
    refine V_iconst C (0 : Int32) dX1_isScalar_11 (by decide) ?_
    cases h
    exact V_ireturn C rfl rfl rfl dX1_isScalar_12
  · replace h := (if_pos hc).symm.trans h
    refine V_iconst C (1 : Int32) dX1_isScalar_7 (by decide) ?_
    refine V_goto C (tgt := 12) dX1_isScalar_8 (by decide) ?_
    cases h
    exact V_ireturn C rfl rfl rfl dX1_isScalar_12
set_option maxHeartbeats 4000000 in
set_option maxRecDepth 100000 in
theorem lp_X1_span_5 {Y : Mc} {l : Launch} {E : WE} (hl : l.stackTraces = false) (C : Ok Y l E lvC 5 RX1 cX1_span (some .int) 0) {κ : Int32 → Option (Int32)} (g_1 : Nat) (c2_2 : Int32) (μ_5 : Mem) (hg_1 : g_1 < 18) (hκ : ∀ (a3_8 : Int32) x, κ a3_8 = some x → V Y l E lvC 5 (rPi x μ_5) 27 [(3, .int a3_8)] [] μ_5) : ∀ (n : Nat) (a3_3 : Int32) (a4_4 : Int32) {x}, f_X1_span_L5 κ g_1 c2_2 μ_5 n a3_3 a4_4 = some x → V Y l E lvC 5 (rPi x μ_5) 5 [(0, .ref (E.1 20 g_1)), (2, .int c2_2), (3, .int a3_3), (4, .int a4_4)] [] μ_5 := by
  intro n
  induction n with
  | zero =>
    intro a3_3 a4_4 x h
    simp [f_X1_span_L5] at h
  | succ n ih =>
    intro a3_3 a4_4 x h
    rw [f_X1_span_L5] at h
    refine V_iload C dX1_span_5 3 rfl ?_
    refine V_iload_n C 2 dX1_span_7 rfl 1 rfl ?_
    refine V_icmp_ge C (tgt := 27) dX1_span_8 (by decide) (fun hc => ?_) (fun hc => ?_)
    · replace h := (if_pos hc).symm.trans h
      refine V_sub (LP := [(3, .int a3_3)]) [2] rfl ?_
      exact hκ _ _ h
    · replace h := (if_neg hc).symm.trans h
      refine V_iload_n C 3 dX1_span_11 rfl 2 rfl ?_
      refine V_aload_n C 0 dX1_span_12 rfl 0 rfl ?_
      refine V_getf (v := .ref (E.1 21 g_1)) C 20 g_1 (gr_0in g_1 hg_1) fl_RX1_9 rfl rfl dX1_span_13 ?_
      refine V_iload C dX1_span_16 3 rfl ?_
      obtain ⟨hi9, h⟩ := gd_inv h
      refine V_iald C 21 g_1 (gr_1in g_1 hg_1) (fun _ => rfl) (inb_in hi9) dX1_span_18 ?_
      refine V_imul C dX1_span_19 ?_
      refine V_topi (fun x_6 hn9 => ?_)
      replace h := lt_eq hn9 h; clear hn9
      refine V_istore_n (L' := [(0, .ref (E.1 20 g_1)), (2, .int c2_2), (3, .int x_6), (4, .int a4_4)]) C 3 dX1_span_20 rfl (by decide) [1, 2, 0, 3] rfl ?_
      obtain ⟨x_7, hn9⟩ : ∃ z : Int32, z = a4_4 + (1 : Int32) := ⟨_, rfl⟩
      replace h := lt_eq hn9 h
      refine V_iinc (L' := [(0, .ref (E.1 20 g_1)), (2, .int c2_2), (3, .int x_6), (4, .int x_7)]) C x_7 dX1_span_21 3 rfl (by rw [hn9]; exact congrArg (a4_4 + ·) (by decide)) (by decide) [1, 2, 3, 0] rfl ?_
      clear hn9
      refine V_goto C (tgt := 5) dX1_span_24 (by decide) ?_
      refine V_sub (LP := [(0, .ref (E.1 20 g_1)), (2, .int c2_2), (3, .int x_6), (4, .int x_7)]) [0, 1, 2, 3] rfl ?_
      exact ih _ _ h
set_option maxHeartbeats 4000000 in
set_option maxRecDepth 100000 in
theorem con_X1_span {l : Launch} {E : WE} (hl : l.stackTraces = false) (g0 : Nat) (a1 : Int32) (a2 : Int32) (hg0 : g0 < 18) {μ : Mem} {x} (h : f_X1_span g0 a1 a2 μ = some x) : Con l E lvC yX1_span cX1_span 5 (some .int) 0 [.ref (E.1 20 g0), .int a1, .int a2] μ (rPi x μ) := by
  refine Con.of (by decide) hl (Nat.le_of_ble_eq_true rfl) (fun Y C => ?_)
  replace C : Ok Y l E lvC 5 RX1 cX1_span (some .int) 0 := C
  show V Y l E lvC 5 (rPi x μ) 0 [(0, .ref (E.1 20 g0)), (1, .int a1), (2, .int a2)] [] μ
  unfold f_X1_span at h
  refine V_iconst C (1 : Int32) dX1_span_0 (by decide) ?_
  refine V_istore_n (L' := [(0, .ref (E.1 20 g0)), (1, .int a1), (2, .int a2), (3, .int (1 : Int32))]) C 3 dX1_span_1 rfl (by decide) [1, 2, 3, 0] rfl ?_
  refine V_iload_n C 1 dX1_span_2 rfl 1 rfl ?_
  refine V_istore (L' := [(0, .ref (E.1 20 g0)), (1, .int a1), (2, .int a2), (3, .int (1 : Int32)), (4, .int a1)]) C dX1_span_3 (by decide) [1, 2, 3, 4, 0] rfl ?_
  refine V_sub (LP := [(0, .ref (E.1 20 g0)), (2, .int a2), (3, .int (1 : Int32)), (4, .int a1)]) [0, 2, 3, 4] rfl ?_
  refine lp_X1_span_5 hl C g0 a2 μ hg0 (fun a3_9 x h => ?_) 1000 _ _ h
  refine V_iload_n C 3 dX1_span_27 rfl 0 rfl ?_
  cases h
  exact V_ireturn C rfl rfl rfl dX1_span_28
set_option maxHeartbeats 4000000 in
set_option maxRecDepth 100000 in
theorem lp_X3_inner_122 {Y : Mc} {l : Launch} {E : WE} (hl : l.stackTraces = false) (C : Ok Y l E lvC 12 RX3 cX3_inner none 3) {κ : Mem → Option (Except Nat Unit × Mem)} (c0_26 : Int32) (c1_27 : Int32) (g_28 : Nat) (g_29 : Nat) (g_30 : Nat) (k_31 : Nat) (i_32 : Nat) (c6_33 : Int32) (c7_34 : Int32) (c8_35 : Int32) (c9_36 : Int32) (c10_37 : Int32) (hg_28 : g_28 < 18) (hg_29 : g_29 < 18) (hg_30 : g_30 < 18) (hmk_31 : (k_31, i_32) ∈ lvC) (hck_31 : ∀ f : Nat → Int32, celk E k_31 i_32 f = .inl (E.2.2.1 0, 48, .inl f)) (hκ : ∀  (μ_44 : Mem) x, κ  μ_44 = some x → V Y l E lvC 12 (rBu x) 170 [(0, .int c0_26), (1, .int c1_27), (2, .ref (E.1 20 g_28)), (3, .ref (E.1 20 g_29)), (4, .ref (E.1 20 g_30)), (5, .ref (E.1 k_31 i_32)), (6, .int c6_33), (7, .int c7_34), (8, .int c8_35), (9, .int c9_36), (10, .int c10_37)] [] μ_44) : ∀ (n : Nat) (a11_38 : Int32) (μ_39 : Mem) {x}, f_X3_inner_L122 κ c0_26 c1_27 g_28 g_29 g_30 k_31 i_32 c6_33 c7_34 c8_35 c9_36 c10_37 n a11_38 μ_39 = some x → V Y l E lvC 12 (rBu x) 122 [(0, .int c0_26), (1, .int c1_27), (2, .ref (E.1 20 g_28)), (3, .ref (E.1 20 g_29)), (4, .ref (E.1 20 g_30)), (5, .ref (E.1 k_31 i_32)), (6, .int c6_33), (7, .int c7_34), (8, .int c8_35), (9, .int c9_36), (10, .int c10_37), (11, .int a11_38)] [] μ_39 := by
  intro n
  induction n with
  | zero =>
    intro a11_38 μ_39 x h
    simp [f_X3_inner_L122] at h
  | succ n ih =>
    intro a11_38 μ_39 x h
    rw [f_X3_inner_L122] at h
    refine V_iload C dX3_inner_122 11 rfl ?_
    refine V_iload C dX3_inner_124 6 rfl ?_
    refine V_icmp_ge C (tgt := 170) dX3_inner_126 (by decide) (fun hc => ?_) (fun hc => ?_)
    · replace h := (if_pos hc).symm.trans h
      refine V_sub (LP := [(0, .int c0_26), (1, .int c1_27), (2, .ref (E.1 20 g_28)), (3, .ref (E.1 20 g_29)), (4, .ref (E.1 20 g_30)), (5, .ref (E.1 k_31 i_32)), (6, .int c6_33), (7, .int c7_34), (8, .int c8_35), (9, .int c9_36), (10, .int c10_37)]) [0, 1, 2, 3, 4, 5, 6, 7, 8, 9, 10] rfl ?_
      exact hκ _ _ h
    · replace h := (if_neg hc).symm.trans h
      refine V_aload C dX3_inner_129 5 rfl ?_
      refine V_iload C dX3_inner_131 11 rfl ?_
      refine V_iload_n C 1 dX3_inner_133 rfl 1 rfl ?_
      refine V_aload_n C 2 dX3_inner_134 rfl 2 rfl ?_
      refine V_getf (v := .ref (E.1 22 g_28)) C 20 g_28 (gr_0in g_28 hg_28) fl_RX3_55 rfl rfl dX3_inner_135 ?_
      refine V_iload C dX3_inner_138 8 rfl ?_
      refine V_iload C dX3_inner_140 6 rfl ?_
      refine V_imul C dX3_inner_142 ?_
      refine V_iload C dX3_inner_143 11 rfl ?_
      refine V_iadd C dX3_inner_145 ?_
      obtain ⟨hi9, h⟩ := gd_inv h
      refine V_iald C 22 g_28 (gr_2in g_28 hg_28) (fun _ => rfl) (inb_in hi9) dX3_inner_146 ?_
      refine V_aload_n C 3 dX3_inner_147 rfl 3 rfl ?_
      refine V_getf (v := .ref (E.1 22 g_29)) C 20 g_29 (gr_0in g_29 hg_29) fl_RX3_55 rfl rfl dX3_inner_148 ?_
      refine V_iload C dX3_inner_151 11 rfl ?_
      refine V_iload C dX3_inner_153 7 rfl ?_
      refine V_imul C dX3_inner_155 ?_
      refine V_iload C dX3_inner_156 9 rfl ?_
      refine V_iadd C dX3_inner_158 ?_
      obtain ⟨hi9, h⟩ := gd_inv h
      refine V_iald C 22 g_29 (gr_2in g_29 hg_29) (fun _ => rfl) (inb_in hi9) dX3_inner_159 ?_
      rcases bT_inv h with ⟨e_41, hv, h⟩ | ⟨v_40, hv, h⟩
      · cases h; exact V_callSe C e_41 (con_X3_work hl c1_27 (μ_39 22 g_28 (((c8_35 * c6_33) + a11_38)).toNatClampNeg) (μ_39 22 g_29 (((a11_38 * c7_34) + c9_36)).toNatClampNeg) hv) tb_X3_work lk_RX3_41 (by decide) (by decide) rfl (Nat.le_of_ble_eq_true rfl) rfl dX3_inner_160 rfl
      refine V_callSo C (some (.int v_40)) (con_X3_work hl c1_27 (μ_39 22 g_28 (((c8_35 * c6_33) + a11_38)).toNatClampNeg) (μ_39 22 g_29 (((a11_38 * c7_34) + c9_36)).toNatClampNeg) hv) tb_X3_work lk_RX3_41 (by decide) (by decide) rfl (Nat.le_of_ble_eq_true rfl) rfl dX3_inner_160 rfl ?_
      clear hv
      obtain ⟨hi9, h⟩ := gd_inv h
      refine V_iast C k_31 i_32 hmk_31 hck_31 (inb_in hi9) dX3_inner_163 ?_
      refine V_memn (fun μ_42 hn9 => ?_)
      replace h := lt_eq hn9 h; clear hn9
      obtain ⟨x_43, hn9⟩ : ∃ z : Int32, z = a11_38 + (1 : Int32) := ⟨_, rfl⟩
      replace h := lt_eq hn9 h
      refine V_iinc (L' := [(0, .int c0_26), (1, .int c1_27), (2, .ref (E.1 20 g_28)), (3, .ref (E.1 20 g_29)), (4, .ref (E.1 20 g_30)), (5, .ref (E.1 k_31 i_32)), (6, .int c6_33), (7, .int c7_34), (8, .int c8_35), (9, .int c9_36), (10, .int c10_37), (11, .int x_43)]) C x_43 dX3_inner_164 11 rfl (by rw [hn9]; exact congrArg (a11_38 + ·) (by decide)) (by decide) [1, 2, 3, 4, 5, 6, 7, 8, 9, 10, 11, 0] rfl ?_
      clear hn9
      refine V_goto C (tgt := 122) dX3_inner_167 (by decide) ?_
      refine V_sub (LP := [(0, .int c0_26), (1, .int c1_27), (2, .ref (E.1 20 g_28)), (3, .ref (E.1 20 g_29)), (4, .ref (E.1 20 g_30)), (5, .ref (E.1 k_31 i_32)), (6, .int c6_33), (7, .int c7_34), (8, .int c8_35), (9, .int c9_36), (10, .int c10_37), (11, .int x_43)]) [0, 1, 2, 3, 4, 5, 6, 7, 8, 9, 10, 11] rfl ?_
      exact ih _ _ h
set_option maxHeartbeats 4000000 in
set_option maxRecDepth 100000 in
theorem lp_X3_inner_109 {Y : Mc} {l : Launch} {E : WE} (hl : l.stackTraces = false) (C : Ok Y l E lvC 12 RX3 cX3_inner none 3) {κ : Mem → Option (Except Nat Unit × Mem)} (c0_13 : Int32) (c1_14 : Int32) (g_15 : Nat) (g_16 : Nat) (g_17 : Nat) (k_18 : Nat) (i_19 : Nat) (c6_20 : Int32) (c7_21 : Int32) (hg_15 : g_15 < 18) (hg_16 : g_16 < 18) (hg_17 : g_17 < 18) (hmk_18 : (k_18, i_19) ∈ lvC) (hck_18 : ∀ f : Nat → Int32, celk E k_18 i_19 f = .inl (E.2.2.1 0, 48, .inl f)) (hκ : ∀  (μ_55 : Mem) x, κ  μ_55 = some x → V Y l E lvC 12 (rBu x) 209 [] [] μ_55) : ∀ (n : Nat) (a8_22 : Int32) (a9_23 : Int32) (a10_24 : Int32) (μ_25 : Mem) {x}, f_X3_inner_L109 κ c0_13 c1_14 g_15 g_16 g_17 k_18 i_19 c6_20 c7_21 n a8_22 a9_23 a10_24 μ_25 = some x → V Y l E lvC 12 (rBu x) 109 [(0, .int c0_13), (1, .int c1_14), (2, .ref (E.1 20 g_15)), (3, .ref (E.1 20 g_16)), (4, .ref (E.1 20 g_17)), (5, .ref (E.1 k_18 i_19)), (6, .int c6_20), (7, .int c7_21), (8, .int a8_22), (9, .int a9_23), (10, .int a10_24)] [] μ_25 := by
  intro n
  induction n with
  | zero =>
    intro a8_22 a9_23 a10_24 μ_25 x h
    simp [f_X3_inner_L109] at h
  | succ n ih =>
    intro a8_22 a9_23 a10_24 μ_25 x h
    rw [f_X3_inner_L109] at h
    refine V_iload C dX3_inner_109 10 rfl ?_
    refine V_aload C dX3_inner_111 4 rfl ?_
    refine V_getf (v := .int (μ_25 20 g_17 3)) C 20 g_17 (gr_0in g_17 hg_17) fl_RX3_51 rfl rfl dX3_inner_113 ?_
    refine V_icmp_ge C (tgt := 209) dX3_inner_116 (by decide) (fun hc => ?_) (fun hc => ?_)
    · replace h := (if_pos hc).symm.trans h
      refine V_sub (LP := []) [] rfl ?_
      exact hκ _ _ h
    · replace h := (if_neg hc).symm.trans h
      refine V_iconst C (0 : Int32) dX3_inner_119 (by decide) ?_
      refine V_istore (L' := [(0, .int c0_13), (1, .int c1_14), (2, .ref (E.1 20 g_15)), (3, .ref (E.1 20 g_16)), (4, .ref (E.1 20 g_17)), (5, .ref (E.1 k_18 i_19)), (6, .int c6_20), (7, .int c7_21), (8, .int a8_22), (9, .int a9_23), (10, .int a10_24), (11, .int (0 : Int32))]) C dX3_inner_120 (by decide) [1, 2, 3, 4, 5, 6, 7, 8, 9, 10, 11, 0] rfl ?_
      refine V_sub (LP := [(0, .int c0_13), (1, .int c1_14), (2, .ref (E.1 20 g_15)), (3, .ref (E.1 20 g_16)), (4, .ref (E.1 20 g_17)), (5, .ref (E.1 k_18 i_19)), (6, .int c6_20), (7, .int c7_21), (8, .int a8_22), (9, .int a9_23), (10, .int a10_24), (11, .int (0 : Int32))]) [0, 1, 2, 3, 4, 5, 6, 7, 8, 9, 10, 11] rfl ?_
      refine lp_X3_inner_122 hl C c0_13 c1_14 g_15 g_16 g_17 k_18 i_19 c6_20 c7_21 a8_22 a9_23 a10_24 hg_15 hg_16 hg_17 hmk_18 hck_18 (fun μ_45 x h => ?_) 1000 _ _ h
      refine V_aload C dX3_inner_170 4 rfl ?_
      refine V_getf (v := .ref (E.1 22 g_17)) C 20 g_17 (gr_0in g_17 hg_17) fl_RX3_55 rfl rfl dX3_inner_172 ?_
      refine V_iload C dX3_inner_175 10 rfl ?_
      refine V_iload_n C 0 dX3_inner_177 rfl 0 rfl ?_
      refine V_aload C dX3_inner_178 5 rfl ?_
      refine V_iconst C (0 : Int32) dX3_inner_180 (by decide) ?_
      refine V_iload C dX3_inner_181 6 rfl ?_
      rcases bT_inv h with ⟨e_47, hv, h⟩ | ⟨v_46, hv, h⟩
      · cases h; exact V_callSe C e_47 (con_X3_fold hl c0_13 k_18 i_19 (0 : Int32) c6_20 hmk_18 hck_18 hv) tb_X3_fold lk_RX3_98 (by decide) (by decide) rfl (Nat.le_of_ble_eq_true rfl) rfl dX3_inner_183 rfl
      refine V_callSo C (some (.int v_46)) (con_X3_fold hl c0_13 k_18 i_19 (0 : Int32) c6_20 hmk_18 hck_18 hv) tb_X3_fold lk_RX3_98 (by decide) (by decide) rfl (Nat.le_of_ble_eq_true rfl) rfl dX3_inner_183 rfl ?_
      clear hv
      obtain ⟨hi9, h⟩ := gd_inv h
      refine V_iast C 22 g_17 (gr_2in g_17 hg_17) (fun _ => rfl) (inb_in hi9) dX3_inner_186 ?_
      refine V_memn (fun μ_48 hn9 => ?_)
      replace h := lt_eq hn9 h; clear hn9
      obtain ⟨x_49, hn9⟩ : ∃ z : Int32, z = a9_23 + (1 : Int32) := ⟨_, rfl⟩
      replace h := lt_eq hn9 h
      refine V_iinc (L' := [(0, .int c0_13), (1, .int c1_14), (2, .ref (E.1 20 g_15)), (3, .ref (E.1 20 g_16)), (4, .ref (E.1 20 g_17)), (5, .ref (E.1 k_18 i_19)), (6, .int c6_20), (7, .int c7_21), (8, .int a8_22), (9, .int x_49), (10, .int a10_24)]) C x_49 dX3_inner_187 9 rfl (by rw [hn9]; exact congrArg (a9_23 + ·) (by decide)) (by decide) [1, 2, 3, 4, 5, 6, 7, 8, 9, 0, 10] rfl ?_
      clear hn9
      refine V_iload C dX3_inner_190 9 rfl ?_
      refine V_iload C dX3_inner_192 7 rfl ?_
      obtain ⟨j_52, hj_52, h⟩ := jn_ex h
      have J_52 : ∀ (a8_50 : Int32) (a9_51 : Int32) x, j_52 a8_50 a9_51 = some x → V Y l E lvC 12 (rBu x) 203 [(0, .int c0_13), (1, .int c1_14), (2, .ref (E.1 20 g_15)), (3, .ref (E.1 20 g_16)), (4, .ref (E.1 20 g_17)), (5, .ref (E.1 k_18 i_19)), (6, .int c6_20), (7, .int c7_21), (8, .int a8_50), (9, .int a9_51), (10, .int a10_24)] [] μ_48 := by
        intro a8_50 a9_51  x h
        rw [hj_52] at h; clear hj_52
        obtain ⟨x_53, hn9⟩ : ∃ z : Int32, z = a10_24 + (1 : Int32) := ⟨_, rfl⟩
        replace h := lt_eq hn9 h
        refine V_iinc (L' := [(0, .int c0_13), (1, .int c1_14), (2, .ref (E.1 20 g_15)), (3, .ref (E.1 20 g_16)), (4, .ref (E.1 20 g_17)), (5, .ref (E.1 k_18 i_19)), (6, .int c6_20), (7, .int c7_21), (8, .int a8_50), (9, .int a9_51), (10, .int x_53)]) C x_53 dX3_inner_203 10 rfl (by rw [hn9]; exact congrArg (a10_24 + ·) (by decide)) (by decide) [1, 2, 3, 4, 5, 6, 7, 8, 9, 10, 0] rfl ?_
        clear hn9
        refine V_goto C (tgt := 109) dX3_inner_206 (by decide) ?_
        refine V_sub (LP := [(0, .int c0_13), (1, .int c1_14), (2, .ref (E.1 20 g_15)), (3, .ref (E.1 20 g_16)), (4, .ref (E.1 20 g_17)), (5, .ref (E.1 k_18 i_19)), (6, .int c6_20), (7, .int c7_21), (8, .int a8_50), (9, .int a9_51), (10, .int x_53)]) [0, 1, 2, 3, 4, 5, 6, 7, 8, 9, 10] rfl ?_
        exact ih _ _ _ _ h
      clear hj_52
      refine V_icmp_ne C (tgt := 203) dX3_inner_194 (by decide) (fun hc => ?_) (fun hc => ?_)
      · replace h := (if_neg hc).symm.trans h
        refine V_sub (LP := [(0, .int c0_13), (1, .int c1_14), (2, .ref (E.1 20 g_15)), (3, .ref (E.1 20 g_16)), (4, .ref (E.1 20 g_17)), (5, .ref (E.1 k_18 i_19)), (6, .int c6_20), (7, .int c7_21), (8, .int a8_22), (9, .int x_49), (10, .int a10_24)]) [0, 1, 2, 3, 4, 5, 6, 7, 8, 9, 10] rfl ?_
        exact J_52 _ _ _ h
      · replace h := (if_pos hc).symm.trans h
        refine V_iconst C (0 : Int32) dX3_inner_197 (by decide) ?_
        refine V_istore (L' := [(0, .int c0_13), (1, .int c1_14), (2, .ref (E.1 20 g_15)), (3, .ref (E.1 20 g_16)), (4, .ref (E.1 20 g_17)), (5, .ref (E.1 k_18 i_19)), (6, .int c6_20), (7, .int c7_21), (8, .int a8_22), (9, .int (0 : Int32)), (10, .int a10_24)]) C dX3_inner_198 (by decide) [1, 2, 3, 4, 5, 6, 7, 8, 9, 0, 10] rfl ?_
        obtain ⟨x_54, hn9⟩ : ∃ z : Int32, z = a8_22 + (1 : Int32) := ⟨_, rfl⟩
        replace h := lt_eq hn9 h
        refine V_iinc (L' := [(0, .int c0_13), (1, .int c1_14), (2, .ref (E.1 20 g_15)), (3, .ref (E.1 20 g_16)), (4, .ref (E.1 20 g_17)), (5, .ref (E.1 k_18 i_19)), (6, .int c6_20), (7, .int c7_21), (8, .int x_54), (9, .int (0 : Int32)), (10, .int a10_24)]) C x_54 dX3_inner_200 8 rfl (by rw [hn9]; exact congrArg (a8_22 + ·) (by decide)) (by decide) [1, 2, 3, 4, 5, 6, 7, 8, 0, 9, 10] rfl ?_
        clear hn9
        refine V_sub (LP := [(0, .int c0_13), (1, .int c1_14), (2, .ref (E.1 20 g_15)), (3, .ref (E.1 20 g_16)), (4, .ref (E.1 20 g_17)), (5, .ref (E.1 k_18 i_19)), (6, .int c6_20), (7, .int c7_21), (8, .int x_54), (9, .int (0 : Int32)), (10, .int a10_24)]) [0, 1, 2, 3, 4, 5, 6, 7, 8, 9, 10] rfl ?_
        exact J_52 _ _ _ h
set_option maxHeartbeats 4000000 in
set_option maxRecDepth 100000 in
theorem con_X3_inner {l : Launch} {E : WE} (hl : l.stackTraces = false) (a0 : Int32) (a1 : Int32) (g2 : Nat) (g3 : Nat) (g4 : Nat) (k5 : Nat) (i5 : Nat) (hg2 : g2 < 18) (hg3 : g3 < 18) (hg4 : g4 < 18) (hm5 : (k5, i5) ∈ lvC) (hc5 : ∀ f : Nat → Int32, celk E k5 i5 f = .inl (E.2.2.1 0, 48, .inl f)) {μ : Mem} {x} (h : f_X3_inner a0 a1 g2 g3 g4 k5 i5 μ = some x) : Con l E lvC yX3_inner cX3_inner 12 none 3 [.int a0, .int a1, .ref (E.1 20 g2), .ref (E.1 20 g3), .ref (E.1 20 g4), .ref (E.1 k5 i5)] μ (rBu x) := by
  refine Con.of (by decide) hl (Nat.le_of_ble_eq_true rfl) (fun Y C => ?_)
  replace C : Ok Y l E lvC 12 RX3 cX3_inner none 3 := C
  show V Y l E lvC 12 (rBu x) 0 [(0, .int a0), (1, .int a1), (2, .ref (E.1 20 g2)), (3, .ref (E.1 20 g3)), (4, .ref (E.1 20 g4)), (5, .ref (E.1 k5 i5))] [] μ
  unfold f_X3_inner at h
  refine V_aload_n C 2 dX3_inner_0 rfl 2 rfl ?_
  obtain ⟨v_1, hv, h⟩ := bP_inv h
  refine V_callVo C 20 g2 (gr_0in g2 hg2) (some (.int v_1)) (con_X1_isScalar hl g2 hg2 hv) tb_X1_isScalar lk_RX3_63 rfl rfl rfl (by decide) (by decide) rfl (Nat.le_of_ble_eq_true rfl) rfl dX3_inner_1 rfl ?_
  clear hv
  refine V_if_ne C (tgt := 27) dX3_inner_4 (by decide) (fun hc => ?_) (fun hc => ?_)
  · replace h := (if_neg hc).symm.trans h
    cases h
    exact V_throw C 4 th_RX3_78 rfl (Nat.le_of_ble_eq_true rfl) dX3_inner_27 dX3_inner_30 dX3_inner_31 dX3_inner_34
  · replace h := (if_pos hc).symm.trans h
    refine V_aload_n C 3 dX3_inner_7 rfl 3 rfl ?_
    obtain ⟨v_2, hv, h⟩ := bP_inv h
    refine V_callVo C 20 g3 (gr_0in g3 hg3) (some (.int v_2)) (con_X1_isScalar hl g3 hg3 hv) tb_X1_isScalar lk_RX3_63 rfl rfl rfl (by decide) (by decide) rfl (Nat.le_of_ble_eq_true rfl) rfl dX3_inner_8 rfl ?_
    clear hv
    refine V_if_ne C (tgt := 27) dX3_inner_11 (by decide) (fun hc => ?_) (fun hc => ?_)
    · replace h := (if_neg hc).symm.trans h
      cases h
      exact V_throw C 4 th_RX3_78 rfl (Nat.le_of_ble_eq_true rfl) dX3_inner_27 dX3_inner_30 dX3_inner_31 dX3_inner_34
    · replace h := (if_pos hc).symm.trans h
      refine V_aload_n C 2 dX3_inner_14 rfl 2 rfl ?_
      refine V_getf (v := .int (μ 20 g2 2)) C 20 g2 (gr_0in g2 hg2) fl_RX3_75 rfl rfl dX3_inner_15 ?_
      refine V_aload_n C 3 dX3_inner_18 rfl 3 rfl ?_
      refine V_getf (v := .int (μ 20 g3 2)) C 20 g3 (gr_0in g3 hg3) fl_RX3_75 rfl rfl dX3_inner_19 ?_
      refine V_iadd C dX3_inner_22 ?_
      refine V_iconst C (5 : Int32) dX3_inner_23 (by decide) ?_
      refine V_icmp_le C (tgt := 35) dX3_inner_24 (by decide) (fun hc => ?_) (fun hc => ?_)
      · replace h := (if_pos hc).symm.trans h
        refine V_aload_n C 2 dX3_inner_35 rfl 2 rfl ?_
        obtain ⟨v_3, hv, h⟩ := bP_inv h
        refine V_callVo C 20 g2 (gr_0in g2 hg2) (some (.int v_3)) (con_X1_rowLength hl g2 hg2 hv) tb_X1_rowLength lk_RX3_87 rfl rfl rfl (by decide) (by decide) rfl (Nat.le_of_ble_eq_true rfl) rfl dX3_inner_36 rfl ?_
        clear hv
        refine V_istore (L' := [(0, .int a0), (1, .int a1), (2, .ref (E.1 20 g2)), (3, .ref (E.1 20 g3)), (4, .ref (E.1 20 g4)), (5, .ref (E.1 k5 i5)), (6, .int v_3)]) C dX3_inner_39 (by decide) [1, 2, 3, 4, 5, 6, 0] rfl ?_
        refine V_iload C dX3_inner_41 6 rfl ?_
        refine V_aload_n C 3 dX3_inner_43 rfl 3 rfl ?_
        refine V_getf (v := .ref (E.1 21 g3)) C 20 g3 (gr_0in g3 hg3) fl_RX3_81 rfl rfl dX3_inner_44 ?_
        refine V_iconst C (0 : Int32) dX3_inner_47 (by decide) ?_
        obtain ⟨hi9, h⟩ := gd_inv h
        refine V_iald C 21 g3 (gr_1in g3 hg3) (fun _ => rfl) (inb_in hi9) dX3_inner_48 ?_
        refine V_icmp_eq C (tgt := 60) dX3_inner_49 (by decide) (fun hc => ?_) (fun hc => ?_)
        · replace h := (if_pos hc).symm.trans h
          refine V_aload C dX3_inner_60 4 rfl ?_
          refine V_aload_n C 2 dX3_inner_62 rfl 2 rfl ?_
          refine V_iconst C (0 : Int32) dX3_inner_63 (by decide) ?_
          refine V_aload_n C 2 dX3_inner_64 rfl 2 rfl ?_
          refine V_getf (v := .int (μ 20 g2 2)) C 20 g2 (gr_0in g2 hg2) fl_RX3_75 rfl rfl dX3_inner_65 ?_
          refine V_iconst C (1 : Int32) dX3_inner_68 (by decide) ?_
          refine V_isub C dX3_inner_69 ?_
          rcases bB_inv h with ⟨e_6, μ_5, hv, h⟩ | ⟨u_4, μ_5, hv, h⟩
          · cases h; exact V_callVe C 20 g4 (gr_0in g4 hg4) e_6 (con_X1_addAxesOf hl g4 g2 (0 : Int32) ((μ 20 g2 2) - (1 : Int32)) hg4 hg2 hv) tb_X1_addAxesOf lk_RX3_91 rfl rfl rfl (by decide) (by decide) rfl (Nat.le_of_ble_eq_true rfl) rfl dX3_inner_70 rfl
          refine V_callVo C 20 g4 (gr_0in g4 hg4) none (con_X1_addAxesOf hl g4 g2 (0 : Int32) ((μ 20 g2 2) - (1 : Int32)) hg4 hg2 hv) tb_X1_addAxesOf lk_RX3_91 rfl rfl rfl (by decide) (by decide) rfl (Nat.le_of_ble_eq_true rfl) rfl dX3_inner_70 rfl ?_
          clear hv
          refine V_aload C dX3_inner_73 4 rfl ?_
          refine V_aload_n C 3 dX3_inner_75 rfl 3 rfl ?_
          refine V_iconst C (1 : Int32) dX3_inner_76 (by decide) ?_
          refine V_aload_n C 3 dX3_inner_77 rfl 3 rfl ?_
          refine V_getf (v := .int (μ_5 20 g3 2)) C 20 g3 (gr_0in g3 hg3) fl_RX3_75 rfl rfl dX3_inner_78 ?_
          rcases bB_inv h with ⟨e_9, μ_8, hv, h⟩ | ⟨u_7, μ_8, hv, h⟩
          · cases h; exact V_callVe C 20 g4 (gr_0in g4 hg4) e_9 (con_X1_addAxesOf hl g4 g3 (1 : Int32) (μ_5 20 g3 2) hg4 hg3 hv) tb_X1_addAxesOf lk_RX3_91 rfl rfl rfl (by decide) (by decide) rfl (Nat.le_of_ble_eq_true rfl) rfl dX3_inner_81 rfl
          refine V_callVo C 20 g4 (gr_0in g4 hg4) none (con_X1_addAxesOf hl g4 g3 (1 : Int32) (μ_5 20 g3 2) hg4 hg3 hv) tb_X1_addAxesOf lk_RX3_91 rfl rfl rfl (by decide) (by decide) rfl (Nat.le_of_ble_eq_true rfl) rfl dX3_inner_81 rfl ?_
          clear hv
          refine V_aload C dX3_inner_84 4 rfl ?_
          rcases bT_inv h with ⟨e_11, hv, h⟩ | ⟨u_10, hv, h⟩
          · cases h; exact V_callVe C 20 g4 (gr_0in g4 hg4) e_11 (con_X1_endAxes hl g4 hg4 hv) tb_X1_endAxes lk_RX3_95 rfl rfl rfl (by decide) (by decide) rfl (Nat.le_of_ble_eq_true rfl) rfl dX3_inner_86 rfl
          refine V_callVo C 20 g4 (gr_0in g4 hg4) none (con_X1_endAxes hl g4 hg4 hv) tb_X1_endAxes lk_RX3_95 rfl rfl rfl (by decide) (by decide) rfl (Nat.le_of_ble_eq_true rfl) rfl dX3_inner_86 rfl ?_
          clear hv
          refine V_aload_n C 3 dX3_inner_89 rfl 3 rfl ?_
          refine V_iconst C (1 : Int32) dX3_inner_90 (by decide) ?_
          refine V_aload_n C 3 dX3_inner_91 rfl 3 rfl ?_
          refine V_getf (v := .int (μ_8 20 g3 2)) C 20 g3 (gr_0in g3 hg3) fl_RX3_75 rfl rfl dX3_inner_92 ?_
          obtain ⟨v_12, hv, h⟩ := bP_inv h
          refine V_callVo C 20 g3 (gr_0in g3 hg3) (some (.int v_12)) (con_X1_span hl g3 (1 : Int32) (μ_8 20 g3 2) hg3 hv) tb_X1_span lk_RX3_102 rfl rfl rfl (by decide) (by decide) rfl (Nat.le_of_ble_eq_true rfl) rfl dX3_inner_95 rfl ?_
          clear hv
          refine V_istore (L' := [(0, .int a0), (1, .int a1), (2, .ref (E.1 20 g2)), (3, .ref (E.1 20 g3)), (4, .ref (E.1 20 g4)), (5, .ref (E.1 k5 i5)), (6, .int v_3), (7, .int v_12)]) C dX3_inner_98 (by decide) [1, 2, 3, 4, 5, 6, 7, 0] rfl ?_
          refine V_iconst C (0 : Int32) dX3_inner_100 (by decide) ?_
          refine V_istore (L' := [(0, .int a0), (1, .int a1), (2, .ref (E.1 20 g2)), (3, .ref (E.1 20 g3)), (4, .ref (E.1 20 g4)), (5, .ref (E.1 k5 i5)), (6, .int v_3), (7, .int v_12), (8, .int (0 : Int32))]) C dX3_inner_101 (by decide) [1, 2, 3, 4, 5, 6, 7, 8, 0] rfl ?_
          refine V_iconst C (0 : Int32) dX3_inner_103 (by decide) ?_
          refine V_istore (L' := [(0, .int a0), (1, .int a1), (2, .ref (E.1 20 g2)), (3, .ref (E.1 20 g3)), (4, .ref (E.1 20 g4)), (5, .ref (E.1 k5 i5)), (6, .int v_3), (7, .int v_12), (8, .int (0 : Int32)), (9, .int (0 : Int32))]) C dX3_inner_104 (by decide) [1, 2, 3, 4, 5, 6, 7, 8, 9, 0] rfl ?_
          refine V_iconst C (0 : Int32) dX3_inner_106 (by decide) ?_
          refine V_istore (L' := [(0, .int a0), (1, .int a1), (2, .ref (E.1 20 g2)), (3, .ref (E.1 20 g3)), (4, .ref (E.1 20 g4)), (5, .ref (E.1 k5 i5)), (6, .int v_3), (7, .int v_12), (8, .int (0 : Int32)), (9, .int (0 : Int32)), (10, .int (0 : Int32))]) C dX3_inner_107 (by decide) [1, 2, 3, 4, 5, 6, 7, 8, 9, 10, 0] rfl ?_
          refine V_sub (LP := [(0, .int a0), (1, .int a1), (2, .ref (E.1 20 g2)), (3, .ref (E.1 20 g3)), (4, .ref (E.1 20 g4)), (5, .ref (E.1 k5 i5)), (6, .int v_3), (7, .int v_12), (8, .int (0 : Int32)), (9, .int (0 : Int32)), (10, .int (0 : Int32))]) [0, 1, 2, 3, 4, 5, 6, 7, 8, 9, 10] rfl ?_
          refine lp_X3_inner_109 hl C a0 a1 g2 g3 g4 k5 i5 v_3 v_12 hg2 hg3 hg4 hm5 hc5 (fun μ_56 x h => ?_) 1000 _ _ _ _ h
          cases h
          exact V_return C rfl rfl dX3_inner_209
        · replace h := (if_neg hc).symm.trans h
          cases h
          exact V_throw C 3 th_RX3_84 rfl (Nat.le_of_ble_eq_true rfl) dX3_inner_52 dX3_inner_55 dX3_inner_56 dX3_inner_59
      · replace h := (if_neg hc).symm.trans h
        cases h
        exact V_throw C 4 th_RX3_78 rfl (Nat.le_of_ble_eq_true rfl) dX3_inner_27 dX3_inner_30 dX3_inner_31 dX3_inner_34
set_option maxHeartbeats 4000000 in
set_option maxRecDepth 100000 in
theorem lp_X3_outer_63 {Y : Mc} {l : Launch} {E : WE} (hl : l.stackTraces = false) (C : Ok Y l E lvC 7 RX3 cX3_outer none 2) {κ : Int32 → Mem → Option (Except Nat Unit × Mem)} (c0_16 : Int32) (g_17 : Nat) (g_18 : Nat) (g_19 : Nat) (c5_21 : Int32) (hg_17 : g_17 < 18) (hg_18 : g_18 < 18) (hg_19 : g_19 < 18) (hκ : ∀ (a4_29 : Int32) (μ_30 : Mem) x, κ a4_29 μ_30 = some x → V Y l E lvC 7 (rBu x) 106 [(0, .int c0_16), (1, .ref (E.1 20 g_17)), (2, .ref (E.1 20 g_18)), (3, .ref (E.1 20 g_19)), (4, .int a4_29), (5, .int c5_21)] [] μ_30) : ∀ (n : Nat) (a4_20 : Int32) (a6_22 : Int32) (μ_23 : Mem) {x}, f_X3_outer_L63 κ c0_16 g_17 g_18 g_19 c5_21 n a4_20 a6_22 μ_23 = some x → V Y l E lvC 7 (rBu x) 63 [(0, .int c0_16), (1, .ref (E.1 20 g_17)), (2, .ref (E.1 20 g_18)), (3, .ref (E.1 20 g_19)), (4, .int a4_20), (5, .int c5_21), (6, .int a6_22)] [] μ_23 := by
  intro n
  induction n with
  | zero =>
    intro a4_20 a6_22 μ_23 x h
    simp [f_X3_outer_L63] at h
  | succ n ih =>
    intro a4_20 a6_22 μ_23 x h
    rw [f_X3_outer_L63] at h
    refine V_iload C dX3_outer_63 6 rfl ?_
    refine V_aload_n C 2 dX3_outer_65 rfl 2 rfl ?_
    refine V_getf (v := .int (μ_23 20 g_18 3)) C 20 g_18 (gr_0in g_18 hg_18) fl_RX3_51 rfl rfl dX3_outer_66 ?_
    refine V_icmp_ge C (tgt := 106) dX3_outer_69 (by decide) (fun hc => ?_) (fun hc => ?_)
    · replace h := (if_pos hc).symm.trans h
      refine V_sub (LP := [(0, .int c0_16), (1, .ref (E.1 20 g_17)), (2, .ref (E.1 20 g_18)), (3, .ref (E.1 20 g_19)), (4, .int a4_20), (5, .int c5_21)]) [0, 1, 2, 3, 4, 5] rfl ?_
      exact hκ _ _ _ h
    · replace h := (if_neg hc).symm.trans h
      refine V_aload_n C 3 dX3_outer_72 rfl 3 rfl ?_
      refine V_getf (v := .ref (E.1 22 g_19)) C 20 g_19 (gr_0in g_19 hg_19) fl_RX3_55 rfl rfl dX3_outer_73 ?_
      refine V_iload C dX3_outer_76 4 rfl ?_
      refine V_iload_n C 0 dX3_outer_78 rfl 0 rfl ?_
      refine V_aload_n C 1 dX3_outer_79 rfl 1 rfl ?_
      refine V_getf (v := .ref (E.1 22 g_17)) C 20 g_17 (gr_0in g_17 hg_17) fl_RX3_55 rfl rfl dX3_outer_80 ?_
      refine V_iload C dX3_outer_83 5 rfl ?_
      obtain ⟨hi9, h⟩ := gd_inv h
      refine V_iald C 22 g_17 (gr_2in g_17 hg_17) (fun _ => rfl) (inb_in hi9) dX3_outer_85 ?_
      refine V_aload_n C 2 dX3_outer_86 rfl 2 rfl ?_
      refine V_getf (v := .ref (E.1 22 g_18)) C 20 g_18 (gr_0in g_18 hg_18) fl_RX3_55 rfl rfl dX3_outer_87 ?_
      refine V_iload C dX3_outer_90 6 rfl ?_
      obtain ⟨hi9, h⟩ := gd_inv h
      refine V_iald C 22 g_18 (gr_2in g_18 hg_18) (fun _ => rfl) (inb_in hi9) dX3_outer_92 ?_
      rcases bT_inv h with ⟨e_25, hv, h⟩ | ⟨v_24, hv, h⟩
      · cases h; exact V_callSe C e_25 (con_X3_work hl c0_16 (μ_23 22 g_17 (c5_21).toNatClampNeg) (μ_23 22 g_18 (a6_22).toNatClampNeg) hv) tb_X3_work lk_RX3_41 (by decide) (by decide) rfl (Nat.le_of_ble_eq_true rfl) rfl dX3_outer_93 rfl
      refine V_callSo C (some (.int v_24)) (con_X3_work hl c0_16 (μ_23 22 g_17 (c5_21).toNatClampNeg) (μ_23 22 g_18 (a6_22).toNatClampNeg) hv) tb_X3_work lk_RX3_41 (by decide) (by decide) rfl (Nat.le_of_ble_eq_true rfl) rfl dX3_outer_93 rfl ?_
      clear hv
      obtain ⟨hi9, h⟩ := gd_inv h
      refine V_iast C 22 g_19 (gr_2in g_19 hg_19) (fun _ => rfl) (inb_in hi9) dX3_outer_96 ?_
      refine V_memn (fun μ_26 hn9 => ?_)
      replace h := lt_eq hn9 h; clear hn9
      obtain ⟨x_27, hn9⟩ : ∃ z : Int32, z = a4_20 + (1 : Int32) := ⟨_, rfl⟩
      replace h := lt_eq hn9 h
      refine V_iinc (L' := [(0, .int c0_16), (1, .ref (E.1 20 g_17)), (2, .ref (E.1 20 g_18)), (3, .ref (E.1 20 g_19)), (4, .int x_27), (5, .int c5_21), (6, .int a6_22)]) C x_27 dX3_outer_97 4 rfl (by rw [hn9]; exact congrArg (a4_20 + ·) (by decide)) (by decide) [1, 2, 3, 4, 0, 5, 6] rfl ?_
      clear hn9
      obtain ⟨x_28, hn9⟩ : ∃ z : Int32, z = a6_22 + (1 : Int32) := ⟨_, rfl⟩
      replace h := lt_eq hn9 h
      refine V_iinc (L' := [(0, .int c0_16), (1, .ref (E.1 20 g_17)), (2, .ref (E.1 20 g_18)), (3, .ref (E.1 20 g_19)), (4, .int x_27), (5, .int c5_21), (6, .int x_28)]) C x_28 dX3_outer_100 6 rfl (by rw [hn9]; exact congrArg (a6_22 + ·) (by decide)) (by decide) [1, 2, 3, 4, 5, 6, 0] rfl ?_
      clear hn9
      refine V_goto C (tgt := 63) dX3_outer_103 (by decide) ?_
      refine V_sub (LP := [(0, .int c0_16), (1, .ref (E.1 20 g_17)), (2, .ref (E.1 20 g_18)), (3, .ref (E.1 20 g_19)), (4, .int x_27), (5, .int c5_21), (6, .int x_28)]) [0, 1, 2, 3, 4, 5, 6] rfl ?_
      exact ih _ _ _ h
set_option maxHeartbeats 4000000 in
set_option maxRecDepth 100000 in
theorem lp_X3_outer_51 {Y : Mc} {l : Launch} {E : WE} (hl : l.stackTraces = false) (C : Ok Y l E lvC 7 RX3 cX3_outer none 2) {κ : Mem → Option (Except Nat Unit × Mem)} (c0_9 : Int32) (g_10 : Nat) (g_11 : Nat) (g_12 : Nat) (hg_10 : g_10 < 18) (hg_11 : g_11 < 18) (hg_12 : g_12 < 18) (hκ : ∀  (μ_34 : Mem) x, κ  μ_34 = some x → V Y l E lvC 7 (rBu x) 112 [] [] μ_34) : ∀ (n : Nat) (a4_13 : Int32) (a5_14 : Int32) (μ_15 : Mem) {x}, f_X3_outer_L51 κ c0_9 g_10 g_11 g_12 n a4_13 a5_14 μ_15 = some x → V Y l E lvC 7 (rBu x) 51 [(0, .int c0_9), (1, .ref (E.1 20 g_10)), (2, .ref (E.1 20 g_11)), (3, .ref (E.1 20 g_12)), (4, .int a4_13), (5, .int a5_14)] [] μ_15 := by
  intro n
  induction n with
  | zero =>
    intro a4_13 a5_14 μ_15 x h
    simp [f_X3_outer_L51] at h
  | succ n ih =>
    intro a4_13 a5_14 μ_15 x h
    rw [f_X3_outer_L51] at h
    refine V_iload C dX3_outer_51 5 rfl ?_
    refine V_aload_n C 1 dX3_outer_53 rfl 1 rfl ?_
    refine V_getf (v := .int (μ_15 20 g_10 3)) C 20 g_10 (gr_0in g_10 hg_10) fl_RX3_51 rfl rfl dX3_outer_54 ?_
    refine V_icmp_ge C (tgt := 112) dX3_outer_57 (by decide) (fun hc => ?_) (fun hc => ?_)
    · replace h := (if_pos hc).symm.trans h
      refine V_sub (LP := []) [] rfl ?_
      exact hκ _ _ h
    · replace h := (if_neg hc).symm.trans h
      refine V_iconst C (0 : Int32) dX3_outer_60 (by decide) ?_
      refine V_istore (L' := [(0, .int c0_9), (1, .ref (E.1 20 g_10)), (2, .ref (E.1 20 g_11)), (3, .ref (E.1 20 g_12)), (4, .int a4_13), (5, .int a5_14), (6, .int (0 : Int32))]) C dX3_outer_61 (by decide) [1, 2, 3, 4, 5, 6, 0] rfl ?_
      refine V_sub (LP := [(0, .int c0_9), (1, .ref (E.1 20 g_10)), (2, .ref (E.1 20 g_11)), (3, .ref (E.1 20 g_12)), (4, .int a4_13), (5, .int a5_14), (6, .int (0 : Int32))]) [0, 1, 2, 3, 4, 5, 6] rfl ?_
      refine lp_X3_outer_63 hl C c0_9 g_10 g_11 g_12 a5_14 hg_10 hg_11 hg_12 (fun a4_31 μ_32 x h => ?_) 1000 _ _ _ h
      obtain ⟨x_33, hn9⟩ : ∃ z : Int32, z = a5_14 + (1 : Int32) := ⟨_, rfl⟩
      replace h := lt_eq hn9 h
      refine V_iinc (L' := [(0, .int c0_9), (1, .ref (E.1 20 g_10)), (2, .ref (E.1 20 g_11)), (3, .ref (E.1 20 g_12)), (4, .int a4_31), (5, .int x_33)]) C x_33 dX3_outer_106 5 rfl (by rw [hn9]; exact congrArg (a5_14 + ·) (by decide)) (by decide) [1, 2, 3, 4, 5, 0] rfl ?_
      clear hn9
      refine V_goto C (tgt := 51) dX3_outer_109 (by decide) ?_
      refine V_sub (LP := [(0, .int c0_9), (1, .ref (E.1 20 g_10)), (2, .ref (E.1 20 g_11)), (3, .ref (E.1 20 g_12)), (4, .int a4_31), (5, .int x_33)]) [0, 1, 2, 3, 4, 5] rfl ?_
      exact ih _ _ _ h
set_option maxHeartbeats 4000000 in
set_option maxRecDepth 100000 in
theorem con_X3_outer {l : Launch} {E : WE} (hl : l.stackTraces = false) (a0 : Int32) (g1 : Nat) (g2 : Nat) (g3 : Nat) (hg1 : g1 < 18) (hg2 : g2 < 18) (hg3 : g3 < 18) {μ : Mem} {x} (h : f_X3_outer a0 g1 g2 g3 μ = some x) : Con l E lvC yX3_outer cX3_outer 7 none 2 [.int a0, .ref (E.1 20 g1), .ref (E.1 20 g2), .ref (E.1 20 g3)] μ (rBu x) := by
  refine Con.of (by decide) hl (Nat.le_of_ble_eq_true rfl) (fun Y C => ?_)
  replace C : Ok Y l E lvC 7 RX3 cX3_outer none 2 := C
  show V Y l E lvC 7 (rBu x) 0 [(0, .int a0), (1, .ref (E.1 20 g1)), (2, .ref (E.1 20 g2)), (3, .ref (E.1 20 g3))] [] μ
  unfold f_X3_outer at h
  refine V_aload_n C 1 dX3_outer_0 rfl 1 rfl ?_
  refine V_getf (v := .int (μ 20 g1 2)) C 20 g1 (gr_0in g1 hg1) fl_RX3_75 rfl rfl dX3_outer_1 ?_
  refine V_aload_n C 2 dX3_outer_4 rfl 2 rfl ?_
  refine V_getf (v := .int (μ 20 g2 2)) C 20 g2 (gr_0in g2 hg2) fl_RX3_75 rfl rfl dX3_outer_5 ?_
  refine V_iadd C dX3_outer_8 ?_
  refine V_iconst C (3 : Int32) dX3_outer_9 (by decide) ?_
  refine V_icmp_le C (tgt := 21) dX3_outer_10 (by decide) (fun hc => ?_) (fun hc => ?_)
  · replace h := (if_pos hc).symm.trans h
    refine V_aload_n C 3 dX3_outer_21 rfl 3 rfl ?_
    refine V_aload_n C 1 dX3_outer_22 rfl 1 rfl ?_
    refine V_iconst C (0 : Int32) dX3_outer_23 (by decide) ?_
    refine V_aload_n C 1 dX3_outer_24 rfl 1 rfl ?_
    refine V_getf (v := .int (μ 20 g1 2)) C 20 g1 (gr_0in g1 hg1) fl_RX3_75 rfl rfl dX3_outer_25 ?_
    rcases bB_inv h with ⟨e_3, μ_2, hv, h⟩ | ⟨u_1, μ_2, hv, h⟩
    · cases h; exact V_callVe C 20 g3 (gr_0in g3 hg3) e_3 (con_X1_addAxesOf hl g3 g1 (0 : Int32) (μ 20 g1 2) hg3 hg1 hv) tb_X1_addAxesOf lk_RX3_91 rfl rfl rfl (by decide) (by decide) rfl (Nat.le_of_ble_eq_true rfl) rfl dX3_outer_28 rfl
    refine V_callVo C 20 g3 (gr_0in g3 hg3) none (con_X1_addAxesOf hl g3 g1 (0 : Int32) (μ 20 g1 2) hg3 hg1 hv) tb_X1_addAxesOf lk_RX3_91 rfl rfl rfl (by decide) (by decide) rfl (Nat.le_of_ble_eq_true rfl) rfl dX3_outer_28 rfl ?_
    clear hv
    refine V_aload_n C 3 dX3_outer_31 rfl 3 rfl ?_
    refine V_aload_n C 2 dX3_outer_32 rfl 2 rfl ?_
    refine V_iconst C (0 : Int32) dX3_outer_33 (by decide) ?_
    refine V_aload_n C 2 dX3_outer_34 rfl 2 rfl ?_
    refine V_getf (v := .int (μ_2 20 g2 2)) C 20 g2 (gr_0in g2 hg2) fl_RX3_75 rfl rfl dX3_outer_35 ?_
    rcases bB_inv h with ⟨e_6, μ_5, hv, h⟩ | ⟨u_4, μ_5, hv, h⟩
    · cases h; exact V_callVe C 20 g3 (gr_0in g3 hg3) e_6 (con_X1_addAxesOf hl g3 g2 (0 : Int32) (μ_2 20 g2 2) hg3 hg2 hv) tb_X1_addAxesOf lk_RX3_91 rfl rfl rfl (by decide) (by decide) rfl (Nat.le_of_ble_eq_true rfl) rfl dX3_outer_38 rfl
    refine V_callVo C 20 g3 (gr_0in g3 hg3) none (con_X1_addAxesOf hl g3 g2 (0 : Int32) (μ_2 20 g2 2) hg3 hg2 hv) tb_X1_addAxesOf lk_RX3_91 rfl rfl rfl (by decide) (by decide) rfl (Nat.le_of_ble_eq_true rfl) rfl dX3_outer_38 rfl ?_
    clear hv
    refine V_aload_n C 3 dX3_outer_41 rfl 3 rfl ?_
    rcases bT_inv h with ⟨e_8, hv, h⟩ | ⟨u_7, hv, h⟩
    · cases h; exact V_callVe C 20 g3 (gr_0in g3 hg3) e_8 (con_X1_endAxes hl g3 hg3 hv) tb_X1_endAxes lk_RX3_95 rfl rfl rfl (by decide) (by decide) rfl (Nat.le_of_ble_eq_true rfl) rfl dX3_outer_42 rfl
    refine V_callVo C 20 g3 (gr_0in g3 hg3) none (con_X1_endAxes hl g3 hg3 hv) tb_X1_endAxes lk_RX3_95 rfl rfl rfl (by decide) (by decide) rfl (Nat.le_of_ble_eq_true rfl) rfl dX3_outer_42 rfl ?_
    clear hv
    refine V_iconst C (0 : Int32) dX3_outer_45 (by decide) ?_
    refine V_istore (L' := [(0, .int a0), (1, .ref (E.1 20 g1)), (2, .ref (E.1 20 g2)), (3, .ref (E.1 20 g3)), (4, .int (0 : Int32))]) C dX3_outer_46 (by decide) [1, 2, 3, 4, 0] rfl ?_
    refine V_iconst C (0 : Int32) dX3_outer_48 (by decide) ?_
    refine V_istore (L' := [(0, .int a0), (1, .ref (E.1 20 g1)), (2, .ref (E.1 20 g2)), (3, .ref (E.1 20 g3)), (4, .int (0 : Int32)), (5, .int (0 : Int32))]) C dX3_outer_49 (by decide) [1, 2, 3, 4, 5, 0] rfl ?_
    refine V_sub (LP := [(0, .int a0), (1, .ref (E.1 20 g1)), (2, .ref (E.1 20 g2)), (3, .ref (E.1 20 g3)), (4, .int (0 : Int32)), (5, .int (0 : Int32))]) [0, 1, 2, 3, 4, 5] rfl ?_
    refine lp_X3_outer_51 hl C a0 g1 g2 g3 hg1 hg2 hg3 (fun μ_35 x h => ?_) 1000 _ _ _ h
    cases h
    exact V_return C rfl rfl dX3_outer_112
  · replace h := (if_neg hc).symm.trans h
    cases h
    exact V_throw C 4 th_RX3_78 rfl (Nat.le_of_ble_eq_true rfl) dX3_outer_13 dX3_outer_16 dX3_outer_17 dX3_outer_20
set_option maxHeartbeats 4000000 in
set_option maxRecDepth 100000 in
theorem lp_X4_reshape_26 {Y : Mc} {l : Launch} {E : WE} (hl : l.stackTraces = false) (C : Ok Y l E lvC 5 RX4 cX4_reshape none 1) {κ : Unit → Option (Except Nat Unit × Mem)} (g_1 : Nat) (g_2 : Nat) (g_3 : Nat) (μ_5 : Mem) (hg_1 : g_1 < 18) (hg_2 : g_2 < 18) (hg_3 : g_3 < 18) (hκ : ∀ (_ : Unit) x, κ () = some x → V Y l E lvC 5 (rBu x) 57 [(0, .ref (E.1 20 g_1)), (1, .ref (E.1 20 g_2)), (2, .ref (E.1 20 g_3))] [] μ_5) : ∀ (n : Nat) (a3_4 : Int32) {x}, f_X4_reshape_L26 κ g_1 g_2 g_3 μ_5 n a3_4 = some x → V Y l E lvC 5 (rBu x) 26 [(0, .ref (E.1 20 g_1)), (1, .ref (E.1 20 g_2)), (2, .ref (E.1 20 g_3)), (3, .int a3_4)] [] μ_5 := by
  intro n
  induction n with
  | zero =>
    intro a3_4 x h
    simp [f_X4_reshape_L26] at h
  | succ n ih =>
    intro a3_4 x h
    rw [f_X4_reshape_L26] at h
    refine V_iload_n C 3 dX4_reshape_26 rfl 3 rfl ?_
    refine V_aload_n C 0 dX4_reshape_27 rfl 0 rfl ?_
    refine V_getf (v := .int (μ_5 20 g_1 3)) C 20 g_1 (gr_0in g_1 hg_1) fl_RX4_18 rfl rfl dX4_reshape_28 ?_
    refine V_icmp_ge C (tgt := 57) dX4_reshape_31 (by decide) (fun hc => ?_) (fun hc => ?_)
    · replace h := (if_pos hc).symm.trans h
      refine V_sub (LP := [(0, .ref (E.1 20 g_1)), (1, .ref (E.1 20 g_2)), (2, .ref (E.1 20 g_3))]) [0, 1, 2] rfl ?_
      exact hκ () _ h
    · replace h := (if_neg hc).symm.trans h
      refine V_aload_n C 0 dX4_reshape_34 rfl 0 rfl ?_
      refine V_getf (v := .ref (E.1 22 g_1)) C 20 g_1 (gr_0in g_1 hg_1) fl_RX4_28 rfl rfl dX4_reshape_35 ?_
      refine V_iload_n C 3 dX4_reshape_38 rfl 3 rfl ?_
      obtain ⟨hi9, h⟩ := gd_inv h
      refine V_iald C 22 g_1 (gr_2in g_1 hg_1) (fun _ => rfl) (inb_in hi9) dX4_reshape_39 ?_
      refine V_if_ge C (tgt := 51) dX4_reshape_40 (by decide) (fun hc => ?_) (fun hc => ?_)
      · replace h := (if_pos hc).symm.trans h
        obtain ⟨x_6, hn9⟩ : ∃ z : Int32, z = a3_4 + (1 : Int32) := ⟨_, rfl⟩
        replace h := lt_eq hn9 h
        refine V_iinc (L' := [(0, .ref (E.1 20 g_1)), (1, .ref (E.1 20 g_2)), (2, .ref (E.1 20 g_3)), (3, .int x_6)]) C x_6 dX4_reshape_51 3 rfl (by rw [hn9]; exact congrArg (a3_4 + ·) (by decide)) (by decide) [1, 2, 3, 0] rfl ?_
        clear hn9
        refine V_goto C (tgt := 26) dX4_reshape_54 (by decide) ?_
        refine V_sub (LP := [(0, .ref (E.1 20 g_1)), (1, .ref (E.1 20 g_2)), (2, .ref (E.1 20 g_3)), (3, .int x_6)]) [0, 1, 2, 3] rfl ?_
        exact ih _ h
      · replace h := (if_neg hc).symm.trans h
        cases h
        exact V_throw C 2 th_RX4_63 rfl (Nat.le_of_ble_eq_true rfl) dX4_reshape_43 dX4_reshape_46 dX4_reshape_47 dX4_reshape_50
set_option maxHeartbeats 4000000 in
set_option maxRecDepth 100000 in
theorem lp_X4_reshape_59 {Y : Mc} {l : Launch} {E : WE} (hl : l.stackTraces = false) (C : Ok Y l E lvC 5 RX4 cX4_reshape none 1) {κ : Mem → Option (Except Nat Unit × Mem)} (g_7 : Nat) (g_8 : Nat) (g_9 : Nat) (hg_7 : g_7 < 18) (hg_8 : g_8 < 18) (hg_9 : g_9 < 18) (hκ : ∀  (μ_16 : Mem) x, κ  μ_16 = some x → V Y l E lvC 5 (rBu x) 83 [(1, .ref (E.1 20 g_8)), (2, .ref (E.1 20 g_9))] [] μ_16) : ∀ (n : Nat) (a3_10 : Int32) (μ_11 : Mem) {x}, f_X4_reshape_L59 κ g_7 g_8 g_9 n a3_10 μ_11 = some x → V Y l E lvC 5 (rBu x) 59 [(0, .ref (E.1 20 g_7)), (1, .ref (E.1 20 g_8)), (2, .ref (E.1 20 g_9)), (3, .int a3_10)] [] μ_11 := by
  intro n
  induction n with
  | zero =>
    intro a3_10 μ_11 x h
    simp [f_X4_reshape_L59] at h
  | succ n ih =>
    intro a3_10 μ_11 x h
    rw [f_X4_reshape_L59] at h
    refine V_iload_n C 3 dX4_reshape_59 rfl 3 rfl ?_
    refine V_aload_n C 0 dX4_reshape_60 rfl 0 rfl ?_
    refine V_getf (v := .int (μ_11 20 g_7 3)) C 20 g_7 (gr_0in g_7 hg_7) fl_RX4_18 rfl rfl dX4_reshape_61 ?_
    refine V_icmp_ge C (tgt := 83) dX4_reshape_64 (by decide) (fun hc => ?_) (fun hc => ?_)
    · replace h := (if_pos hc).symm.trans h
      refine V_sub (LP := [(1, .ref (E.1 20 g_8)), (2, .ref (E.1 20 g_9))]) [1, 2] rfl ?_
      exact hκ _ _ h
    · replace h := (if_neg hc).symm.trans h
      refine V_aload_n C 2 dX4_reshape_67 rfl 2 rfl ?_
      refine V_aload_n C 0 dX4_reshape_68 rfl 0 rfl ?_
      refine V_getf (v := .ref (E.1 22 g_7)) C 20 g_7 (gr_0in g_7 hg_7) fl_RX4_28 rfl rfl dX4_reshape_69 ?_
      refine V_iload_n C 3 dX4_reshape_72 rfl 3 rfl ?_
      obtain ⟨hi9, h⟩ := gd_inv h
      refine V_iald C 22 g_7 (gr_2in g_7 hg_7) (fun _ => rfl) (inb_in hi9) dX4_reshape_73 ?_
      rcases bB_inv h with ⟨e_14, μ_13, hv, h⟩ | ⟨u_12, μ_13, hv, h⟩
      · cases h; exact V_callVe C 20 g_9 (gr_0in g_9 hg_9) e_14 (con_X1_addAxis hl g_9 (μ_11 22 g_7 (a3_10).toNatClampNeg) hg_9 hv) tb_X1_addAxis lk_RX4_24 rfl rfl rfl (by decide) (by decide) rfl (Nat.le_of_ble_eq_true rfl) rfl dX4_reshape_74 rfl
      refine V_callVo C 20 g_9 (gr_0in g_9 hg_9) none (con_X1_addAxis hl g_9 (μ_11 22 g_7 (a3_10).toNatClampNeg) hg_9 hv) tb_X1_addAxis lk_RX4_24 rfl rfl rfl (by decide) (by decide) rfl (Nat.le_of_ble_eq_true rfl) rfl dX4_reshape_74 rfl ?_
      clear hv
      obtain ⟨x_15, hn9⟩ : ∃ z : Int32, z = a3_10 + (1 : Int32) := ⟨_, rfl⟩
      replace h := lt_eq hn9 h
      refine V_iinc (L' := [(0, .ref (E.1 20 g_7)), (1, .ref (E.1 20 g_8)), (2, .ref (E.1 20 g_9)), (3, .int x_15)]) C x_15 dX4_reshape_77 3 rfl (by rw [hn9]; exact congrArg (a3_10 + ·) (by decide)) (by decide) [1, 2, 3, 0] rfl ?_
      clear hn9
      refine V_goto C (tgt := 59) dX4_reshape_80 (by decide) ?_
      refine V_sub (LP := [(0, .ref (E.1 20 g_7)), (1, .ref (E.1 20 g_8)), (2, .ref (E.1 20 g_9)), (3, .int x_15)]) [0, 1, 2, 3] rfl ?_
      exact ih _ _ h
set_option maxHeartbeats 4000000 in
set_option maxRecDepth 100000 in
theorem lp_X4_reshape_114 {Y : Mc} {l : Launch} {E : WE} (hl : l.stackTraces = false) (C : Ok Y l E lvC 5 RX4 cX4_reshape none 1) {κ : Mem → Option (Except Nat Unit × Mem)} (g_21 : Nat) (g_22 : Nat) (hg_21 : g_21 < 18) (hg_22 : g_22 < 18) (hκ : ∀  (μ_30 : Mem) x, κ  μ_30 = some x → V Y l E lvC 5 (rBu x) 160 [] [] μ_30) : ∀ (n : Nat) (a3_23 : Int32) (a4_24 : Int32) (μ_25 : Mem) {x}, f_X4_reshape_L114 κ g_21 g_22 n a3_23 a4_24 μ_25 = some x → V Y l E lvC 5 (rBu x) 114 [(1, .ref (E.1 20 g_21)), (2, .ref (E.1 20 g_22)), (3, .int a3_23), (4, .int a4_24)] [] μ_25 := by
  intro n
  induction n with
  | zero =>
    intro a3_23 a4_24 μ_25 x h
    simp [f_X4_reshape_L114] at h
  | succ n ih =>
    intro a3_23 a4_24 μ_25 x h
    rw [f_X4_reshape_L114] at h
    refine V_iload C dX4_reshape_114 3 rfl ?_
    refine V_aload_n C 2 dX4_reshape_116 rfl 1 rfl ?_
    refine V_getf (v := .int (μ_25 20 g_22 3)) C 20 g_22 (gr_0in g_22 hg_22) fl_RX4_18 rfl rfl dX4_reshape_117 ?_
    refine V_icmp_ge C (tgt := 160) dX4_reshape_120 (by decide) (fun hc => ?_) (fun hc => ?_)
    · replace h := (if_pos hc).symm.trans h
      refine V_sub (LP := []) [] rfl ?_
      exact hκ _ _ h
    · replace h := (if_neg hc).symm.trans h
      refine V_aload_n C 2 dX4_reshape_123 rfl 1 rfl ?_
      refine V_getf (v := .ref (E.1 22 g_22)) C 20 g_22 (gr_0in g_22 hg_22) fl_RX4_28 rfl rfl dX4_reshape_124 ?_
      refine V_iload C dX4_reshape_127 3 rfl ?_
      refine V_aload_n C 1 dX4_reshape_129 rfl 0 rfl ?_
      refine V_getf (v := .ref (E.1 22 g_21)) C 20 g_21 (gr_0in g_21 hg_21) fl_RX4_28 rfl rfl dX4_reshape_130 ?_
      refine V_iload_n C 3 dX4_reshape_133 rfl 2 rfl ?_
      obtain ⟨hi9, h⟩ := gd_inv h
      refine V_iald C 22 g_21 (gr_2in g_21 hg_21) (fun _ => rfl) (inb_in hi9) dX4_reshape_134 ?_
      obtain ⟨hi9, h⟩ := gd_inv h
      refine V_iast C 22 g_22 (gr_2in g_22 hg_22) (fun _ => rfl) (inb_in hi9) dX4_reshape_135 ?_
      refine V_memn (fun μ_26 hn9 => ?_)
      replace h := lt_eq hn9 h; clear hn9
      refine V_iload_n C 3 dX4_reshape_136 rfl 2 rfl ?_
      refine V_iconst C (1 : Int32) dX4_reshape_137 (by decide) ?_
      refine V_iadd C dX4_reshape_138 ?_
      refine V_aload_n C 1 dX4_reshape_139 rfl 0 rfl ?_
      refine V_getf (v := .int (μ_26 20 g_21 3)) C 20 g_21 (gr_0in g_21 hg_21) fl_RX4_18 rfl rfl dX4_reshape_140 ?_
      obtain ⟨j_28, hj_28, h⟩ := jn_ex h
      have J_28 : ∀ (s_27 : Int32) x, j_28 s_27 = some x → V Y l E lvC 5 (rBu x) 153 [(1, .ref (E.1 20 g_21)), (2, .ref (E.1 20 g_22)), (4, .int a4_24)] [.int s_27] μ_26 := by
        intro s_27  x h
        rw [hj_28] at h; clear hj_28
        refine V_istore_n (L' := [(1, .ref (E.1 20 g_21)), (2, .ref (E.1 20 g_22)), (3, .int s_27), (4, .int a4_24)]) C 3 dX4_reshape_153 rfl (by decide) [1, 2, 0, 3] rfl ?_
        obtain ⟨x_29, hn9⟩ : ∃ z : Int32, z = a4_24 + (1 : Int32) := ⟨_, rfl⟩
        replace h := lt_eq hn9 h
        refine V_iinc (L' := [(1, .ref (E.1 20 g_21)), (2, .ref (E.1 20 g_22)), (3, .int s_27), (4, .int x_29)]) C x_29 dX4_reshape_154 3 rfl (by rw [hn9]; exact congrArg (a4_24 + ·) (by decide)) (by decide) [1, 2, 3, 0] rfl ?_
        clear hn9
        refine V_goto C (tgt := 114) dX4_reshape_157 (by decide) ?_
        refine V_sub (LP := [(1, .ref (E.1 20 g_21)), (2, .ref (E.1 20 g_22)), (3, .int s_27), (4, .int x_29)]) [0, 1, 2, 3] rfl ?_
        exact ih _ _ _ h
      clear hj_28
      refine V_icmp_ne C (tgt := 150) dX4_reshape_143 (by decide) (fun hc => ?_) (fun hc => ?_)
      · replace h := (if_neg hc).symm.trans h
        refine V_iload_n C 3 dX4_reshape_150 rfl 2 rfl ?_
        refine V_iconst C (1 : Int32) dX4_reshape_151 (by decide) ?_
        refine V_iadd C dX4_reshape_152 ?_
        refine V_sub (LP := [(1, .ref (E.1 20 g_21)), (2, .ref (E.1 20 g_22)), (4, .int a4_24)]) [0, 1, 3] rfl ?_
        exact J_28 _ _ h
      · replace h := (if_pos hc).symm.trans h
        refine V_iconst C (0 : Int32) dX4_reshape_146 (by decide) ?_
        refine V_goto C (tgt := 153) dX4_reshape_147 (by decide) ?_
        refine V_sub (LP := [(1, .ref (E.1 20 g_21)), (2, .ref (E.1 20 g_22)), (4, .int a4_24)]) [0, 1, 3] rfl ?_
        exact J_28 _ _ h
set_option maxHeartbeats 4000000 in
set_option maxRecDepth 100000 in
theorem con_X4_reshape {l : Launch} {E : WE} (hl : l.stackTraces = false) (g0 : Nat) (g1 : Nat) (g2 : Nat) (hg0 : g0 < 18) (hg1 : g1 < 18) (hg2 : g2 < 18) {μ : Mem} {x} (h : f_X4_reshape g0 g1 g2 μ = some x) : Con l E lvC yX4_reshape cX4_reshape 5 none 1 [.ref (E.1 20 g0), .ref (E.1 20 g1), .ref (E.1 20 g2)] μ (rBu x) := by
  refine Con.of (by decide) hl (Nat.le_of_ble_eq_true rfl) (fun Y C => ?_)
  replace C : Ok Y l E lvC 5 RX4 cX4_reshape none 1 := C
  show V Y l E lvC 5 (rBu x) 0 [(0, .ref (E.1 20 g0)), (1, .ref (E.1 20 g1)), (2, .ref (E.1 20 g2))] [] μ
  unfold f_X4_reshape at h
  refine V_aload_n C 0 dX4_reshape_0 rfl 0 rfl ?_
  refine V_getf (v := .int (μ 20 g0 2)) C 20 g0 (gr_0in g0 hg0) fl_RX4_54 rfl rfl dX4_reshape_1 ?_
  refine V_iconst C (1 : Int32) dX4_reshape_4 (by decide) ?_
  refine V_icmp_gt C (tgt := 16) dX4_reshape_5 (by decide) (fun hc => ?_) (fun hc => ?_)
  · replace h := (if_pos hc).symm.trans h
    cases h
    exact V_throw C 4 th_RX4_57 rfl (Nat.le_of_ble_eq_true rfl) dX4_reshape_16 dX4_reshape_19 dX4_reshape_20 dX4_reshape_23
  · replace h := (if_neg hc).symm.trans h
    refine V_aload_n C 0 dX4_reshape_8 rfl 0 rfl ?_
    refine V_getf (v := .int (μ 20 g0 3)) C 20 g0 (gr_0in g0 hg0) fl_RX4_18 rfl rfl dX4_reshape_9 ?_
    refine V_iconst C (3 : Int32) dX4_reshape_12 (by decide) ?_
    refine V_icmp_le C (tgt := 24) dX4_reshape_13 (by decide) (fun hc => ?_) (fun hc => ?_)
    · replace h := (if_pos hc).symm.trans h
      refine V_iconst C (0 : Int32) dX4_reshape_24 (by decide) ?_
      refine V_istore_n (L' := [(0, .ref (E.1 20 g0)), (1, .ref (E.1 20 g1)), (2, .ref (E.1 20 g2)), (3, .int (0 : Int32))]) C 3 dX4_reshape_25 rfl (by decide) [1, 2, 3, 0] rfl ?_
      refine V_sub (LP := [(0, .ref (E.1 20 g0)), (1, .ref (E.1 20 g1)), (2, .ref (E.1 20 g2)), (3, .int (0 : Int32))]) [0, 1, 2, 3] rfl ?_
      refine lp_X4_reshape_26 hl C g0 g1 g2 μ hg0 hg1 hg2 (fun _ x h => ?_) 1000 _ h
      refine V_iconst C (0 : Int32) dX4_reshape_57 (by decide) ?_
      refine V_istore_n (L' := [(0, .ref (E.1 20 g0)), (1, .ref (E.1 20 g1)), (2, .ref (E.1 20 g2)), (3, .int (0 : Int32))]) C 3 dX4_reshape_58 rfl (by decide) [1, 2, 3, 0] rfl ?_
      refine V_sub (LP := [(0, .ref (E.1 20 g0)), (1, .ref (E.1 20 g1)), (2, .ref (E.1 20 g2)), (3, .int (0 : Int32))]) [0, 1, 2, 3] rfl ?_
      refine lp_X4_reshape_59 hl C g0 g1 g2 hg0 hg1 hg2 (fun μ_17 x h => ?_) 1000 _ _ h
      refine V_aload_n C 2 dX4_reshape_83 rfl 1 rfl ?_
      rcases bT_inv h with ⟨e_19, hv, h⟩ | ⟨u_18, hv, h⟩
      · cases h; exact V_callVe C 20 g2 (gr_0in g2 hg2) e_19 (con_X1_endAxes hl g2 hg2 hv) tb_X1_endAxes lk_RX4_77 rfl rfl rfl (by decide) (by decide) rfl (Nat.le_of_ble_eq_true rfl) rfl dX4_reshape_84 rfl
      refine V_callVo C 20 g2 (gr_0in g2 hg2) none (con_X1_endAxes hl g2 hg2 hv) tb_X1_endAxes lk_RX4_77 rfl rfl rfl (by decide) (by decide) rfl (Nat.le_of_ble_eq_true rfl) rfl dX4_reshape_84 rfl ?_
      clear hv
      refine V_aload_n C 1 dX4_reshape_87 rfl 0 rfl ?_
      refine V_getf (v := .int (μ_17 20 g1 3)) C 20 g1 (gr_0in g1 hg1) fl_RX4_18 rfl rfl dX4_reshape_88 ?_
      obtain ⟨j_20, hj_20, h⟩ := jn_ex h
      have J_20 : ∀ (_ : Unit) x, j_20 () = some x → V Y l E lvC 5 (rBu x) 109 [(1, .ref (E.1 20 g1)), (2, .ref (E.1 20 g2))] [] μ_17 := by
        intro _  x h
        rw [hj_20] at h; clear hj_20
        refine V_iconst C (0 : Int32) dX4_reshape_109 (by decide) ?_
        refine V_istore_n (L' := [(1, .ref (E.1 20 g1)), (2, .ref (E.1 20 g2)), (3, .int (0 : Int32))]) C 3 dX4_reshape_110 rfl (by decide) [1, 2, 0] rfl ?_
        refine V_iconst C (0 : Int32) dX4_reshape_111 (by decide) ?_
        refine V_istore (L' := [(1, .ref (E.1 20 g1)), (2, .ref (E.1 20 g2)), (3, .int (0 : Int32)), (4, .int (0 : Int32))]) C dX4_reshape_112 (by decide) [1, 2, 3, 0] rfl ?_
        refine V_sub (LP := [(1, .ref (E.1 20 g1)), (2, .ref (E.1 20 g2)), (3, .int (0 : Int32)), (4, .int (0 : Int32))]) [0, 1, 2, 3] rfl ?_
        refine lp_X4_reshape_114 hl C g1 g2 hg1 hg2 (fun μ_31 x h => ?_) 1000 _ _ _ h
        cases h
        exact V_return C rfl rfl dX4_reshape_160
      clear hj_20
      refine V_if_ne C (tgt := 109) dX4_reshape_91 (by decide) (fun hc => ?_) (fun hc => ?_)
      · replace h := (if_neg hc).symm.trans h
        refine V_sub (LP := [(1, .ref (E.1 20 g1)), (2, .ref (E.1 20 g2))]) [0, 1] rfl ?_
        exact J_20 () _ h
      · replace h := (if_pos hc).symm.trans h
        refine V_aload_n C 2 dX4_reshape_94 rfl 1 rfl ?_
        refine V_getf (v := .int (μ_17 20 g2 3)) C 20 g2 (gr_0in g2 hg2) fl_RX4_18 rfl rfl dX4_reshape_95 ?_
        refine V_if_le C (tgt := 109) dX4_reshape_98 (by decide) (fun hc => ?_) (fun hc => ?_)
        · replace h := (if_pos hc).symm.trans h
          refine V_sub (LP := [(1, .ref (E.1 20 g1)), (2, .ref (E.1 20 g2))]) [0, 1] rfl ?_
          exact J_20 () _ h
        · replace h := (if_neg hc).symm.trans h
          cases h
          exact V_throw C 3 th_RX4_60 rfl (Nat.le_of_ble_eq_true rfl) dX4_reshape_101 dX4_reshape_104 dX4_reshape_105 dX4_reshape_108
    · replace h := (if_neg hc).symm.trans h
      cases h
      exact V_throw C 4 th_RX4_57 rfl (Nat.le_of_ble_eq_true rfl) dX4_reshape_16 dX4_reshape_19 dX4_reshape_20 dX4_reshape_23
set_option maxHeartbeats 4000000 in
set_option maxRecDepth 100000 in
theorem lp_X4_needJoinable_45 {Y : Mc} {l : Launch} {E : WE} (hl : l.stackTraces = false) (C : Ok Y l E lvC 4 RX4 cX4_needJoinable none 1) {κ : Unit → Option (Except Nat Unit)} (g_3 : Nat) (g_4 : Nat) (c2_5 : Int32) (μ_7 : Mem) (hg_3 : g_3 < 18) (hg_4 : g_4 < 18) (hκ : ∀ (_ : Unit) x, κ () = some x → V Y l E lvC 4 (rTu x μ_7) 81 [] [] μ_7) : ∀ (n : Nat) (a3_6 : Int32) {x}, f_X4_needJoinable_L45 κ g_3 g_4 c2_5 μ_7 n a3_6 = some x → V Y l E lvC 4 (rTu x μ_7) 45 [(0, .ref (E.1 20 g_3)), (1, .ref (E.1 20 g_4)), (2, .int c2_5), (3, .int a3_6)] [] μ_7 := by
  intro n
  induction n with
  | zero =>
    intro a3_6 x h
    simp [f_X4_needJoinable_L45] at h
  | succ n ih =>
    intro a3_6 x h
    rw [f_X4_needJoinable_L45] at h
    refine V_iload_n C 3 dX4_needJoinable_45 rfl 3 rfl ?_
    refine V_iload_n C 2 dX4_needJoinable_46 rfl 2 rfl ?_
    refine V_iconst C (1 : Int32) dX4_needJoinable_47 (by decide) ?_
    refine V_isub C dX4_needJoinable_48 ?_
    refine V_icmp_ge C (tgt := 81) dX4_needJoinable_49 (by decide) (fun hc => ?_) (fun hc => ?_)
    · replace h := (if_pos hc).symm.trans h
      refine V_sub (LP := []) [] rfl ?_
      exact hκ () _ h
    · replace h := (if_neg hc).symm.trans h
      refine V_aload_n C 0 dX4_needJoinable_52 rfl 0 rfl ?_
      refine V_getf (v := .ref (E.1 21 g_3)) C 20 g_3 (gr_0in g_3 hg_3) fl_RX4_66 rfl rfl dX4_needJoinable_53 ?_
      refine V_iload_n C 3 dX4_needJoinable_56 rfl 3 rfl ?_
      obtain ⟨hi9, h⟩ := gd_inv h
      refine V_iald C 21 g_3 (gr_1in g_3 hg_3) (fun _ => rfl) (inb_in hi9) dX4_needJoinable_57 ?_
      refine V_aload_n C 1 dX4_needJoinable_58 rfl 1 rfl ?_
      refine V_getf (v := .ref (E.1 21 g_4)) C 20 g_4 (gr_0in g_4 hg_4) fl_RX4_66 rfl rfl dX4_needJoinable_59 ?_
      refine V_iload_n C 3 dX4_needJoinable_62 rfl 3 rfl ?_
      obtain ⟨hi9, h⟩ := gd_inv h
      refine V_iald C 21 g_4 (gr_1in g_4 hg_4) (fun _ => rfl) (inb_in hi9) dX4_needJoinable_63 ?_
      refine V_icmp_eq C (tgt := 75) dX4_needJoinable_64 (by decide) (fun hc => ?_) (fun hc => ?_)
      · replace h := (if_pos hc).symm.trans h
        obtain ⟨x_8, hn9⟩ : ∃ z : Int32, z = a3_6 + (1 : Int32) := ⟨_, rfl⟩
        replace h := lt_eq hn9 h
        refine V_iinc (L' := [(0, .ref (E.1 20 g_3)), (1, .ref (E.1 20 g_4)), (2, .int c2_5), (3, .int x_8)]) C x_8 dX4_needJoinable_75 3 rfl (by rw [hn9]; exact congrArg (a3_6 + ·) (by decide)) (by decide) [1, 2, 3, 0] rfl ?_
        clear hn9
        refine V_goto C (tgt := 45) dX4_needJoinable_78 (by decide) ?_
        refine V_sub (LP := [(0, .ref (E.1 20 g_3)), (1, .ref (E.1 20 g_4)), (2, .int c2_5), (3, .int x_8)]) [0, 1, 2, 3] rfl ?_
        exact ih _ h
      · replace h := (if_neg hc).symm.trans h
        cases h
        exact V_throw C 3 th_RX4_60 rfl (Nat.le_of_ble_eq_true rfl) dX4_needJoinable_67 dX4_needJoinable_70 dX4_needJoinable_71 dX4_needJoinable_74
set_option maxHeartbeats 4000000 in
set_option maxRecDepth 100000 in
theorem con_X4_needJoinable {l : Launch} {E : WE} (hl : l.stackTraces = false) (g0 : Nat) (g1 : Nat) (a2 : Int32) (hg0 : g0 < 18) (hg1 : g1 < 18) {μ : Mem} {x} (h : f_X4_needJoinable g0 g1 a2 μ = some x) : Con l E lvC yX4_needJoinable cX4_needJoinable 4 none 1 [.ref (E.1 20 g0), .ref (E.1 20 g1), .int a2] μ (rTu x μ) := by
  refine Con.of (by decide) hl (Nat.le_of_ble_eq_true rfl) (fun Y C => ?_)
  replace C : Ok Y l E lvC 4 RX4 cX4_needJoinable none 1 := C
  show V Y l E lvC 4 (rTu x μ) 0 [(0, .ref (E.1 20 g0)), (1, .ref (E.1 20 g1)), (2, .int a2)] [] μ
  unfold f_X4_needJoinable at h
  refine V_aload_n C 0 dX4_needJoinable_0 rfl 0 rfl ?_
  obtain ⟨v_1, hv, h⟩ := bP_inv h
  refine V_callVo C 20 g0 (gr_0in g0 hg0) (some (.int v_1)) (con_X1_isScalar hl g0 hg0 hv) tb_X1_isScalar lk_RX4_98 rfl rfl rfl (by decide) (by decide) rfl (Nat.le_of_ble_eq_true rfl) rfl dX4_needJoinable_1 rfl ?_
  clear hv
  refine V_if_ne C (tgt := 14) dX4_needJoinable_4 (by decide) (fun hc => ?_) (fun hc => ?_)
  · replace h := (if_neg hc).symm.trans h
    cases h
    exact V_return C rfl rfl dX4_needJoinable_14
  · replace h := (if_pos hc).symm.trans h
    refine V_aload_n C 1 dX4_needJoinable_7 rfl 1 rfl ?_
    obtain ⟨v_2, hv, h⟩ := bP_inv h
    refine V_callVo C 20 g1 (gr_0in g1 hg1) (some (.int v_2)) (con_X1_isScalar hl g1 hg1 hv) tb_X1_isScalar lk_RX4_98 rfl rfl rfl (by decide) (by decide) rfl (Nat.le_of_ble_eq_true rfl) rfl dX4_needJoinable_8 rfl ?_
    clear hv
    refine V_if_eq C (tgt := 15) dX4_needJoinable_11 (by decide) (fun hc => ?_) (fun hc => ?_)
    · replace h := (if_pos hc).symm.trans h
      refine V_aload_n C 0 dX4_needJoinable_15 rfl 0 rfl ?_
      refine V_getf (v := .int (μ 20 g0 2)) C 20 g0 (gr_0in g0 hg0) fl_RX4_54 rfl rfl dX4_needJoinable_16 ?_
      refine V_iload_n C 2 dX4_needJoinable_19 rfl 2 rfl ?_
      refine V_iconst C (1 : Int32) dX4_needJoinable_20 (by decide) ?_
      refine V_isub C dX4_needJoinable_21 ?_
      refine V_icmp_lt C (tgt := 35) dX4_needJoinable_22 (by decide) (fun hc => ?_) (fun hc => ?_)
      · replace h := (if_pos hc).symm.trans h
        cases h
        exact V_throw C 4 th_RX4_57 rfl (Nat.le_of_ble_eq_true rfl) dX4_needJoinable_35 dX4_needJoinable_38 dX4_needJoinable_39 dX4_needJoinable_42
      · replace h := (if_neg hc).symm.trans h
        refine V_aload_n C 1 dX4_needJoinable_25 rfl 1 rfl ?_
        refine V_getf (v := .int (μ 20 g1 2)) C 20 g1 (gr_0in g1 hg1) fl_RX4_54 rfl rfl dX4_needJoinable_26 ?_
        refine V_iload_n C 2 dX4_needJoinable_29 rfl 2 rfl ?_
        refine V_iconst C (1 : Int32) dX4_needJoinable_30 (by decide) ?_
        refine V_isub C dX4_needJoinable_31 ?_
        refine V_icmp_ge C (tgt := 43) dX4_needJoinable_32 (by decide) (fun hc => ?_) (fun hc => ?_)
        · replace h := (if_pos hc).symm.trans h
          refine V_iconst C (0 : Int32) dX4_needJoinable_43 (by decide) ?_
          refine V_istore_n (L' := [(0, .ref (E.1 20 g0)), (1, .ref (E.1 20 g1)), (2, .int a2), (3, .int (0 : Int32))]) C 3 dX4_needJoinable_44 rfl (by decide) [1, 2, 3, 0] rfl ?_
          refine V_sub (LP := [(0, .ref (E.1 20 g0)), (1, .ref (E.1 20 g1)), (2, .int a2), (3, .int (0 : Int32))]) [0, 1, 2, 3] rfl ?_
          refine lp_X4_needJoinable_45 hl C g0 g1 a2 μ hg0 hg1 (fun _ x h => ?_) 1000 _ h
          cases h
          exact V_return C rfl rfl dX4_needJoinable_81
        · replace h := (if_neg hc).symm.trans h
          cases h
          exact V_throw C 4 th_RX4_57 rfl (Nat.le_of_ble_eq_true rfl) dX4_needJoinable_35 dX4_needJoinable_38 dX4_needJoinable_39 dX4_needJoinable_42
    · replace h := (if_neg hc).symm.trans h
      cases h
      exact V_return C rfl rfl dX4_needJoinable_14
