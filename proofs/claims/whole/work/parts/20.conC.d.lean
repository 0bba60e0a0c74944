set_option maxHeartbeats 4000000 in
set_option maxRecDepth 100000 in
theorem con_X0_workOnTwo {l : Launch} {E : WE} (hl : l.stackTraces = false) (a2 : Int32)  {μ : Mem} {x} (h : f_X0_workOnTwo a2 μ = some x) : Con l E lvC yX0_workOnTwo cX0_workOnTwo 7 none 6 [.ref (E.1 14 0), .ref (E.1 1 0), .int a2] μ (rBu x) := by
  refine Con.of (by decide) hl (Nat.le_of_ble_eq_true rfl) (fun Y C => ?_)
  replace C : Ok Y l E lvC 7 RX0 cX0_workOnTwo none 6 := C
  show V Y l E lvC 7 (rBu x) 0 [(0, .ref (E.1 14 0)), (1, .ref (E.1 1 0)), (2, .int a2)] [] μ
  unfold f_X0_workOnTwo at h
  refine V_aload_n C 1 dX0_workOnTwo_0 rfl 1 rfl ?_
  refine V_getf (v := .ref (E.1 7 0)) C 1 0 m_1 fl_RX0_96 rfl rfl dX0_workOnTwo_1 ?_
  refine V_iload_n C 2 dX0_workOnTwo_4 rfl 2 rfl ?_
  obtain ⟨hi9, h⟩ := gd_inv h
  refine V_cald C 7 0 m_7 (fun _ => rfl) (inb_in hi9) dX0_workOnTwo_5 ?_
  refine V_topi (fun x_1 hn9 => ?_)
  replace h := lt_eq hn9 h; clear hn9
  refine V_istore_n (L' := [(0, .ref (E.1 14 0)), (1, .ref (E.1 1 0)), (2, .int a2), (3, .int x_1)]) C 3 dX0_workOnTwo_6 rfl (by decide) [1, 2, 3, 0] rfl ?_
  refine V_aload_n C 1 dX0_workOnTwo_7 rfl 1 rfl ?_
  refine V_getf (v := .ref (E.1 8 0)) C 1 0 m_1 fl_RX0_100 rfl rfl dX0_workOnTwo_8 ?_
  refine V_iload_n C 2 dX0_workOnTwo_11 rfl 2 rfl ?_
  obtain ⟨hi9, h⟩ := gd_inv h
  refine V_cald C 8 0 m_8 (fun _ => rfl) (inb_in hi9) dX0_workOnTwo_12 ?_
  refine V_topi (fun x_2 hn9 => ?_)
  replace h := lt_eq hn9 h; clear hn9
  refine V_istore (L' := [(0, .ref (E.1 14 0)), (1, .ref (E.1 1 0)), (2, .int a2), (3, .int x_1), (4, .int x_2)]) C dX0_workOnTwo_13 (by decide) [1, 2, 3, 4, 0] rfl ?_
  refine V_aload_n C 0 dX0_workOnTwo_15 rfl 0 rfl ?_
  refine V_getf (v := .ref (E.1 15 0)) C 14 0 m_14 fl_RX0_13 rfl rfl dX0_workOnTwo_16 ?_
  refine V_aload_n C 0 dX0_workOnTwo_19 rfl 0 rfl ?_
  refine V_getf (v := .int (μ 14 0 4)) C 14 0 m_14 fl_RX0_29 rfl rfl dX0_workOnTwo_20 ?_
  refine V_iconst C (1 : Int32) dX0_workOnTwo_23 (by decide) ?_
  refine V_isub C dX0_workOnTwo_24 ?_
  obtain ⟨hi9, h⟩ := gd_inv h
  refine V_aald (a := E.1 20 (μ 15 0 (((μ 14 0 4) - (1 : Int32))).toNatClampNeg).toNatClampNeg) C 15 0 m_15 rfl (inb_in hi9) rfl dX0_workOnTwo_25 ?_
  refine V_topg (fun g_3 hn9 => ?_)
  replace h := lt_eq hn9 h; clear hn9
  obtain ⟨hg_3, h⟩ := gd_inv h
  replace hg_3 := dec_t hg_3
  refine V_astore (L' := [(0, .ref (E.1 14 0)), (1, .ref (E.1 1 0)), (2, .int a2), (3, .int x_1), (4, .int x_2), (5, .ref (E.1 20 g_3))]) C dX0_workOnTwo_26 (by decide) [1, 2, 3, 4, 5, 0] rfl ?_
  refine V_aload_n C 0 dX0_workOnTwo_28 rfl 0 rfl ?_
  refine V_getf (v := .ref (E.1 15 0)) C 14 0 m_14 fl_RX0_13 rfl rfl dX0_workOnTwo_29 ?_
  refine V_aload_n C 0 dX0_workOnTwo_32 rfl 0 rfl ?_
  refine V_getf (v := .int (μ 14 0 4)) C 14 0 m_14 fl_RX0_29 rfl rfl dX0_workOnTwo_33 ?_
  refine V_iconst C (2 : Int32) dX0_workOnTwo_36 (by decide) ?_
  refine V_isub C dX0_workOnTwo_37 ?_
  obtain ⟨hi9, h⟩ := gd_inv h
  refine V_aald (a := E.1 20 (μ 15 0 (((μ 14 0 4) - (2 : Int32))).toNatClampNeg).toNatClampNeg) C 15 0 m_15 rfl (inb_in hi9) rfl dX0_workOnTwo_38 ?_
  refine V_topg (fun g_4 hn9 => ?_)
  replace h := lt_eq hn9 h; clear hn9
  obtain ⟨hg_4, h⟩ := gd_inv h
  replace hg_4 := dec_t hg_4
  refine V_astore (L' := [(0, .ref (E.1 14 0)), (1, .ref (E.1 1 0)), (2, .int a2), (3, .int x_1), (4, .int x_2), (5, .ref (E.1 20 g_3)), (6, .ref (E.1 20 g_4))]) C dX0_workOnTwo_39 (by decide) [1, 2, 3, 4, 5, 6, 0] rfl ?_
  refine V_aload_n C 0 dX0_workOnTwo_41 rfl 0 rfl ?_
  refine V_getf (v := .ref (E.1 20 (μ 14 0 3).toNatClampNeg)) C 14 0 m_14 fl_RX0_25 rfl rfl dX0_workOnTwo_42 ?_
  refine V_topg (fun g_5 hn9 => ?_)
  replace h := lt_eq hn9 h; clear hn9
  obtain ⟨hg_5, h⟩ := gd_inv h
  replace hg_5 := dec_t hg_5
  obtain ⟨u_6, μ_7, hv, h⟩ := bW_inv h
  refine V_callVo C 20 g_5 (gr_0in g_5 hg_5) none (con_X1_restart hl g_5 hg_5 hv) tb_X1_restart lk_RX0_77 rfl rfl rfl (by decide) (by decide) rfl (Nat.le_of_ble_eq_true rfl) rfl dX0_workOnTwo_45 rfl ?_
  clear hv
  refine V_iload C dX0_workOnTwo_48 4 rfl ?_
  refine V_bipush C (46 : Int32) dX0_workOnTwo_50 (by decide) ?_
  obtain ⟨j_9, hj_9, h⟩ := jn_ex h
  have J_9 : ∀ (μ_8 : Mem) x, j_9 μ_8 = some x → V Y l E lvC 7 (rBu x) 138 [(0, .ref (E.1 14 0))] [] μ_8 := by
    intro μ_8  x h
    rw [hj_9] at h; clear hj_9
    refine V_aload_n C 0 dX0_workOnTwo_138 rfl 0 rfl ?_
    refine V_dup C dX0_workOnTwo_139 rfl ?_
    refine V_getf (v := .int (μ_8 14 0 4)) C 14 0 m_14 fl_RX0_29 rfl rfl dX0_workOnTwo_140 ?_
    refine V_iconst C (1 : Int32) dX0_workOnTwo_143 (by decide) ?_
    refine V_isub C dX0_workOnTwo_144 ?_
    refine V_putI C 14 0 m_14 fp_RX0_29 rfl rfl rfl rfl (Nat.le_of_ble_eq_true rfl) dX0_workOnTwo_145 ?_
    refine V_memn (fun μ_10 hn9 => ?_)
    replace h := lt_eq hn9 h; clear hn9
    refine V_aload_n C 0 dX0_workOnTwo_148 rfl 0 rfl ?_
    obtain ⟨u_11, μ_12, hv, h⟩ := bW_inv h
    refine V_callVo C 14 0 m_14 none (con_X0_putSpare hl hv) tb_X0_putSpare lk_RX0_128 rfl rfl rfl (by decide) (by decide) rfl (Nat.le_of_ble_eq_true rfl) rfl dX0_workOnTwo_149 rfl ?_
    clear hv
    cases h
    exact V_return C rfl rfl dX0_workOnTwo_152
  clear hj_9
  refine V_icmp_ne C (tgt := 80) dX0_workOnTwo_52 (by decide) (fun hc => ?_) (fun hc => ?_)
  · replace h := (if_neg hc).symm.trans h
    refine V_iload C dX0_workOnTwo_80 4 rfl ?_
    refine V_bipush C (64 : Int32) dX0_workOnTwo_82 (by decide) ?_
    refine V_icmp_ne C (tgt := 102) dX0_workOnTwo_84 (by decide) (fun hc => ?_) (fun hc => ?_)
    · replace h := (if_neg hc).symm.trans h
      refine V_ldcS (tx := "r,p") C 2 (by decide +kernel) dX0_workOnTwo_102 ?_
      refine V_iload_n C 3 dX0_workOnTwo_104 rfl 3 rfl ?_
      refine V_indexOf C hl 2 (by decide) lk_RX0_114 (by decide) (Nat.le_of_ble_eq_true rfl) dX0_workOnTwo_105 ?_
      refine V_if_lt C (tgt := 126) dX0_workOnTwo_108 (by decide) (fun hc => ?_) (fun hc => ?_)
      · replace h := (if_pos hc).symm.trans h
        refine V_iload_n C 3 dX0_workOnTwo_126 rfl 3 rfl ?_
        refine V_aload C dX0_workOnTwo_127 5 rfl ?_
        refine V_aload C dX0_workOnTwo_129 6 rfl ?_
        refine V_aload_n C 0 dX0_workOnTwo_131 rfl 0 rfl ?_
        refine V_getf (v := .ref (E.1 20 (μ_7 14 0 3).toNatClampNeg)) C 14 0 m_14 fl_RX0_25 rfl rfl dX0_workOnTwo_132 ?_
        refine V_topg (fun g_13 hn9 => ?_)
        replace h := lt_eq hn9 h; clear hn9
        obtain ⟨hg_13, h⟩ := gd_inv h
        replace hg_13 := dec_t hg_13
        rcases bB_inv h with ⟨e_16, μ_15, hv, h⟩ | ⟨u_14, μ_15, hv, h⟩
        · cases h; exact V_callSe C e_16 (con_X3_each hl x_1 g_3 g_4 g_13 hg_3 hg_4 hg_13 hv) tb_X3_each lk_RX0_147 (by decide) (by decide) rfl (Nat.le_of_ble_eq_true rfl) rfl dX0_workOnTwo_135 rfl
        refine V_callSo C none (con_X3_each hl x_1 g_3 g_4 g_13 hg_3 hg_4 hg_13 hv) tb_X3_each lk_RX0_147 (by decide) (by decide) rfl (Nat.le_of_ble_eq_true rfl) rfl dX0_workOnTwo_135 rfl ?_
        clear hv
        refine V_sub (LP := [(0, .ref (E.1 14 0))]) [0] rfl ?_
        exact J_9 _ _ h
      · replace h := (if_neg hc).symm.trans h
        refine V_iload_n C 3 dX0_workOnTwo_111 rfl 3 rfl ?_
        refine V_aload C dX0_workOnTwo_112 5 rfl ?_
        refine V_aload C dX0_workOnTwo_114 6 rfl ?_
        refine V_aload_n C 0 dX0_workOnTwo_116 rfl 0 rfl ?_
        refine V_getf (v := .ref (E.1 20 (μ_7 14 0 3).toNatClampNeg)) C 14 0 m_14 fl_RX0_25 rfl rfl dX0_workOnTwo_117 ?_
        refine V_topg (fun g_17 hn9 => ?_)
        replace h := lt_eq hn9 h; clear hn9
        obtain ⟨hg_17, h⟩ := gd_inv h
        replace hg_17 := dec_t hg_17
        rcases bB_inv h with ⟨e_20, μ_19, hv, h⟩ | ⟨u_18, μ_19, hv, h⟩
        · cases h; exact V_callSe C e_20 (con_X4_ofTwo hl x_1 g_3 g_4 g_17 hg_3 hg_4 hg_17 hv) tb_X4_ofTwo lk_RX0_144 (by decide) (by decide) rfl (Nat.le_of_ble_eq_true rfl) rfl dX0_workOnTwo_120 rfl
        refine V_callSo C none (con_X4_ofTwo hl x_1 g_3 g_4 g_17 hg_3 hg_4 hg_17 hv) tb_X4_ofTwo lk_RX0_144 (by decide) (by decide) rfl (Nat.le_of_ble_eq_true rfl) rfl dX0_workOnTwo_120 rfl ?_
        clear hv
        refine V_goto C (tgt := 138) dX0_workOnTwo_123 (by decide) ?_
        refine V_sub (LP := [(0, .ref (E.1 14 0))]) [0] rfl ?_
        exact J_9 _ _ h
    · replace h := (if_pos hc).symm.trans h
      refine V_iload_n C 3 dX0_workOnTwo_87 rfl 3 rfl ?_
      refine V_aload C dX0_workOnTwo_88 5 rfl ?_
      refine V_aload C dX0_workOnTwo_90 6 rfl ?_
      refine V_aload_n C 0 dX0_workOnTwo_92 rfl 0 rfl ?_
      refine V_getf (v := .ref (E.1 20 (μ_7 14 0 3).toNatClampNeg)) C 14 0 m_14 fl_RX0_25 rfl rfl dX0_workOnTwo_93 ?_
      refine V_topg (fun g_21 hn9 => ?_)
      replace h := lt_eq hn9 h; clear hn9
      obtain ⟨hg_21, h⟩ := gd_inv h
      replace hg_21 := dec_t hg_21
      rcases bB_inv h with ⟨e_24, μ_23, hv, h⟩ | ⟨u_22, μ_23, hv, h⟩
      · cases h; exact V_callSe C e_24 (con_X3_outer hl x_1 g_3 g_4 g_21 hg_3 hg_4 hg_21 hv) tb_X3_outer lk_RX0_138 (by decide) (by decide) rfl (Nat.le_of_ble_eq_true rfl) rfl dX0_workOnTwo_96 rfl
      refine V_callSo C none (con_X3_outer hl x_1 g_3 g_4 g_21 hg_3 hg_4 hg_21 hv) tb_X3_outer lk_RX0_138 (by decide) (by decide) rfl (Nat.le_of_ble_eq_true rfl) rfl dX0_workOnTwo_96 rfl ?_
      clear hv
      refine V_goto C (tgt := 138) dX0_workOnTwo_99 (by decide) ?_
      refine V_sub (LP := [(0, .ref (E.1 14 0))]) [0] rfl ?_
      exact J_9 _ _ h
  · replace h := (if_pos hc).symm.trans h
    refine V_iload_n C 3 dX0_workOnTwo_55 rfl 3 rfl ?_
    refine V_aload_n C 1 dX0_workOnTwo_56 rfl 1 rfl ?_
    refine V_getf (v := .ref (E.1 9 0)) C 1 0 m_1 fl_RX0_131 rfl rfl dX0_workOnTwo_57 ?_
    refine V_iload_n C 2 dX0_workOnTwo_60 rfl 2 rfl ?_
    obtain ⟨hi9, h⟩ := gd_inv h
    refine V_cald C 9 0 m_9 (fun _ => rfl) (inb_in hi9) dX0_workOnTwo_61 ?_
    refine V_aload C dX0_workOnTwo_62 5 rfl ?_
    refine V_aload C dX0_workOnTwo_64 6 rfl ?_
    refine V_aload_n C 0 dX0_workOnTwo_66 rfl 0 rfl ?_
    refine V_getf (v := .ref (E.1 20 (μ_7 14 0 3).toNatClampNeg)) C 14 0 m_14 fl_RX0_25 rfl rfl dX0_workOnTwo_67 ?_
    refine V_topg (fun g_25 hn9 => ?_)
    replace h := lt_eq hn9 h; clear hn9
    obtain ⟨hg_25, h⟩ := gd_inv h
    replace hg_25 := dec_t hg_25
    refine V_aload_n C 0 dX0_workOnTwo_70 rfl 0 rfl ?_
    refine V_getf (v := .ref (E.1 17 0)) C 14 0 m_14 fl_RX0_21 rfl rfl dX0_workOnTwo_71 ?_
    rcases bB_inv h with ⟨e_28, μ_27, hv, h⟩ | ⟨u_26, μ_27, hv, h⟩
    · cases h; exact V_callSe C e_28 (con_X3_inner hl x_1 (μ_7 9 0 (a2).toNatClampNeg) g_3 g_4 g_25 17 0 hg_3 hg_4 hg_25 m_17 (fun _ => rfl) hv) tb_X3_inner lk_RX0_134 (by decide) (by decide) rfl (Nat.le_of_ble_eq_true rfl) rfl dX0_workOnTwo_74 rfl
    refine V_callSo C none (con_X3_inner hl x_1 (μ_7 9 0 (a2).toNatClampNeg) g_3 g_4 g_25 17 0 hg_3 hg_4 hg_25 m_17 (fun _ => rfl) hv) tb_X3_inner lk_RX0_134 (by decide) (by decide) rfl (Nat.le_of_ble_eq_true rfl) rfl dX0_workOnTwo_74 rfl ?_
    clear hv
    refine V_goto C (tgt := 138) dX0_workOnTwo_77 (by decide) ?_
    refine V_sub (LP := [(0, .ref (E.1 14 0))]) [0] rfl ?_
    exact J_9 _ _ h
set_option maxHeartbeats 4000000 in
set_option maxRecDepth 100000 in
theorem lp_X0_evaluate_29 {Y : Mc} {l : Launch} {E : WE} (hl : l.stackTraces = false) (C : Ok Y l E lvC 4 RX0 cX0_evaluate (some (.object "RankCalc$Grid")) 7) {κ : Mem → Option (Except Nat Nat × Mem)}   (hκ : ∀  (μ_21 : Mem) x, κ  μ_21 = some x → V Y l E lvC 4 (rBg E x) 105 [(0, .ref (E.1 14 0))] [] μ_21) : ∀ (n : Nat) (a3_6 : Int32) (μ_7 : Mem) {x}, f_X0_evaluate_L29 κ  n a3_6 μ_7 = some x → V Y l E lvC 4 (rBg E x) 29 [(0, .ref (E.1 14 0)), (1, .ref (E.1 1 0)), (2, .ref (E.1 11 0)), (3, .int a3_6)] [] μ_7 := by
  intro n
  induction n with
  | zero =>
    intro a3_6 μ_7 x h
    simp [f_X0_evaluate_L29] at h
  | succ n ih =>
    intro a3_6 μ_7 x h
    rw [f_X0_evaluate_L29] at h
    refine V_iload_n C 3 dX0_evaluate_29 rfl 3 rfl ?_
    refine V_if_lt C (tgt := 105) dX0_evaluate_30 (by decide) (fun hc => ?_) (fun hc => ?_)
    · replace h := (if_pos hc).symm.trans h
      refine V_sub (LP := [(0, .ref (E.1 14 0))]) [0] rfl ?_
      exact hκ _ _ h
    · replace h := (if_neg hc).symm.trans h
      refine V_aload_n C 1 dX0_evaluate_33 rfl 1 rfl ?_
      refine V_getf (v := .ref (E.1 4 0)) C 1 0 m_1 fl_RX0_44 rfl rfl dX0_evaluate_34 ?_
      refine V_iload_n C 3 dX0_evaluate_37 rfl 3 rfl ?_
      obtain ⟨hi9, h⟩ := gd_inv h
      refine V_iald C 4 0 m_4 (fun _ => rfl) (inb_in hi9) dX0_evaluate_38 ?_
      refine V_iconst C (4 : Int32) dX0_evaluate_39 (by decide) ?_
      obtain ⟨j_9, hj_9, h⟩ := jn_ex h
      have J_9 : ∀ (μ_8 : Mem) x, j_9 μ_8 = some x → V Y l E lvC 4 (rBg E x) 99 [(0, .ref (E.1 14 0)), (1, .ref (E.1 1 0)), (2, .ref (E.1 11 0)), (3, .int a3_6)] [] μ_8 := by
        intro μ_8  x h
        rw [hj_9] at h; clear hj_9
        obtain ⟨x_10, hn9⟩ : ∃ z : Int32, z = a3_6 + (-1 : Int32) := ⟨_, rfl⟩
        replace h := lt_eq hn9 h
        refine V_iinc (L' := [(0, .ref (E.1 14 0)), (1, .ref (E.1 1 0)), (2, .ref (E.1 11 0)), (3, .int x_10)]) C x_10 dX0_evaluate_99 3 rfl (by rw [hn9]; exact congrArg (a3_6 + ·) (by decide)) (by decide) [1, 2, 3, 0] rfl ?_
        clear hn9
        refine V_goto C (tgt := 29) dX0_evaluate_102 (by decide) ?_
        refine V_sub (LP := [(0, .ref (E.1 14 0)), (1, .ref (E.1 1 0)), (2, .ref (E.1 11 0)), (3, .int x_10)]) [0, 1, 2, 3] rfl ?_
        exact ih _ _ h
      clear hj_9
      refine V_icmp_ne C (tgt := 52) dX0_evaluate_40 (by decide) (fun hc => ?_) (fun hc => ?_)
      · replace h := (if_neg hc).symm.trans h
        refine V_aload_n C 0 dX0_evaluate_52 rfl 0 rfl ?_
        refine V_aload_n C 1 dX0_evaluate_53 rfl 1 rfl ?_
        refine V_iload_n C 3 dX0_evaluate_54 rfl 3 rfl ?_
        refine V_aload_n C 2 dX0_evaluate_55 rfl 2 rfl ?_
        rcases bB_inv h with ⟨e_13, μ_12, hv, h⟩ | ⟨v_11, μ_12, hv, h⟩
        · cases h; exact V_callVe C 14 0 m_14 e_13 (con_X0_endsTerm hl a3_6 hv) tb_X0_endsTerm lk_RX0_51 rfl rfl rfl (by decide) (by decide) rfl (Nat.le_of_ble_eq_true rfl) rfl dX0_evaluate_56 rfl
        refine V_callVo C 14 0 m_14 (some (.int v_11)) (con_X0_endsTerm hl a3_6 hv) tb_X0_endsTerm lk_RX0_51 rfl rfl rfl (by decide) (by decide) rfl (Nat.le_of_ble_eq_true rfl) rfl dX0_evaluate_56 rfl ?_
        clear hv
        refine V_if_eq C (tgt := 99) dX0_evaluate_59 (by decide) (fun hc => ?_) (fun hc => ?_)
        · replace h := (if_pos hc).symm.trans h
          refine V_sub (LP := [(0, .ref (E.1 14 0)), (1, .ref (E.1 1 0)), (2, .ref (E.1 11 0)), (3, .int a3_6)]) [0, 1, 2, 3] rfl ?_
          exact J_9 _ _ h
        · replace h := (if_neg hc).symm.trans h
          refine V_aload_n C 0 dX0_evaluate_62 rfl 0 rfl ?_
          refine V_getf (v := .ref (E.1 16 0)) C 14 0 m_14 fl_RX0_17 rfl rfl dX0_evaluate_63 ?_
          refine V_aload_n C 0 dX0_evaluate_66 rfl 0 rfl ?_
          refine V_getf (v := .int (μ_12 14 0 5)) C 14 0 m_14 fl_RX0_33 rfl rfl dX0_evaluate_67 ?_
          obtain ⟨hi9, h⟩ := gd_inv h
          refine V_iald C 16 0 m_16 (fun _ => rfl) (inb_in hi9) dX0_evaluate_70 ?_
          refine V_iconst C (-1 : Int32) dX0_evaluate_71 (by decide) ?_
          refine V_icmp_eq C (tgt := 99) dX0_evaluate_72 (by decide) (fun hc => ?_) (fun hc => ?_)
          · replace h := (if_pos hc).symm.trans h
            refine V_sub (LP := [(0, .ref (E.1 14 0)), (1, .ref (E.1 1 0)), (2, .ref (E.1 11 0)), (3, .int a3_6)]) [0, 1, 2, 3] rfl ?_
            exact J_9 _ _ h
          · replace h := (if_neg hc).symm.trans h
            refine V_aload_n C 0 dX0_evaluate_75 rfl 0 rfl ?_
            refine V_aload_n C 1 dX0_evaluate_76 rfl 1 rfl ?_
            refine V_aload_n C 0 dX0_evaluate_77 rfl 0 rfl ?_
            refine V_getf (v := .ref (E.1 16 0)) C 14 0 m_14 fl_RX0_17 rfl rfl dX0_evaluate_78 ?_
            refine V_aload_n C 0 dX0_evaluate_81 rfl 0 rfl ?_
            refine V_getf (v := .int (μ_12 14 0 5)) C 14 0 m_14 fl_RX0_33 rfl rfl dX0_evaluate_82 ?_
            obtain ⟨hi9, h⟩ := gd_inv h
            refine V_iald C 16 0 m_16 (fun _ => rfl) (inb_in hi9) dX0_evaluate_85 ?_
            rcases bB_inv h with ⟨e_16, μ_15, hv, h⟩ | ⟨u_14, μ_15, hv, h⟩
            · cases h; exact V_callVe C 14 0 m_14 e_16 (con_X0_workOnTwo hl (μ_12 16 0 ((μ_12 14 0 5)).toNatClampNeg) hv) tb_X0_workOnTwo lk_RX0_55 rfl rfl rfl (by decide) (by decide) rfl (Nat.le_of_ble_eq_true rfl) rfl dX0_evaluate_86 rfl
            refine V_callVo C 14 0 m_14 none (con_X0_workOnTwo hl (μ_12 16 0 ((μ_12 14 0 5)).toNatClampNeg) hv) tb_X0_workOnTwo lk_RX0_55 rfl rfl rfl (by decide) (by decide) rfl (Nat.le_of_ble_eq_true rfl) rfl dX0_evaluate_86 rfl ?_
            clear hv
            refine V_aload_n C 0 dX0_evaluate_89 rfl 0 rfl ?_
            refine V_getf (v := .ref (E.1 16 0)) C 14 0 m_14 fl_RX0_17 rfl rfl dX0_evaluate_90 ?_
            refine V_aload_n C 0 dX0_evaluate_93 rfl 0 rfl ?_
            refine V_getf (v := .int (μ_15 14 0 5)) C 14 0 m_14 fl_RX0_33 rfl rfl dX0_evaluate_94 ?_
            refine V_iconst C (-1 : Int32) dX0_evaluate_97 (by decide) ?_
            obtain ⟨hi9, h⟩ := gd_inv h
            refine V_iast C 16 0 m_16 (fun _ => rfl) (inb_in hi9) dX0_evaluate_98 ?_
            refine V_memn (fun μ_17 hn9 => ?_)
            replace h := lt_eq hn9 h; clear hn9
            refine V_sub (LP := [(0, .ref (E.1 14 0)), (1, .ref (E.1 1 0)), (2, .ref (E.1 11 0)), (3, .int a3_6)]) [0, 1, 2, 3] rfl ?_
            exact J_9 _ _ h
      · replace h := (if_pos hc).symm.trans h
        refine V_aload_n C 0 dX0_evaluate_43 rfl 0 rfl ?_
        refine V_aload_n C 1 dX0_evaluate_44 rfl 1 rfl ?_
        refine V_iload_n C 3 dX0_evaluate_45 rfl 3 rfl ?_
        rcases bB_inv h with ⟨e_20, μ_19, hv, h⟩ | ⟨u_18, μ_19, hv, h⟩
        · cases h; exact V_callVe C 14 0 m_14 e_20 (con_X0_workOnOne hl a3_6 hv) tb_X0_workOnOne lk_RX0_47 rfl rfl rfl (by decide) (by decide) rfl (Nat.le_of_ble_eq_true rfl) rfl dX0_evaluate_46 rfl
        refine V_callVo C 14 0 m_14 none (con_X0_workOnOne hl a3_6 hv) tb_X0_workOnOne lk_RX0_47 rfl rfl rfl (by decide) (by decide) rfl (Nat.le_of_ble_eq_true rfl) rfl dX0_evaluate_46 rfl ?_
        clear hv
        refine V_goto C (tgt := 99) dX0_evaluate_49 (by decide) ?_
        refine V_sub (LP := [(0, .ref (E.1 14 0)), (1, .ref (E.1 1 0)), (2, .ref (E.1 11 0)), (3, .int a3_6)]) [0, 1, 2, 3] rfl ?_
        exact J_9 _ _ h
set_option maxHeartbeats 4000000 in
set_option maxRecDepth 100000 in
theorem con_X0_evaluate {l : Launch} {E : WE} (hl : l.stackTraces = false)   {μ : Mem} {x} (h : f_X0_evaluate  μ = some x) : Con l E lvC yX0_evaluate cX0_evaluate 4 (some (.object "RankCalc$Grid")) 7 [.ref (E.1 14 0), .ref (E.1 1 0), .ref (E.1 11 0)] μ (rBg E x) := by
  refine Con.of (by decide) hl (Nat.le_of_ble_eq_true rfl) (fun Y C => ?_)
  replace C : Ok Y l E lvC 4 RX0 cX0_evaluate (some (.object "RankCalc$Grid")) 7 := C
  show V Y l E lvC 4 (rBg E x) 0 [(0, .ref (E.1 14 0)), (1, .ref (E.1 1 0)), (2, .ref (E.1 11 0))] [] μ
  unfold f_X0_evaluate at h
  refine V_aload_n C 0 dX0_evaluate_0 rfl 0 rfl ?_
  refine V_iconst C (0 : Int32) dX0_evaluate_1 (by decide) ?_
  refine V_putI C 14 0 m_14 fp_RX0_29 rfl rfl rfl rfl (Nat.le_of_ble_eq_true rfl) dX0_evaluate_2 ?_
  refine V_memn (fun μ_1 hn9 => ?_)
  replace h := lt_eq hn9 h; clear hn9
  refine V_aload_n C 0 dX0_evaluate_5 rfl 0 rfl ?_
  refine V_iconst C (0 : Int32) dX0_evaluate_6 (by decide) ?_
  refine V_putI C 14 0 m_14 fp_RX0_33 rfl rfl rfl rfl (Nat.le_of_ble_eq_true rfl) dX0_evaluate_7 ?_
  refine V_memn (fun μ_2 hn9 => ?_)
  replace h := lt_eq hn9 h; clear hn9
  refine V_aload_n C 0 dX0_evaluate_10 rfl 0 rfl ?_
  refine V_iconst C (0 : Int32) dX0_evaluate_11 (by decide) ?_
  refine V_putI C 14 0 m_14 fp_RX0_36 rfl rfl rfl rfl (Nat.le_of_ble_eq_true rfl) dX0_evaluate_12 ?_
  refine V_memn (fun μ_3 hn9 => ?_)
  replace h := lt_eq hn9 h; clear hn9
  refine V_aload_n C 0 dX0_evaluate_15 rfl 0 rfl ?_
  refine V_getf (v := .ref (E.1 16 0)) C 14 0 m_14 fl_RX0_17 rfl rfl dX0_evaluate_16 ?_
  refine V_iconst C (0 : Int32) dX0_evaluate_19 (by decide) ?_
  refine V_iconst C (-1 : Int32) dX0_evaluate_20 (by decide) ?_
  obtain ⟨hi9, h⟩ := gd_inv h
  refine V_iast C 16 0 m_16 (fun _ => rfl) (inb_in hi9) dX0_evaluate_21 ?_
  refine V_memn (fun μ_4 hn9 => ?_)
  replace h := lt_eq hn9 h; clear hn9
  refine V_aload_n C 1 dX0_evaluate_22 rfl 1 rfl ?_
  refine V_getf (v := .int (μ_4 1 0 8)) C 1 0 m_1 fl_RX0_39 rfl rfl dX0_evaluate_23 ?_
  refine V_iconst C (1 : Int32) dX0_evaluate_26 (by decide) ?_
  refine V_isub C dX0_evaluate_27 ?_
  refine V_topi (fun x_5 hn9 => ?_)
  replace h := lt_eq hn9 h; clear hn9
  refine V_istore_n (L' := [(0, .ref (E.1 14 0)), (1, .ref (E.1 1 0)), (2, .ref (E.1 11 0)), (3, .int x_5)]) C 3 dX0_evaluate_28 rfl (by decide) [1, 2, 3, 0] rfl ?_
  refine V_sub (LP := [(0, .ref (E.1 14 0)), (1, .ref (E.1 1 0)), (2, .ref (E.1 11 0)), (3, .int x_5)]) [0, 1, 2, 3] rfl ?_
  refine lp_X0_evaluate_29 hl C (fun μ_22 x h => ?_) 1000 _ _ h
  refine V_aload_n C 0 dX0_evaluate_105 rfl 0 rfl ?_
  refine V_getf (v := .ref (E.1 15 0)) C 14 0 m_14 fl_RX0_13 rfl rfl dX0_evaluate_106 ?_
  refine V_iconst C (0 : Int32) dX0_evaluate_109 (by decide) ?_
  obtain ⟨hi9, h⟩ := gd_inv h
  refine V_aald (a := E.1 20 (μ_22 15 0 ((0 : Int32)).toNatClampNeg).toNatClampNeg) C 15 0 m_15 rfl (inb_in hi9) rfl dX0_evaluate_110 ?_
  refine V_topg (fun g_23 hn9 => ?_)
  replace h := lt_eq hn9 h; clear hn9
  obtain ⟨hg_23, h⟩ := gd_inv h
  replace hg_23 := dec_t hg_23
  cases h
  exact V_areturn C rfl rfl dX0_evaluate_111
set_option maxHeartbeats 4000000 in
set_option maxRecDepth 100000 in
theorem con_X2_put {l : Launch} {E : WE} (hl : l.stackTraces = false) (a1 : Int32) (g2 : Nat) (hg2 : g2 < 18) {μ : Mem} {x} (h : f_X2_put a1 g2 μ = some x) : Con l E lvC yX2_put cX2_put 3 none 4 [.ref (E.1 11 0), .int a1, .ref (E.1 20 g2)] μ (rBu x) := by
  refine Con.of (by decide) hl (Nat.le_of_ble_eq_true rfl) (fun Y C => ?_)
  replace C : Ok Y l E lvC 3 RX2 cX2_put none 4 := C
  show V Y l E lvC 3 (rBu x) 0 [(0, .ref (E.1 11 0)), (1, .int a1), (2, .ref (E.1 20 g2))] [] μ
  unfold f_X2_put at h
  refine V_aload_n C 0 dX2_put_0 rfl 0 rfl ?_
  refine V_getf (v := .ref (E.1 12 0)) C 11 0 m_11 fl_RX2_11 rfl rfl dX2_put_1 ?_
  refine V_iload_n C 1 dX2_put_4 rfl 1 rfl ?_
  obtain ⟨hi9, h⟩ := gd_inv h
  refine V_aald (a := E.1 20 (a1).toNatClampNeg) C 12 0 m_12 rfl (inb_in hi9) rfl dX2_put_5 ?_
  refine V_topg (fun g_1 hn9 => ?_)
  replace h := lt_eq hn9 h; clear hn9
  obtain ⟨hg_1, h⟩ := gd_inv h
  replace hg_1 := dec_t hg_1
  refine V_aload_n C 2 dX2_put_6 rfl 2 rfl ?_
  rcases bB_inv h with ⟨e_4, μ_3, hv, h⟩ | ⟨u_2, μ_3, hv, h⟩
  · cases h; exact V_callVe C 20 g_1 (gr_0in g_1 hg_1) e_4 (con_X1_copy hl g_1 g2 hg_1 hg2 hv) tb_X1_copy lk_RX2_22 rfl rfl rfl (by decide) (by decide) rfl (Nat.le_of_ble_eq_true rfl) rfl dX2_put_7 rfl
  refine V_callVo C 20 g_1 (gr_0in g_1 hg_1) none (con_X1_copy hl g_1 g2 hg_1 hg2 hv) tb_X1_copy lk_RX2_22 rfl rfl rfl (by decide) (by decide) rfl (Nat.le_of_ble_eq_true rfl) rfl dX2_put_7 rfl ?_
  clear hv
  refine V_aload_n C 0 dX2_put_10 rfl 0 rfl ?_
  refine V_getf (v := .ref (E.1 13 0)) C 11 0 m_11 fl_RX2_17 rfl rfl dX2_put_11 ?_
  refine V_iload_n C 1 dX2_put_14 rfl 1 rfl ?_
  refine V_iconst C (1 : Int32) dX2_put_15 (by decide) ?_
  obtain ⟨hi9, h⟩ := gd_inv h
  refine V_zast C 13 0 m_13 (fun _ => rfl) (inb_in hi9) dX2_put_16 ?_
  refine V_memn (fun μ_5 hn9 => ?_)
  replace h := lt_eq hn9 h; clear hn9
  cases h
  exact V_return C rfl rfl dX2_put_17
set_option maxHeartbeats 4000000 in
set_option maxRecDepth 100000 in
theorem con_X6_codeAt {l : Launch} {E : WE} (hl : l.stackTraces = false) (a1 : Int32)  {μ : Mem} {x} (h : f_X6_codeAt a1 μ = some x) : Con l E lvC yX6_codeAt cX6_codeAt 2 (some .char) 0 [.ref (E.1 2 0), .int a1] μ (rPi x μ) := by
  refine Con.of (by decide) hl (Nat.le_of_ble_eq_true rfl) (fun Y C => ?_)
  replace C : Ok Y l E lvC 2 RX6 cX6_codeAt (some .char) 0 := C
  show V Y l E lvC 2 (rPi x μ) 0 [(0, .ref (E.1 2 0)), (1, .int a1)] [] μ
  unfold f_X6_codeAt at h
  refine V_iload_n C 1 dX6_codeAt_0 rfl 1 rfl ?_
  obtain ⟨j_1, hj_1, h⟩ := jn_ex h
  have J_1 : ∀ (_ : Unit) x, j_1 () = some x → V Y l E lvC 2 (rPi x μ) 21 [] [] μ := by
    intro _  x h
    rw [hj_1] at h; clear hj_1
    refine V_iconst C (0 : Int32) dX6_codeAt_21 (by decide) ?_
    cases h
    exact V_ireturn C rfl rfl rfl dX6_codeAt_22
  clear hj_1
  refine V_if_lt C (tgt := 21) dX6_codeAt_1 (by decide) (fun hc => ?_) (fun hc => ?_)
  · replace h := (if_pos hc).symm.trans h
    refine V_sub (LP := []) [] rfl ?_
    exact J_1 () _ h
  · replace h := (if_neg hc).symm.trans h
    refine V_iload_n C 1 dX6_codeAt_4 rfl 1 rfl ?_
    refine V_aload_n C 0 dX6_codeAt_5 rfl 0 rfl ?_
    refine V_getf (v := .int (μ 2 0 1)) C 2 0 m_2 fl_RX6_19 rfl rfl dX6_codeAt_6 ?_
    refine V_icmp_ge C (tgt := 21) dX6_codeAt_9 (by decide) (fun hc => ?_) (fun hc => ?_)
    · replace h := (if_pos hc).symm.trans h
      refine V_sub (LP := []) [] rfl ?_
      exact J_1 () _ h
    · replace h := (if_neg hc).symm.trans h
      refine V_aload_n C 0 dX6_codeAt_12 rfl 0 rfl ?_
      refine V_getf (v := .ref (E.1 3 0)) C 2 0 m_2 fl_RX6_9 rfl rfl dX6_codeAt_13 ?_
      refine V_iload_n C 1 dX6_codeAt_16 rfl 1 rfl ?_
      obtain ⟨hi9, h⟩ := gd_inv h
      refine V_cald C 3 0 m_3 (fun _ => rfl) (inb_in hi9) dX6_codeAt_17 ?_
      refine V_goto C (tgt := 22) dX6_codeAt_18 (by decide) ?_
      obtain ⟨hr9, h⟩ := gd_inv h
      cases h
      exact V_ireturn C rfl (isc_nar hr9) rfl dX6_codeAt_22
set_option maxHeartbeats 4000000 in
set_option maxRecDepth 100000 in
theorem lp_X5_skipBlanks_2 {Y : Mc} {l : Launch} {E : WE} (hl : l.stackTraces = false) (C : Ok Y l E lvC 2 RX5 cX5_skipBlanks none 1) {κ : Mem → Option (Unit × Mem)}   (hκ : ∀  (μ_6 : Mem) x, κ  μ_6 = some x → V Y l E lvC 2 (rWu x) 41 [] [] μ_6) : ∀ (n : Nat) (a1_1 : Int32) (μ_2 : Mem) {x}, f_X5_skipBlanks_L2 κ  n a1_1 μ_2 = some x → V Y l E lvC 2 (rWu x) 2 [(0, .ref (E.1 1 0)), (1, .int a1_1)] [] μ_2 := by
  intro n
  induction n with
  | zero =>
    intro a1_1 μ_2 x h
    simp [f_X5_skipBlanks_L2] at h
  | succ n ih =>
    intro a1_1 μ_2 x h
    rw [f_X5_skipBlanks_L2] at h
    refine V_iload_n C 1 dX5_skipBlanks_2 rfl 1 rfl ?_
    refine V_sipush C (200 : Int32) dX5_skipBlanks_3 (by decide) ?_
    refine V_icmp_ge C (tgt := 41) dX5_skipBlanks_6 (by decide) (fun hc => ?_) (fun hc => ?_)
    · replace h := (if_pos hc).symm.trans h
      refine V_sub (LP := []) [] rfl ?_
      exact hκ _ _ h
    · replace h := (if_neg hc).symm.trans h
      refine V_aload_n C 0 dX5_skipBlanks_9 rfl 0 rfl ?_
      refine V_getf (v := .ref (E.1 2 0)) C 1 0 m_1 fl_RX5_12 rfl rfl dX5_skipBlanks_10 ?_
      refine V_aload_n C 0 dX5_skipBlanks_13 rfl 0 rfl ?_
      refine V_getf (v := .int (μ_2 1 0 11)) C 1 0 m_1 fl_RX5_41 rfl rfl dX5_skipBlanks_14 ?_
      obtain ⟨v_3, hv, h⟩ := bP_inv h
      refine V_callVo C 2 0 m_2 (some (.int v_3)) (con_X6_codeAt hl (μ_2 1 0 11) hv) tb_X6_codeAt lk_RX5_77 rfl rfl rfl (by decide) (by decide) rfl (Nat.le_of_ble_eq_true rfl) rfl dX5_skipBlanks_17 rfl ?_
      clear hv
      refine V_bipush C (32 : Int32) dX5_skipBlanks_20 (by decide) ?_
      refine V_icmp_ne C (tgt := 41) dX5_skipBlanks_22 (by decide) (fun hc => ?_) (fun hc => ?_)
      · replace h := (if_neg hc).symm.trans h
        refine V_sub (LP := []) [] rfl ?_
        exact hκ _ _ h
      · replace h := (if_pos hc).symm.trans h
        refine V_aload_n C 0 dX5_skipBlanks_25 rfl 0 rfl ?_
        refine V_dup C dX5_skipBlanks_26 rfl ?_
        refine V_getf (v := .int (μ_2 1 0 11)) C 1 0 m_1 fl_RX5_41 rfl rfl dX5_skipBlanks_27 ?_
        refine V_iconst C (1 : Int32) dX5_skipBlanks_30 (by decide) ?_
        refine V_iadd C dX5_skipBlanks_31 ?_
        refine V_putI C 1 0 m_1 fp_RX5_41 rfl rfl rfl rfl (Nat.le_of_ble_eq_true rfl) dX5_skipBlanks_32 ?_
        refine V_memn (fun μ_4 hn9 => ?_)
        replace h := lt_eq hn9 h; clear hn9
        obtain ⟨x_5, hn9⟩ : ∃ z : Int32, z = a1_1 + (1 : Int32) := ⟨_, rfl⟩
        replace h := lt_eq hn9 h
        refine V_iinc (L' := [(0, .ref (E.1 1 0)), (1, .int x_5)]) C x_5 dX5_skipBlanks_35 1 rfl (by rw [hn9]; exact congrArg (a1_1 + ·) (by decide)) (by decide) [1, 0] rfl ?_
        clear hn9
        refine V_goto C (tgt := 2) dX5_skipBlanks_38 (by decide) ?_
        refine V_sub (LP := [(0, .ref (E.1 1 0)), (1, .int x_5)]) [0, 1] rfl ?_
        exact ih _ _ h
set_option maxHeartbeats 4000000 in
set_option maxRecDepth 100000 in
theorem con_X5_skipBlanks {l : Launch} {E : WE} (hl : l.stackTraces = false)   {μ : Mem} {x} (h : f_X5_skipBlanks  μ = some x) : Con l E lvC yX5_skipBlanks cX5_skipBlanks 2 none 1 [.ref (E.1 1 0)] μ (rWu x) := by
  refine Con.of (by decide) hl (Nat.le_of_ble_eq_true rfl) (fun Y C => ?_)
  replace C : Ok Y l E lvC 2 RX5 cX5_skipBlanks none 1 := C
  show V Y l E lvC 2 (rWu x) 0 [(0, .ref (E.1 1 0))] [] μ
  unfold f_X5_skipBlanks at h
  refine V_iconst C (0 : Int32) dX5_skipBlanks_0 (by decide) ?_
  refine V_istore_n (L' := [(0, .ref (E.1 1 0)), (1, .int (0 : Int32))]) C 1 dX5_skipBlanks_1 rfl (by decide) [1, 0] rfl ?_
  refine V_sub (LP := [(0, .ref (E.1 1 0)), (1, .int (0 : Int32))]) [0, 1] rfl ?_
  refine lp_X5_skipBlanks_2 hl C (fun μ_7 x h => ?_) 1000 _ _ h
  cases h
  exact V_return C rfl rfl dX5_skipBlanks_41
set_option maxHeartbeats 4000000 in
set_option maxRecDepth 100000 in
theorem con_X5_isName {l : Launch} {E : WE} (hl : l.stackTraces = false) (a0 : Int32)  {μ : Mem} {x} (h : f_X5_isName a0 μ = some x) : Con l E lvC yX5_isName cX5_isName 1 (some .boolean) 0 [.int a0] μ (rPi x μ) := by
  refine Con.of (by decide) hl (Nat.le_of_ble_eq_true rfl) (fun Y C => ?_)
  replace C : Ok Y l E lvC 1 RX5 cX5_isName (some .boolean) 0 := C
  show V Y l E lvC 1 (rPi x μ) 0 [(0, .int a0)] [] μ
  unfold f_X5_isName at h
  refine V_iload_n C 0 dX5_isName_0 rfl 0 rfl ?_
  refine V_bipush C (65 : Int32) dX5_isName_1 (by decide) ?_
  obtain ⟨j_1, hj_1, h⟩ := jn_ex h
  have J_1 : ∀ (_ : Unit) x, j_1 () = some x → V Y l E lvC 1 (rPi x μ) 16 [] [] μ := by
    intro _  x h
    rw [hj_1] at h; clear hj_1
    refine V_iconst C (0 : Int32) dX5_isName_16 (by decide) ?_
    cases h
    exact V_ireturn C rfl rfl rfl dX5_isName_17
  clear hj_1
  refine V_icmp_lt C (tgt := 16) dX5_isName_3 (by decide) (fun hc => ?_) (fun hc => ?_)
  · replace h := (if_pos hc).symm.trans h
    refine V_sub (LP := []) [] rfl ?_
    exact J_1 () _ h
  · replace h := (if_neg hc).symm.trans h
    refine V_iload_n C 0 dX5_isName_6 rfl 0 rfl ?_
    refine V_bipush C (73 : Int32) dX5_isName_7 (by decide) ?_
    refine V_icmp_ge C (tgt := 16) dX5_isName_9 (by decide) (fun hc => ?_) (fun hc => ?_)
    · replace h := (if_pos hc).symm.trans h
      refine V_sub (LP := []) [] rfl ?_
      exact J_1 () _ h
    · replace h := (if_neg hc).symm.trans h
      refine V_iconst C (1 : Int32) dX5_isName_12 (by decide) ?_
      refine V_goto C (tgt := 17) dX5_isName_13 (by decide) ?_
      cases h
      exact V_ireturn C rfl rfl rfl dX5_isName_17
set_option maxHeartbeats 4000000 in
set_option maxRecDepth 100000 in
theorem con_X5_readTarget {l : Launch} {E : WE} (hl : l.stackTraces = false)   {μ : Mem} {x} (h : f_X5_readTarget  μ = some x) : Con l E lvC yX5_readTarget cX5_readTarget 3 none 2 [.ref (E.1 1 0)] μ (rWu x) := by
  refine Con.of (by decide) hl (Nat.le_of_ble_eq_true rfl) (fun Y C => ?_)
  replace C : Ok Y l E lvC 3 RX5 cX5_readTarget none 2 := C
  show V Y l E lvC 3 (rWu x) 0 [(0, .ref (E.1 1 0))] [] μ
  unfold f_X5_readTarget at h
  refine V_aload_n C 0 dX5_readTarget_0 rfl 0 rfl ?_
  refine V_iconst C (-1 : Int32) dX5_readTarget_1 (by decide) ?_
  refine V_putI C 1 0 m_1 fp_RX5_74 rfl rfl rfl rfl (Nat.le_of_ble_eq_true rfl) dX5_readTarget_2 ?_
  refine V_memn (fun μ_1 hn9 => ?_)
  replace h := lt_eq hn9 h; clear hn9
  refine V_aload_n C 0 dX5_readTarget_5 rfl 0 rfl ?_
  obtain ⟨u_2, μ_3, hv, h⟩ := bW_inv h
  refine V_callVo C 1 0 m_1 none (con_X5_skipBlanks hl hv) tb_X5_skipBlanks lk_RX5_71 rfl rfl rfl (by decide) (by decide) rfl (Nat.le_of_ble_eq_true rfl) rfl dX5_readTarget_6 rfl ?_
  clear hv
  refine V_aload_n C 0 dX5_readTarget_9 rfl 0 rfl ?_
  refine V_getf (v := .int (μ_3 1 0 11)) C 1 0 m_1 fl_RX5_41 rfl rfl dX5_readTarget_10 ?_
  refine V_topi (fun x_4 hn9 => ?_)
  replace h := lt_eq hn9 h; clear hn9
  refine V_istore_n (L' := [(0, .ref (E.1 1 0)), (1, .int x_4)]) C 1 dX5_readTarget_13 rfl (by decide) [1, 0] rfl ?_
  refine V_aload_n C 0 dX5_readTarget_14 rfl 0 rfl ?_
  refine V_getf (v := .ref (E.1 2 0)) C 1 0 m_1 fl_RX5_12 rfl rfl dX5_readTarget_15 ?_
  refine V_aload_n C 0 dX5_readTarget_18 rfl 0 rfl ?_
  refine V_getf (v := .int (μ_3 1 0 11)) C 1 0 m_1 fl_RX5_41 rfl rfl dX5_readTarget_19 ?_
  obtain ⟨v_5, hv, h⟩ := bP_inv h
  refine V_callVo C 2 0 m_2 (some (.int v_5)) (con_X6_codeAt hl (μ_3 1 0 11) hv) tb_X6_codeAt lk_RX5_77 rfl rfl rfl (by decide) (by decide) rfl (Nat.le_of_ble_eq_true rfl) rfl dX5_readTarget_22 rfl ?_
  clear hv
  refine V_istore_n (L' := [(0, .ref (E.1 1 0)), (1, .int x_4), (2, .int v_5)]) C 2 dX5_readTarget_25 rfl (by decide) [1, 2, 0] rfl ?_
  refine V_aload_n C 0 dX5_readTarget_26 rfl 0 rfl ?_
  refine V_dup C dX5_readTarget_27 rfl ?_
  refine V_getf (v := .int (μ_3 1 0 11)) C 1 0 m_1 fl_RX5_41 rfl rfl dX5_readTarget_28 ?_
  refine V_iconst C (1 : Int32) dX5_readTarget_31 (by decide) ?_
  refine V_iadd C dX5_readTarget_32 ?_
  refine V_putI C 1 0 m_1 fp_RX5_41 rfl rfl rfl rfl (Nat.le_of_ble_eq_true rfl) dX5_readTarget_33 ?_
  refine V_memn (fun μ_6 hn9 => ?_)
  replace h := lt_eq hn9 h; clear hn9
  refine V_aload_n C 0 dX5_readTarget_36 rfl 0 rfl ?_
  obtain ⟨u_7, μ_8, hv, h⟩ := bW_inv h
  refine V_callVo C 1 0 m_1 none (con_X5_skipBlanks hl hv) tb_X5_skipBlanks lk_RX5_71 rfl rfl rfl (by decide) (by decide) rfl (Nat.le_of_ble_eq_true rfl) rfl dX5_readTarget_37 rfl ?_
  clear hv
  refine V_iload_n C 2 dX5_readTarget_40 rfl 2 rfl ?_
  obtain ⟨v_9, hv, h⟩ := bP_inv h
  refine V_callSo C (some (.int v_9)) (con_X5_isName hl v_5 hv) tb_X5_isName lk_RX5_81 (by decide) (by decide) rfl (Nat.le_of_ble_eq_true rfl) rfl dX5_readTarget_41 rfl ?_
  clear hv
  obtain ⟨j_11, hj_11, h⟩ := jn_ex h
  have J_11 : ∀ (μ_10 : Mem) x, j_11 μ_10 = some x → V Y l E lvC 3 (rWu x) 88 [(0, .ref (E.1 1 0)), (1, .int x_4)] [] μ_10 := by
    intro μ_10  x h
    rw [hj_11] at h; clear hj_11
    refine V_aload_n C 0 dX5_readTarget_88 rfl 0 rfl ?_
    refine V_iload_n C 1 dX5_readTarget_89 rfl 1 rfl ?_
    refine V_putI C 1 0 m_1 fp_RX5_41 rfl rfl rfl rfl (Nat.le_of_ble_eq_true rfl) dX5_readTarget_90 ?_
    refine V_memn (fun μ_12 hn9 => ?_)
    replace h := lt_eq hn9 h; clear hn9
    cases h
    exact V_return C rfl rfl dX5_readTarget_93
  clear hj_11
  refine V_if_eq C (tgt := 88) dX5_readTarget_44 (by decide) (fun hc => ?_) (fun hc => ?_)
  · replace h := (if_pos hc).symm.trans h
    refine V_sub (LP := [(0, .ref (E.1 1 0)), (1, .int x_4)]) [0, 1] rfl ?_
    exact J_11 _ _ h
  · replace h := (if_neg hc).symm.trans h
    refine V_aload_n C 0 dX5_readTarget_47 rfl 0 rfl ?_
    refine V_getf (v := .ref (E.1 2 0)) C 1 0 m_1 fl_RX5_12 rfl rfl dX5_readTarget_48 ?_
    refine V_aload_n C 0 dX5_readTarget_51 rfl 0 rfl ?_
    refine V_getf (v := .int (μ_8 1 0 11)) C 1 0 m_1 fl_RX5_41 rfl rfl dX5_readTarget_52 ?_
    obtain ⟨v_13, hv, h⟩ := bP_inv h
    refine V_callVo C 2 0 m_2 (some (.int v_13)) (con_X6_codeAt hl (μ_8 1 0 11) hv) tb_X6_codeAt lk_RX5_77 rfl rfl rfl (by decide) (by decide) rfl (Nat.le_of_ble_eq_true rfl) rfl dX5_readTarget_55 rfl ?_
    clear hv
    refine V_bipush C (58 : Int32) dX5_readTarget_58 (by decide) ?_
    refine V_icmp_ne C (tgt := 88) dX5_readTarget_60 (by decide) (fun hc => ?_) (fun hc => ?_)
    · replace h := (if_neg hc).symm.trans h
      refine V_sub (LP := [(0, .ref (E.1 1 0)), (1, .int x_4)]) [0, 1] rfl ?_
      exact J_11 _ _ h
    · replace h := (if_pos hc).symm.trans h
      refine V_aload_n C 0 dX5_readTarget_63 rfl 0 rfl ?_
      refine V_iload_n C 2 dX5_readTarget_64 rfl 2 rfl ?_
      refine V_bipush C (65 : Int32) dX5_readTarget_65 (by decide) ?_
      refine V_isub C dX5_readTarget_67 ?_
      refine V_putI C 1 0 m_1 fp_RX5_74 rfl rfl rfl rfl (Nat.le_of_ble_eq_true rfl) dX5_readTarget_68 ?_
      refine V_memn (fun μ_14 hn9 => ?_)
      replace h := lt_eq hn9 h; clear hn9
      refine V_aload_n C 0 dX5_readTarget_71 rfl 0 rfl ?_
      refine V_dup C dX5_readTarget_72 rfl ?_
      refine V_getf (v := .int (μ_14 1 0 11)) C 1 0 m_1 fl_RX5_41 rfl rfl dX5_readTarget_73 ?_
      refine V_iconst C (1 : Int32) dX5_readTarget_76 (by decide) ?_
      refine V_iadd C dX5_readTarget_77 ?_
      refine V_putI C 1 0 m_1 fp_RX5_41 rfl rfl rfl rfl (Nat.le_of_ble_eq_true rfl) dX5_readTarget_78 ?_
      refine V_memn (fun μ_15 hn9 => ?_)
      replace h := lt_eq hn9 h; clear hn9
      refine V_aload_n C 0 dX5_readTarget_81 rfl 0 rfl ?_
      obtain ⟨u_16, μ_17, hv, h⟩ := bW_inv h
      refine V_callVo C 1 0 m_1 none (con_X5_skipBlanks hl hv) tb_X5_skipBlanks lk_RX5_71 rfl rfl rfl (by decide) (by decide) rfl (Nat.le_of_ble_eq_true rfl) rfl dX5_readTarget_82 rfl ?_
      clear hv
      refine V_goto C (tgt := 93) dX5_readTarget_85 (by decide) ?_
      cases h
      exact V_return C rfl rfl dX5_readTarget_93
set_option maxHeartbeats 4000000 in
set_option maxRecDepth 100000 in
theorem con_X5_isDigit {l : Launch} {E : WE} (hl : l.stackTraces = false) (a0 : Int32)  {μ : Mem} {x} (h : f_X5_isDigit a0 μ = some x) : Con l E lvC yX5_isDigit cX5_isDigit 1 (some .boolean) 0 [.int a0] μ (rPi x μ) := by
  refine Con.of (by decide) hl (Nat.le_of_ble_eq_true rfl) (fun Y C => ?_)
  replace C : Ok Y l E lvC 1 RX5 cX5_isDigit (some .boolean) 0 := C
  show V Y l E lvC 1 (rPi x μ) 0 [(0, .int a0)] [] μ
  unfold f_X5_isDigit at h
  refine V_iload_n C 0 dX5_isDigit_0 rfl 0 rfl ?_
  refine V_bipush C (48 : Int32) dX5_isDigit_1 (by decide) ?_
  obtain ⟨j_1, hj_1, h⟩ := jn_ex h
  have J_1 : ∀ (_ : Unit) x, j_1 () = some x → V Y l E lvC 1 (rPi x μ) 16 [] [] μ := by
    intro _  x h
    rw [hj_1] at h; clear hj_1
    refine V_iconst C (0 : Int32) dX5_isDigit_16 (by decide) ?_
    cases h
    exact V_ireturn C rfl rfl rfl dX5_isDigit_17
  clear hj_1
  refine V_icmp_lt C (tgt := 16) dX5_isDigit_3 (by decide) (fun hc => ?_) (fun hc => ?_)
  · replace h := (if_pos hc).symm.trans h
    refine V_sub (LP := []) [] rfl ?_
    exact J_1 () _ h
  · replace h := (if_neg hc).symm.trans h
    refine V_iload_n C 0 dX5_isDigit_6 rfl 0 rfl ?_
    refine V_bipush C (57 : Int32) dX5_isDigit_7 (by decide) ?_
    refine V_icmp_gt C (tgt := 16) dX5_isDigit_9 (by decide) (fun hc => ?_) (fun hc => ?_)
    · replace h := (if_pos hc).symm.trans h
      refine V_sub (LP := []) [] rfl ?_
      exact J_1 () _ h
    · replace h := (if_neg hc).symm.trans h
      refine V_iconst C (1 : Int32) dX5_isDigit_12 (by decide) ?_
      refine V_goto C (tgt := 17) dX5_isDigit_13 (by decide) ?_
      cases h
      exact V_ireturn C rfl rfl rfl dX5_isDigit_17
set_option maxHeartbeats 4000000 in
set_option maxRecDepth 100000 in
theorem lp_X5_readNumber_40 {Y : Mc} {l : Launch} {E : WE} (hl : l.stackTraces = false) (C : Ok Y l E lvC 4 RX5 cX5_readNumber (some .boolean) 1) {κ : Int32 → Int32 → Mem → Option (Int32 × Mem)} (c1_6 : Int32)  (hκ : ∀ (a2_16 : Int32) (a3_17 : Int32) (μ_18 : Mem) x, κ a2_16 a3_17 μ_18 = some x → V Y l E lvC 4 (rWi x) 99 [(0, .ref (E.1 1 0)), (1, .int c1_6), (2, .int a2_16), (3, .int a3_17)] [] μ_18) : ∀ (n : Nat) (a2_7 : Int32) (a3_8 : Int32) (μ_9 : Mem) {x}, f_X5_readNumber_L40 κ c1_6 n a2_7 a3_8 μ_9 = some x → V Y l E lvC 4 (rWi x) 40 [(0, .ref (E.1 1 0)), (1, .int c1_6), (2, .int a2_7), (3, .int a3_8)] [] μ_9 := by
  intro n
  induction n with
  | zero =>
    intro a2_7 a3_8 μ_9 x h
    simp [f_X5_readNumber_L40] at h
  | succ n ih =>
    intro a2_7 a3_8 μ_9 x h
    rw [f_X5_readNumber_L40] at h
    refine V_iload_n C 3 dX5_readNumber_40 rfl 3 rfl ?_
    refine V_bipush C (9 : Int32) dX5_readNumber_41 (by decide) ?_
    refine V_icmp_ge C (tgt := 99) dX5_readNumber_43 (by decide) (fun hc => ?_) (fun hc => ?_)
    · replace h := (if_pos hc).symm.trans h
      refine V_sub (LP := [(0, .ref (E.1 1 0)), (1, .int c1_6), (2, .int a2_7), (3, .int a3_8)]) [0, 1, 2, 3] rfl ?_
      exact hκ _ _ _ _ h
    · replace h := (if_neg hc).symm.trans h
      refine V_aload_n C 0 dX5_readNumber_46 rfl 0 rfl ?_
      refine V_getf (v := .ref (E.1 2 0)) C 1 0 m_1 fl_RX5_12 rfl rfl dX5_readNumber_47 ?_
      refine V_aload_n C 0 dX5_readNumber_50 rfl 0 rfl ?_
      refine V_getf (v := .int (μ_9 1 0 11)) C 1 0 m_1 fl_RX5_41 rfl rfl dX5_readNumber_51 ?_
      obtain ⟨v_10, hv, h⟩ := bP_inv h
      refine V_callVo C 2 0 m_2 (some (.int v_10)) (con_X6_codeAt hl (μ_9 1 0 11) hv) tb_X6_codeAt lk_RX5_77 rfl rfl rfl (by decide) (by decide) rfl (Nat.le_of_ble_eq_true rfl) rfl dX5_readNumber_54 rfl ?_
      clear hv
      obtain ⟨v_11, hv, h⟩ := bP_inv h
      refine V_callSo C (some (.int v_11)) (con_X5_isDigit hl v_10 hv) tb_X5_isDigit lk_RX5_85 (by decide) (by decide) rfl (Nat.le_of_ble_eq_true rfl) rfl dX5_readNumber_57 rfl ?_
      clear hv
      refine V_if_eq C (tgt := 99) dX5_readNumber_60 (by decide) (fun hc => ?_) (fun hc => ?_)
      · replace h := (if_pos hc).symm.trans h
        refine V_sub (LP := [(0, .ref (E.1 1 0)), (1, .int c1_6), (2, .int a2_7), (3, .int a3_8)]) [0, 1, 2, 3] rfl ?_
        exact hκ _ _ _ _ h
      · replace h := (if_neg hc).symm.trans h
        refine V_bipush C (10 : Int32) dX5_readNumber_63 (by decide) ?_
        refine V_iload_n C 2 dX5_readNumber_65 rfl 2 rfl ?_
        refine V_imul C dX5_readNumber_66 ?_
        refine V_aload_n C 0 dX5_readNumber_67 rfl 0 rfl ?_
        refine V_getf (v := .ref (E.1 2 0)) C 1 0 m_1 fl_RX5_12 rfl rfl dX5_readNumber_68 ?_
        refine V_aload_n C 0 dX5_readNumber_71 rfl 0 rfl ?_
        refine V_getf (v := .int (μ_9 1 0 11)) C 1 0 m_1 fl_RX5_41 rfl rfl dX5_readNumber_72 ?_
        obtain ⟨v_12, hv, h⟩ := bP_inv h
        refine V_callVo C 2 0 m_2 (some (.int v_12)) (con_X6_codeAt hl (μ_9 1 0 11) hv) tb_X6_codeAt lk_RX5_77 rfl rfl rfl (by decide) (by decide) rfl (Nat.le_of_ble_eq_true rfl) rfl dX5_readNumber_75 rfl ?_
        clear hv
        refine V_bipush C (48 : Int32) dX5_readNumber_78 (by decide) ?_
        refine V_isub C dX5_readNumber_80 ?_
        refine V_iadd C dX5_readNumber_81 ?_
        refine V_topi (fun x_13 hn9 => ?_)
        replace h := lt_eq hn9 h; clear hn9
        refine V_istore_n (L' := [(0, .ref (E.1 1 0)), (1, .int c1_6), (2, .int x_13), (3, .int a3_8)]) C 2 dX5_readNumber_82 rfl (by decide) [1, 2, 0, 3] rfl ?_
        refine V_aload_n C 0 dX5_readNumber_83 rfl 0 rfl ?_
        refine V_dup C dX5_readNumber_84 rfl ?_
        refine V_getf (v := .int (μ_9 1 0 11)) C 1 0 m_1 fl_RX5_41 rfl rfl dX5_readNumber_85 ?_
        refine V_iconst C (1 : Int32) dX5_readNumber_88 (by decide) ?_
        refine V_iadd C dX5_readNumber_89 ?_
        refine V_putI C 1 0 m_1 fp_RX5_41 rfl rfl rfl rfl (Nat.le_of_ble_eq_true rfl) dX5_readNumber_90 ?_
        refine V_memn (fun μ_14 hn9 => ?_)
        replace h := lt_eq hn9 h; clear hn9
        obtain ⟨x_15, hn9⟩ : ∃ z : Int32, z = a3_8 + (1 : Int32) := ⟨_, rfl⟩
        replace h := lt_eq hn9 h
        refine V_iinc (L' := [(0, .ref (E.1 1 0)), (1, .int c1_6), (2, .int x_13), (3, .int x_15)]) C x_15 dX5_readNumber_93 3 rfl (by rw [hn9]; exact congrArg (a3_8 + ·) (by decide)) (by decide) [1, 2, 3, 0] rfl ?_
        clear hn9
        refine V_goto C (tgt := 40) dX5_readNumber_96 (by decide) ?_
        refine V_sub (LP := [(0, .ref (E.1 1 0)), (1, .int c1_6), (2, .int x_13), (3, .int x_15)]) [0, 1, 2, 3] rfl ?_
        exact ih _ _ _ h
set_option maxHeartbeats 4000000 in
set_option maxRecDepth 100000 in
theorem con_X5_readNumber {l : Launch} {E : WE} (hl : l.stackTraces = false)   {μ : Mem} {x} (h : f_X5_readNumber  μ = some x) : Con l E lvC yX5_readNumber cX5_readNumber 4 (some .boolean) 1 [.ref (E.1 1 0)] μ (rWi x) := by
  refine Con.of (by decide) hl (Nat.le_of_ble_eq_true rfl) (fun Y C => ?_)
  replace C : Ok Y l E lvC 4 RX5 cX5_readNumber (some .boolean) 1 := C
  show V Y l E lvC 4 (rWi x) 0 [(0, .ref (E.1 1 0))] [] μ
  unfold f_X5_readNumber at h
  refine V_aload_n C 0 dX5_readNumber_0 rfl 0 rfl ?_
  refine V_getf (v := .ref (E.1 2 0)) C 1 0 m_1 fl_RX5_12 rfl rfl dX5_readNumber_1 ?_
  refine V_aload_n C 0 dX5_readNumber_4 rfl 0 rfl ?_
  refine V_getf (v := .int (μ 1 0 11)) C 1 0 m_1 fl_RX5_41 rfl rfl dX5_readNumber_5 ?_
  obtain ⟨v_1, hv, h⟩ := bP_inv h
  refine V_callVo C 2 0 m_2 (some (.int v_1)) (con_X6_codeAt hl (μ 1 0 11) hv) tb_X6_codeAt lk_RX5_77 rfl rfl rfl (by decide) (by decide) rfl (Nat.le_of_ble_eq_true rfl) rfl dX5_readNumber_8 rfl ?_
  clear hv
  refine V_bipush C (95 : Int32) dX5_readNumber_11 (by decide) ?_
  obtain ⟨j_3, hj_3, h⟩ := jn_ex h
  have J_3 : ∀ (s_2 : Int32) x, j_3 s_2 = some x → V Y l E lvC 4 (rWi x) 21 [(0, .ref (E.1 1 0))] [.int s_2] μ := by
    intro s_2  x h
    rw [hj_3] at h; clear hj_3
    refine V_istore_n (L' := [(0, .ref (E.1 1 0)), (1, .int s_2)]) C 1 dX5_readNumber_21 rfl (by decide) [1, 0] rfl ?_
    refine V_iload_n C 1 dX5_readNumber_22 rfl 1 rfl ?_
    obtain ⟨j_5, hj_5, h⟩ := jn_ex h
    have J_5 : ∀ (μ_4 : Mem) x, j_5 μ_4 = some x → V Y l E lvC 4 (rWi x) 36 [(0, .ref (E.1 1 0)), (1, .int s_2)] [] μ_4 := by
      intro μ_4  x h
      rw [hj_5] at h; clear hj_5
      refine V_iconst C (0 : Int32) dX5_readNumber_36 (by decide) ?_
      refine V_istore_n (L' := [(0, .ref (E.1 1 0)), (1, .int s_2), (2, .int (0 : Int32))]) C 2 dX5_readNumber_37 rfl (by decide) [1, 2, 0] rfl ?_
      refine V_iconst C (0 : Int32) dX5_readNumber_38 (by decide) ?_
      refine V_istore_n (L' := [(0, .ref (E.1 1 0)), (1, .int s_2), (2, .int (0 : Int32)), (3, .int (0 : Int32))]) C 3 dX5_readNumber_39 rfl (by decide) [1, 2, 3, 0] rfl ?_
      refine V_sub (LP := [(0, .ref (E.1 1 0)), (1, .int s_2), (2, .int (0 : Int32)), (3, .int (0 : Int32))]) [0, 1, 2, 3] rfl ?_
      refine lp_X5_readNumber_40 hl C s_2 (fun a2_19 a3_20 μ_21 x h => ?_) 1000 _ _ _ h
      refine V_aload_n C 0 dX5_readNumber_99 rfl 0 rfl ?_
      refine V_getf (v := .ref (E.1 10 0)) C 1 0 m_1 fl_RX5_38 rfl rfl dX5_readNumber_100 ?_
      refine V_aload_n C 0 dX5_readNumber_103 rfl 0 rfl ?_
      refine V_getf (v := .int (μ_21 1 0 9)) C 1 0 m_1 fl_RX5_48 rfl rfl dX5_readNumber_104 ?_
      refine V_iload_n C 1 dX5_readNumber_107 rfl 1 rfl ?_
      obtain ⟨j_23, hj_23, h⟩ := jn_ex h
      have J_23 : ∀ (s_22 : Int32) x, j_23 s_22 = some x → V Y l E lvC 4 (rWi x) 117 [(0, .ref (E.1 1 0)), (3, .int a3_20)] [.int s_22, .int (μ_21 1 0 9), .ref (E.1 10 0)] μ_21 := by
        intro s_22  x h
        rw [hj_23] at h; clear hj_23
        obtain ⟨hi9, h⟩ := gd_inv h
        refine V_iast C 10 0 m_10 (fun _ => rfl) (inb_in hi9) dX5_readNumber_117 ?_
        refine V_memn (fun μ_24 hn9 => ?_)
        replace h := lt_eq hn9 h; clear hn9
        refine V_aload_n C 0 dX5_readNumber_118 rfl 0 rfl ?_
        refine V_dup C dX5_readNumber_119 rfl ?_
        refine V_getf (v := .int (μ_24 1 0 9)) C 1 0 m_1 fl_RX5_48 rfl rfl dX5_readNumber_120 ?_
        refine V_iconst C (1 : Int32) dX5_readNumber_123 (by decide) ?_
        refine V_iadd C dX5_readNumber_124 ?_
        refine V_putI C 1 0 m_1 fp_RX5_48 rfl rfl rfl rfl (Nat.le_of_ble_eq_true rfl) dX5_readNumber_125 ?_
        refine V_memn (fun μ_25 hn9 => ?_)
        replace h := lt_eq hn9 h; clear hn9
        refine V_iload_n C 3 dX5_readNumber_128 rfl 1 rfl ?_
        obtain ⟨j_26, hj_26, h⟩ := jn_ex h
        have J_26 : ∀ (_ : Unit) x, j_26 () = some x → V Y l E lvC 4 (rWi x) 169 [] [] μ_25 := by
          intro _  x h
          rw [hj_26] at h; clear hj_26
          refine V_iconst C (0 : Int32) dX5_readNumber_169 (by decide) ?_
          cases h
          exact V_ireturn C rfl rfl rfl dX5_readNumber_170
        clear hj_26
        refine V_if_le C (tgt := 169) dX5_readNumber_129 (by decide) (fun hc => ?_) (fun hc => ?_)
        · replace h := (if_pos hc).symm.trans h
          refine V_sub (LP := []) [] rfl ?_
          exact J_26 () _ h
        · replace h := (if_neg hc).symm.trans h
          refine V_aload_n C 0 dX5_readNumber_132 rfl 0 rfl ?_
          refine V_getf (v := .ref (E.1 2 0)) C 1 0 m_1 fl_RX5_12 rfl rfl dX5_readNumber_133 ?_
          refine V_aload_n C 0 dX5_readNumber_136 rfl 0 rfl ?_
          refine V_getf (v := .int (μ_25 1 0 11)) C 1 0 m_1 fl_RX5_41 rfl rfl dX5_readNumber_137 ?_
          obtain ⟨v_27, hv, h⟩ := bP_inv h
          refine V_callVo C 2 0 m_2 (some (.int v_27)) (con_X6_codeAt hl (μ_25 1 0 11) hv) tb_X6_codeAt lk_RX5_77 rfl rfl rfl (by decide) (by decide) rfl (Nat.le_of_ble_eq_true rfl) rfl dX5_readNumber_140 rfl ?_
          clear hv
          obtain ⟨v_28, hv, h⟩ := bP_inv h
          refine V_callSo C (some (.int v_28)) (con_X5_isDigit hl v_27 hv) tb_X5_isDigit lk_RX5_85 (by decide) (by decide) rfl (Nat.le_of_ble_eq_true rfl) rfl dX5_readNumber_143 rfl ?_
          clear hv
          refine V_if_ne C (tgt := 169) dX5_readNumber_146 (by decide) (fun hc => ?_) (fun hc => ?_)
          · replace h := (if_neg hc).symm.trans h
            refine V_sub (LP := []) [] rfl ?_
            exact J_26 () _ h
          · replace h := (if_pos hc).symm.trans h
            refine V_aload_n C 0 dX5_readNumber_149 rfl 0 rfl ?_
            refine V_getf (v := .ref (E.1 2 0)) C 1 0 m_1 fl_RX5_12 rfl rfl dX5_readNumber_150 ?_
            refine V_aload_n C 0 dX5_readNumber_153 rfl 0 rfl ?_
            refine V_getf (v := .int (μ_25 1 0 11)) C 1 0 m_1 fl_RX5_41 rfl rfl dX5_readNumber_154 ?_
            obtain ⟨v_29, hv, h⟩ := bP_inv h
            refine V_callVo C 2 0 m_2 (some (.int v_29)) (con_X6_codeAt hl (μ_25 1 0 11) hv) tb_X6_codeAt lk_RX5_77 rfl rfl rfl (by decide) (by decide) rfl (Nat.le_of_ble_eq_true rfl) rfl dX5_readNumber_157 rfl ?_
            clear hv
            refine V_bipush C (95 : Int32) dX5_readNumber_160 (by decide) ?_
            refine V_icmp_eq C (tgt := 169) dX5_readNumber_162 (by decide) (fun hc => ?_) (fun hc => ?_)
            · replace h := (if_pos hc).symm.trans h
              refine V_sub (LP := []) [] rfl ?_
              exact J_26 () _ h
            · replace h := (if_neg hc).symm.trans h
              refine V_iconst C (1 : Int32) dX5_readNumber_165 (by decide) ?_
              refine V_goto C (tgt := 170) dX5_readNumber_166 (by decide) ?_
              cases h
              exact V_ireturn C rfl rfl rfl dX5_readNumber_170
      clear hj_23
      refine V_if_eq C (tgt := 116) dX5_readNumber_108 (by decide) (fun hc => ?_) (fun hc => ?_)
      · replace h := (if_pos hc).symm.trans h
        refine V_iload_n C 2 dX5_readNumber_116 rfl 2 rfl ?_
        refine V_sub (LP := [(0, .ref (E.1 1 0)), (3, .int a3_20)]) [0, 3] rfl ?_
        exact J_23 _ _ h
      · replace h := (if_neg hc).symm.trans h
        refine V_iload_n C 2 dX5_readNumber_111 rfl 2 rfl ?_
        refine V_ineg C dX5_readNumber_112 ?_
        refine V_goto C (tgt := 117) dX5_readNumber_113 (by decide) ?_
        refine V_sub (LP := [(0, .ref (E.1 1 0)), (3, .int a3_20)]) [0, 3] rfl ?_
        exact J_23 _ _ h
    clear hj_5
    refine V_if_eq C (tgt := 36) dX5_readNumber_23 (by decide) (fun hc => ?_) (fun hc => ?_)
    · replace h := (if_pos hc).symm.trans h
      refine V_sub (LP := [(0, .ref (E.1 1 0)), (1, .int s_2)]) [0, 1] rfl ?_
      exact J_5 _ _ h
    · replace h := (if_neg hc).symm.trans h
      refine V_aload_n C 0 dX5_readNumber_26 rfl 0 rfl ?_
      refine V_dup C dX5_readNumber_27 rfl ?_
      refine V_getf (v := .int (μ 1 0 11)) C 1 0 m_1 fl_RX5_41 rfl rfl dX5_readNumber_28 ?_
      refine V_iconst C (1 : Int32) dX5_readNumber_31 (by decide) ?_
      refine V_iadd C dX5_readNumber_32 ?_
      refine V_putI C 1 0 m_1 fp_RX5_41 rfl rfl rfl rfl (Nat.le_of_ble_eq_true rfl) dX5_readNumber_33 ?_
      refine V_memn (fun μ_30 hn9 => ?_)
      replace h := lt_eq hn9 h; clear hn9
      refine V_sub (LP := [(0, .ref (E.1 1 0)), (1, .int s_2)]) [0, 1] rfl ?_
      exact J_5 _ _ h
  clear hj_3
  refine V_icmp_ne C (tgt := 20) dX5_readNumber_13 (by decide) (fun hc => ?_) (fun hc => ?_)
  · replace h := (if_neg hc).symm.trans h
    refine V_iconst C (0 : Int32) dX5_readNumber_20 (by decide) ?_
    refine V_sub (LP := [(0, .ref (E.1 1 0))]) [0] rfl ?_
    exact J_3 _ _ h
  · replace h := (if_pos hc).symm.trans h
    refine V_iconst C (1 : Int32) dX5_readNumber_16 (by decide) ?_
    refine V_goto C (tgt := 21) dX5_readNumber_17 (by decide) ?_
    refine V_sub (LP := [(0, .ref (E.1 1 0))]) [0] rfl ?_
    exact J_3 _ _ h
set_option maxHeartbeats 4000000 in
set_option maxRecDepth 100000 in
theorem con_X5_addStep {l : Launch} {E : WE} (hl : l.stackTraces = false) (a1 : Int32)  {μ : Mem} {x} (h : f_X5_addStep a1 μ = some x) : Con l E lvC yX5_addStep cX5_addStep 2 none 0 [.ref (E.1 1 0), .int a1] μ (rWu x) := by
  refine Con.of (by decide) hl (Nat.le_of_ble_eq_true rfl) (fun Y C => ?_)
  replace C : Ok Y l E lvC 2 RX5 cX5_addStep none 0 := C
  show V Y l E lvC 2 (rWu x) 0 [(0, .ref (E.1 1 0)), (1, .int a1)] [] μ
  unfold f_X5_addStep at h
  refine V_aload_n C 0 dX5_addStep_0 rfl 0 rfl ?_
  refine V_getf (v := .ref (E.1 4 0)) C 1 0 m_1 fl_RX5_18 rfl rfl dX5_addStep_1 ?_
  refine V_aload_n C 0 dX5_addStep_4 rfl 0 rfl ?_
  refine V_getf (v := .int (μ 1 0 8)) C 1 0 m_1 fl_RX5_45 rfl rfl dX5_addStep_5 ?_
  refine V_iload_n C 1 dX5_addStep_8 rfl 1 rfl ?_
  obtain ⟨hi9, h⟩ := gd_inv h
  refine V_iast C 4 0 m_4 (fun _ => rfl) (inb_in hi9) dX5_addStep_9 ?_
  refine V_memn (fun μ_1 hn9 => ?_)
  replace h := lt_eq hn9 h; clear hn9
  refine V_aload_n C 0 dX5_addStep_10 rfl 0 rfl ?_
  refine V_dup C dX5_addStep_11 rfl ?_
  refine V_getf (v := .int (μ_1 1 0 8)) C 1 0 m_1 fl_RX5_45 rfl rfl dX5_addStep_12 ?_
  refine V_iconst C (1 : Int32) dX5_addStep_15 (by decide) ?_
  refine V_iadd C dX5_addStep_16 ?_
  refine V_putI C 1 0 m_1 fp_RX5_45 rfl rfl rfl rfl (Nat.le_of_ble_eq_true rfl) dX5_addStep_17 ?_
  refine V_memn (fun μ_2 hn9 => ?_)
  replace h := lt_eq hn9 h; clear hn9
  cases h
  exact V_return C rfl rfl dX5_addStep_20
set_option maxHeartbeats 4000000 in
set_option maxRecDepth 100000 in
theorem lp_X5_readNumbers_7 {Y : Mc} {l : Launch} {E : WE} (hl : l.stackTraces = false) (C : Ok Y l E lvC 3 RX5 cX5_readNumbers (some .boolean) 2) {κ : Mem → Option (Int32 × Mem)} (c1_2 : Int32)  (hκ : ∀  (μ_14 : Mem) x, κ  μ_14 = some x → V Y l E lvC 3 (rWi x) 69 [(0, .ref (E.1 1 0)), (1, .int c1_2)] [] μ_14) : ∀ (n : Nat) (a2_3 : Int32) (μ_4 : Mem) {x}, f_X5_readNumbers_L7 κ c1_2 n a2_3 μ_4 = some x → V Y l E lvC 3 (rWi x) 7 [(0, .ref (E.1 1 0)), (1, .int c1_2), (2, .int a2_3)] [] μ_4 := by
  intro n
  induction n with
  | zero =>
    intro a2_3 μ_4 x h
    simp [f_X5_readNumbers_L7] at h
  | succ n ih =>
    intro a2_3 μ_4 x h
    rw [f_X5_readNumbers_L7] at h
    refine V_iload_n C 2 dX5_readNumbers_7 rfl 2 rfl ?_
    refine V_sipush C (200 : Int32) dX5_readNumbers_8 (by decide) ?_
    refine V_icmp_ge C (tgt := 69) dX5_readNumbers_11 (by decide) (fun hc => ?_) (fun hc => ?_)
    · replace h := (if_pos hc).symm.trans h
      refine V_sub (LP := [(0, .ref (E.1 1 0)), (1, .int c1_2)]) [0, 1] rfl ?_
      exact hκ _ _ h
    · replace h := (if_neg hc).symm.trans h
      refine V_aload_n C 0 dX5_readNumbers_14 rfl 0 rfl ?_
      refine V_getf (v := .ref (E.1 2 0)) C 1 0 m_1 fl_RX5_12 rfl rfl dX5_readNumbers_15 ?_
      refine V_aload_n C 0 dX5_readNumbers_18 rfl 0 rfl ?_
      refine V_getf (v := .int (μ_4 1 0 11)) C 1 0 m_1 fl_RX5_41 rfl rfl dX5_readNumbers_19 ?_
      obtain ⟨v_5, hv, h⟩ := bP_inv h
      refine V_callVo C 2 0 m_2 (some (.int v_5)) (con_X6_codeAt hl (μ_4 1 0 11) hv) tb_X6_codeAt lk_RX5_77 rfl rfl rfl (by decide) (by decide) rfl (Nat.le_of_ble_eq_true rfl) rfl dX5_readNumbers_22 rfl ?_
      clear hv
      obtain ⟨v_6, hv, h⟩ := bP_inv h
      refine V_callSo C (some (.int v_6)) (con_X5_isDigit hl v_5 hv) tb_X5_isDigit lk_RX5_85 (by decide) (by decide) rfl (Nat.le_of_ble_eq_true rfl) rfl dX5_readNumbers_25 rfl ?_
      clear hv
      obtain ⟨j_7, hj_7, h⟩ := jn_ex h
      have J_7 : ∀ (_ : Unit) x, j_7 () = some x → V Y l E lvC 3 (rWi x) 50 [(0, .ref (E.1 1 0)), (1, .int c1_2), (2, .int a2_3)] [] μ_4 := by
        intro _  x h
        rw [hj_7] at h; clear hj_7
        refine V_aload_n C 0 dX5_readNumbers_50 rfl 0 rfl ?_
        obtain ⟨v_8, μ_9, hv, h⟩ := bW_inv h
        refine V_callVo C 1 0 m_1 (some (.int v_8)) (con_X5_readNumber hl hv) tb_X5_readNumber lk_RX5_120 rfl rfl rfl (by decide) (by decide) rfl (Nat.le_of_ble_eq_true rfl) rfl dX5_readNumbers_51 rfl ?_
        clear hv
        refine V_if_ne C (tgt := 59) dX5_readNumbers_54 (by decide) (fun hc => ?_) (fun hc => ?_)
        · replace h := (if_neg hc).symm.trans h
          refine V_aload_n C 0 dX5_readNumbers_59 rfl 0 rfl ?_
          obtain ⟨u_10, μ_11, hv, h⟩ := bW_inv h
          refine V_callVo C 1 0 m_1 none (con_X5_skipBlanks hl hv) tb_X5_skipBlanks lk_RX5_71 rfl rfl rfl (by decide) (by decide) rfl (Nat.le_of_ble_eq_true rfl) rfl dX5_readNumbers_60 rfl ?_
          clear hv
          obtain ⟨x_12, hn9⟩ : ∃ z : Int32, z = a2_3 + (1 : Int32) := ⟨_, rfl⟩
          replace h := lt_eq hn9 h
          refine V_iinc (L' := [(0, .ref (E.1 1 0)), (1, .int c1_2), (2, .int x_12)]) C x_12 dX5_readNumbers_63 2 rfl (by rw [hn9]; exact congrArg (a2_3 + ·) (by decide)) (by decide) [1, 2, 0] rfl ?_
          clear hn9
          refine V_goto C (tgt := 7) dX5_readNumbers_66 (by decide) ?_
          refine V_sub (LP := [(0, .ref (E.1 1 0)), (1, .int c1_2), (2, .int x_12)]) [0, 1, 2] rfl ?_
          exact ih _ _ h
        · replace h := (if_pos hc).symm.trans h
          refine V_iconst C (0 : Int32) dX5_readNumbers_57 (by decide) ?_
          cases h
          exact V_ireturn C rfl rfl rfl dX5_readNumbers_58
      clear hj_7
      refine V_if_ne C (tgt := 50) dX5_readNumbers_28 (by decide) (fun hc => ?_) (fun hc => ?_)
      · replace h := (if_neg hc).symm.trans h
        refine V_sub (LP := [(0, .ref (E.1 1 0)), (1, .int c1_2), (2, .int a2_3)]) [0, 1, 2] rfl ?_
        exact J_7 () _ h
      · replace h := (if_pos hc).symm.trans h
        refine V_aload_n C 0 dX5_readNumbers_31 rfl 0 rfl ?_
        refine V_getf (v := .ref (E.1 2 0)) C 1 0 m_1 fl_RX5_12 rfl rfl dX5_readNumbers_32 ?_
        refine V_aload_n C 0 dX5_readNumbers_35 rfl 0 rfl ?_
        refine V_getf (v := .int (μ_4 1 0 11)) C 1 0 m_1 fl_RX5_41 rfl rfl dX5_readNumbers_36 ?_
        obtain ⟨v_13, hv, h⟩ := bP_inv h
        refine V_callVo C 2 0 m_2 (some (.int v_13)) (con_X6_codeAt hl (μ_4 1 0 11) hv) tb_X6_codeAt lk_RX5_77 rfl rfl rfl (by decide) (by decide) rfl (Nat.le_of_ble_eq_true rfl) rfl dX5_readNumbers_39 rfl ?_
        clear hv
        refine V_bipush C (95 : Int32) dX5_readNumbers_42 (by decide) ?_
        refine V_icmp_eq C (tgt := 50) dX5_readNumbers_44 (by decide) (fun hc => ?_) (fun hc => ?_)
        · replace h := (if_pos hc).symm.trans h
          refine V_sub (LP := [(0, .ref (E.1 1 0)), (1, .int c1_2), (2, .int a2_3)]) [0, 1, 2] rfl ?_
          exact J_7 () _ h
        · replace h := (if_neg hc).symm.trans h
          refine V_goto C (tgt := 69) dX5_readNumbers_47 (by decide) ?_
          refine V_sub (LP := [(0, .ref (E.1 1 0)), (1, .int c1_2)]) [0, 1] rfl ?_
          exact hκ _ _ h
set_option maxHeartbeats 4000000 in
set_option maxRecDepth 100000 in
theorem con_X5_readNumbers {l : Launch} {E : WE} (hl : l.stackTraces = false)   {μ : Mem} {x} (h : f_X5_readNumbers  μ = some x) : Con l E lvC yX5_readNumbers cX5_readNumbers 3 (some .boolean) 2 [.ref (E.1 1 0)] μ (rWi x) := by
  refine Con.of (by decide) hl (Nat.le_of_ble_eq_true rfl) (fun Y C => ?_)
  replace C : Ok Y l E lvC 3 RX5 cX5_readNumbers (some .boolean) 2 := C
  show V Y l E lvC 3 (rWi x) 0 [(0, .ref (E.1 1 0))] [] μ
  unfold f_X5_readNumbers at h
  refine V_aload_n C 0 dX5_readNumbers_0 rfl 0 rfl ?_
  refine V_getf (v := .int (μ 1 0 9)) C 1 0 m_1 fl_RX5_48 rfl rfl dX5_readNumbers_1 ?_
  refine V_topi (fun x_1 hn9 => ?_)
  replace h := lt_eq hn9 h; clear hn9
  refine V_istore_n (L' := [(0, .ref (E.1 1 0)), (1, .int x_1)]) C 1 dX5_readNumbers_4 rfl (by decide) [1, 0] rfl ?_
  refine V_iconst C (0 : Int32) dX5_readNumbers_5 (by decide) ?_
  refine V_istore_n (L' := [(0, .ref (E.1 1 0)), (1, .int x_1), (2, .int (0 : Int32))]) C 2 dX5_readNumbers_6 rfl (by decide) [1, 2, 0] rfl ?_
  refine V_sub (LP := [(0, .ref (E.1 1 0)), (1, .int x_1), (2, .int (0 : Int32))]) [0, 1, 2] rfl ?_
  refine lp_X5_readNumbers_7 hl C x_1 (fun μ_15 x h => ?_) 1000 _ _ h
  refine V_aload_n C 0 dX5_readNumbers_69 rfl 0 rfl ?_
  refine V_getf (v := .ref (E.1 5 0)) C 1 0 m_1 fl_RX5_22 rfl rfl dX5_readNumbers_70 ?_
  refine V_aload_n C 0 dX5_readNumbers_73 rfl 0 rfl ?_
  refine V_getf (v := .int (μ_15 1 0 8)) C 1 0 m_1 fl_RX5_45 rfl rfl dX5_readNumbers_74 ?_
  refine V_iload_n C 1 dX5_readNumbers_77 rfl 1 rfl ?_
  obtain ⟨hi9, h⟩ := gd_inv h
  refine V_iast C 5 0 m_5 (fun _ => rfl) (inb_in hi9) dX5_readNumbers_78 ?_
  refine V_memn (fun μ_16 hn9 => ?_)
  replace h := lt_eq hn9 h; clear hn9
  refine V_aload_n C 0 dX5_readNumbers_79 rfl 0 rfl ?_
  refine V_getf (v := .ref (E.1 6 0)) C 1 0 m_1 fl_RX5_25 rfl rfl dX5_readNumbers_80 ?_
  refine V_aload_n C 0 dX5_readNumbers_83 rfl 0 rfl ?_
  refine V_getf (v := .int (μ_16 1 0 8)) C 1 0 m_1 fl_RX5_45 rfl rfl dX5_readNumbers_84 ?_
  refine V_aload_n C 0 dX5_readNumbers_87 rfl 0 rfl ?_
  refine V_getf (v := .int (μ_16 1 0 9)) C 1 0 m_1 fl_RX5_48 rfl rfl dX5_readNumbers_88 ?_
  refine V_iload_n C 1 dX5_readNumbers_91 rfl 1 rfl ?_
  refine V_isub C dX5_readNumbers_92 ?_
  obtain ⟨hi9, h⟩ := gd_inv h
  refine V_iast C 6 0 m_6 (fun _ => rfl) (inb_in hi9) dX5_readNumbers_93 ?_
  refine V_memn (fun μ_17 hn9 => ?_)
  replace h := lt_eq hn9 h; clear hn9
  refine V_aload_n C 0 dX5_readNumbers_94 rfl 0 rfl ?_
  refine V_iconst C (0 : Int32) dX5_readNumbers_95 (by decide) ?_
  obtain ⟨u_18, μ_19, hv, h⟩ := bW_inv h
  refine V_callVo C 1 0 m_1 none (con_X5_addStep hl (0 : Int32) hv) tb_X5_addStep lk_RX5_91 rfl rfl rfl (by decide) (by decide) rfl (Nat.le_of_ble_eq_true rfl) rfl dX5_readNumbers_96 rfl ?_
  clear hv
  refine V_aload_n C 0 dX5_readNumbers_99 rfl 0 rfl ?_
  refine V_iconst C (0 : Int32) dX5_readNumbers_100 (by decide) ?_
  refine V_putI C 1 0 m_1 fp_RX5_54 rfl rfl rfl rfl (Nat.le_of_ble_eq_true rfl) dX5_readNumbers_101 ?_
  refine V_memn (fun μ_20 hn9 => ?_)
  replace h := lt_eq hn9 h; clear hn9
  refine V_iconst C (1 : Int32) dX5_readNumbers_104 (by decide) ?_
  cases h
  exact V_ireturn C rfl rfl rfl dX5_readNumbers_105
