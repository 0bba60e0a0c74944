set_option maxHeartbeats 4000000 in
set_option maxRecDepth 100000 in
theorem con_X5_readFunctionOfTwo {l : Launch} {E : WE} (hl : l.stackTraces = false) (a1 : Int32)  {μ : Mem} {x} (h : f_X5_readFunctionOfTwo a1 μ = some x) : Con l E lvC yX5_readFunctionOfTwo cX5_readFunctionOfTwo 4 (some .boolean) 5 [.ref (E.1 1 0), .int a1] μ (rWi x) := by
  refine Con.of (by decide) hl (Nat.le_of_ble_eq_true rfl) (fun Y C => ?_)
  replace C : Ok Y l E lvC 4 RX5 cX5_readFunctionOfTwo (some .boolean) 5 := C
  show V Y l E lvC 4 (rWi x) 0 [(0, .ref (E.1 1 0)), (1, .int a1)] [] μ
  unfold f_X5_readFunctionOfTwo at h
  refine V_iload_n C 1 dX5_readFunctionOfTwo_0 rfl 1 rfl ?_
  obtain ⟨v_1, hv, h⟩ := bP_inv h
  refine V_callSo C (some (.int v_1)) (con_X5_isNumberFunction hl a1 hv) tb_X5_isNumberFunction lk_RX5_101 (by decide) (by decide) rfl (Nat.le_of_ble_eq_true rfl) rfl dX5_readFunctionOfTwo_1 rfl ?_
  clear hv
  refine V_if_ne C (tgt := 30) dX5_readFunctionOfTwo_4 (by decide) (fun hc => ?_) (fun hc => ?_)
  · replace h := (if_neg hc).symm.trans h
    refine V_aload_n C 0 dX5_readFunctionOfTwo_30 rfl 0 rfl ?_
    obtain ⟨u_2, μ_3, hv, h⟩ := bW_inv h
    refine V_callVo C 1 0 m_1 none (con_X5_skipBlanks hl hv) tb_X5_skipBlanks lk_RX5_71 rfl rfl rfl (by decide) (by decide) rfl (Nat.le_of_ble_eq_true rfl) rfl dX5_readFunctionOfTwo_31 rfl ?_
    clear hv
    refine V_aload_n C 0 dX5_readFunctionOfTwo_34 rfl 0 rfl ?_
    refine V_getf (v := .ref (E.1 2 0)) C 1 0 m_1 fl_RX5_12 rfl rfl dX5_readFunctionOfTwo_35 ?_
    refine V_aload_n C 0 dX5_readFunctionOfTwo_38 rfl 0 rfl ?_
    refine V_getf (v := .int (μ_3 1 0 11)) C 1 0 m_1 fl_RX5_41 rfl rfl dX5_readFunctionOfTwo_39 ?_
    obtain ⟨v_4, hv, h⟩ := bP_inv h
    refine V_callVo C 2 0 m_2 (some (.int v_4)) (con_X6_codeAt hl (μ_3 1 0 11) hv) tb_X6_codeAt lk_RX5_77 rfl rfl rfl (by decide) (by decide) rfl (Nat.le_of_ble_eq_true rfl) rfl dX5_readFunctionOfTwo_42 rfl ?_
    clear hv
    refine V_istore_n (L' := [(0, .ref (E.1 1 0)), (1, .int a1), (2, .int v_4)]) C 2 dX5_readFunctionOfTwo_45 rfl (by decide) [1, 2, 0] rfl ?_
    refine V_iload_n C 2 dX5_readFunctionOfTwo_46 rfl 2 rfl ?_
    refine V_bipush C (46 : Int32) dX5_readFunctionOfTwo_47 (by decide) ?_
    refine V_icmp_ne C (tgt := 101) dX5_readFunctionOfTwo_49 (by decide) (fun hc => ?_) (fun hc => ?_)
    · replace h := (if_neg hc).symm.trans h
      refine V_iload_n C 2 dX5_readFunctionOfTwo_101 rfl 2 rfl ?_
      refine V_bipush C (64 : Int32) dX5_readFunctionOfTwo_102 (by decide) ?_
      obtain ⟨j_6, hj_6, h⟩ := jn_ex h
      have J_6 : ∀ (μ_5 : Mem) x, j_6 μ_5 = some x → V Y l E lvC 4 (rWi x) 117 [(0, .ref (E.1 1 0)), (1, .int a1), (2, .int v_4)] [] μ_5 := by
        intro μ_5  x h
        rw [hj_6] at h; clear hj_6
        refine V_aload_n C 0 dX5_readFunctionOfTwo_117 rfl 0 rfl ?_
        refine V_iconst C (5 : Int32) dX5_readFunctionOfTwo_118 (by decide) ?_
        refine V_iload_n C 1 dX5_readFunctionOfTwo_119 rfl 1 rfl ?_
        refine V_iload_n C 2 dX5_readFunctionOfTwo_120 rfl 2 rfl ?_
        refine V_bipush C (64 : Int32) dX5_readFunctionOfTwo_121 (by decide) ?_
        obtain ⟨j_8, hj_8, h⟩ := jn_ex h
        have J_8 : ∀ (s_7 : Int32) x, j_8 s_7 = some x → V Y l E lvC 4 (rWi x) 131 [] [.int s_7, .int a1, .int (5 : Int32), .ref (E.1 1 0)] μ_5 := by
          intro s_7  x h
          rw [hj_8] at h; clear hj_8
          refine V_iconst C (0 : Int32) dX5_readFunctionOfTwo_131 (by decide) ?_
          obtain ⟨u_9, μ_10, hv, h⟩ := bW_inv h
          refine V_callVo C 1 0 m_1 none (con_X5_addFunction hl (5 : Int32) a1 s_7 (0 : Int32) hv) tb_X5_addFunction lk_RX5_104 rfl rfl rfl (by decide) (by decide) rfl (Nat.le_of_ble_eq_true rfl) rfl dX5_readFunctionOfTwo_132 rfl ?_
          clear hv
          refine V_iconst C (1 : Int32) dX5_readFunctionOfTwo_135 (by decide) ?_
          cases h
          exact V_ireturn C rfl rfl rfl dX5_readFunctionOfTwo_136
        clear hj_8
        refine V_icmp_ne C (tgt := 130) dX5_readFunctionOfTwo_123 (by decide) (fun hc => ?_) (fun hc => ?_)
        · replace h := (if_neg hc).symm.trans h
          refine V_iconst C (0 : Int32) dX5_readFunctionOfTwo_130 (by decide) ?_
          refine V_sub (LP := []) [] rfl ?_
          exact J_8 _ _ h
        · replace h := (if_pos hc).symm.trans h
          refine V_iload_n C 2 dX5_readFunctionOfTwo_126 rfl 2 rfl ?_
          refine V_goto C (tgt := 131) dX5_readFunctionOfTwo_127 (by decide) ?_
          refine V_sub (LP := []) [] rfl ?_
          exact J_8 _ _ h
      clear hj_6
      refine V_icmp_ne C (tgt := 117) dX5_readFunctionOfTwo_104 (by decide) (fun hc => ?_) (fun hc => ?_)
      · replace h := (if_neg hc).symm.trans h
        refine V_sub (LP := [(0, .ref (E.1 1 0)), (1, .int a1), (2, .int v_4)]) [0, 1, 2] rfl ?_
        exact J_6 _ _ h
      · replace h := (if_pos hc).symm.trans h
        refine V_aload_n C 0 dX5_readFunctionOfTwo_107 rfl 0 rfl ?_
        refine V_dup C dX5_readFunctionOfTwo_108 rfl ?_
        refine V_getf (v := .int (μ_3 1 0 11)) C 1 0 m_1 fl_RX5_41 rfl rfl dX5_readFunctionOfTwo_109 ?_
        refine V_iconst C (1 : Int32) dX5_readFunctionOfTwo_112 (by decide) ?_
        refine V_iadd C dX5_readFunctionOfTwo_113 ?_
        refine V_putI C 1 0 m_1 fp_RX5_41 rfl rfl rfl rfl (Nat.le_of_ble_eq_true rfl) dX5_readFunctionOfTwo_114 ?_
        refine V_memn (fun μ_11 hn9 => ?_)
        replace h := lt_eq hn9 h; clear hn9
        refine V_sub (LP := [(0, .ref (E.1 1 0)), (1, .int a1), (2, .int v_4)]) [0, 1, 2] rfl ?_
        exact J_6 _ _ h
    · replace h := (if_pos hc).symm.trans h
      refine V_aload_n C 0 dX5_readFunctionOfTwo_52 rfl 0 rfl ?_
      refine V_dup C dX5_readFunctionOfTwo_53 rfl ?_
      refine V_getf (v := .int (μ_3 1 0 11)) C 1 0 m_1 fl_RX5_41 rfl rfl dX5_readFunctionOfTwo_54 ?_
      refine V_iconst C (1 : Int32) dX5_readFunctionOfTwo_57 (by decide) ?_
      refine V_iadd C dX5_readFunctionOfTwo_58 ?_
      refine V_putI C 1 0 m_1 fp_RX5_41 rfl rfl rfl rfl (Nat.le_of_ble_eq_true rfl) dX5_readFunctionOfTwo_59 ?_
      refine V_memn (fun μ_12 hn9 => ?_)
      replace h := lt_eq hn9 h; clear hn9
      refine V_aload_n C 0 dX5_readFunctionOfTwo_62 rfl 0 rfl ?_
      obtain ⟨u_13, μ_14, hv, h⟩ := bW_inv h
      refine V_callVo C 1 0 m_1 none (con_X5_skipBlanks hl hv) tb_X5_skipBlanks lk_RX5_71 rfl rfl rfl (by decide) (by decide) rfl (Nat.le_of_ble_eq_true rfl) rfl dX5_readFunctionOfTwo_63 rfl ?_
      clear hv
      refine V_aload_n C 0 dX5_readFunctionOfTwo_66 rfl 0 rfl ?_
      refine V_getf (v := .ref (E.1 2 0)) C 1 0 m_1 fl_RX5_12 rfl rfl dX5_readFunctionOfTwo_67 ?_
      refine V_aload_n C 0 dX5_readFunctionOfTwo_70 rfl 0 rfl ?_
      refine V_getf (v := .int (μ_14 1 0 11)) C 1 0 m_1 fl_RX5_41 rfl rfl dX5_readFunctionOfTwo_71 ?_
      obtain ⟨v_15, hv, h⟩ := bP_inv h
      refine V_callVo C 2 0 m_2 (some (.int v_15)) (con_X6_codeAt hl (μ_14 1 0 11) hv) tb_X6_codeAt lk_RX5_77 rfl rfl rfl (by decide) (by decide) rfl (Nat.le_of_ble_eq_true rfl) rfl dX5_readFunctionOfTwo_74 rfl ?_
      clear hv
      refine V_istore_n (L' := [(0, .ref (E.1 1 0)), (1, .int a1), (2, .int v_4), (3, .int v_15)]) C 3 dX5_readFunctionOfTwo_77 rfl (by decide) [1, 2, 3, 0] rfl ?_
      refine V_aload_n C 0 dX5_readFunctionOfTwo_78 rfl 0 rfl ?_
      refine V_dup C dX5_readFunctionOfTwo_79 rfl ?_
      refine V_getf (v := .int (μ_14 1 0 11)) C 1 0 m_1 fl_RX5_41 rfl rfl dX5_readFunctionOfTwo_80 ?_
      refine V_iconst C (1 : Int32) dX5_readFunctionOfTwo_83 (by decide) ?_
      refine V_iadd C dX5_readFunctionOfTwo_84 ?_
      refine V_putI C 1 0 m_1 fp_RX5_41 rfl rfl rfl rfl (Nat.le_of_ble_eq_true rfl) dX5_readFunctionOfTwo_85 ?_
      refine V_memn (fun μ_16 hn9 => ?_)
      replace h := lt_eq hn9 h; clear hn9
      refine V_aload_n C 0 dX5_readFunctionOfTwo_88 rfl 0 rfl ?_
      refine V_iconst C (5 : Int32) dX5_readFunctionOfTwo_89 (by decide) ?_
      refine V_iload_n C 1 dX5_readFunctionOfTwo_90 rfl 1 rfl ?_
      refine V_iload_n C 2 dX5_readFunctionOfTwo_91 rfl 2 rfl ?_
      refine V_iload_n C 3 dX5_readFunctionOfTwo_92 rfl 3 rfl ?_
      obtain ⟨u_17, μ_18, hv, h⟩ := bW_inv h
      refine V_callVo C 1 0 m_1 none (con_X5_addFunction hl (5 : Int32) a1 v_4 v_15 hv) tb_X5_addFunction lk_RX5_104 rfl rfl rfl (by decide) (by decide) rfl (Nat.le_of_ble_eq_true rfl) rfl dX5_readFunctionOfTwo_93 rfl ?_
      clear hv
      refine V_iload_n C 3 dX5_readFunctionOfTwo_96 rfl 3 rfl ?_
      obtain ⟨v_19, hv, h⟩ := bP_inv h
      refine V_callSo C (some (.int v_19)) (con_X5_isNumberFunction hl v_15 hv) tb_X5_isNumberFunction lk_RX5_101 (by decide) (by decide) rfl (Nat.le_of_ble_eq_true rfl) rfl dX5_readFunctionOfTwo_97 rfl ?_
      clear hv
      obtain ⟨hr9, h⟩ := gd_inv h
      cases h
      exact V_ireturn C rfl (isb_nar hr9) rfl dX5_readFunctionOfTwo_100
  · replace h := (if_pos hc).symm.trans h
    refine V_aload_n C 0 dX5_readFunctionOfTwo_7 rfl 0 rfl ?_
    refine V_iconst C (5 : Int32) dX5_readFunctionOfTwo_8 (by decide) ?_
    refine V_iload_n C 1 dX5_readFunctionOfTwo_9 rfl 1 rfl ?_
    refine V_iconst C (0 : Int32) dX5_readFunctionOfTwo_10 (by decide) ?_
    refine V_iconst C (0 : Int32) dX5_readFunctionOfTwo_11 (by decide) ?_
    obtain ⟨u_20, μ_21, hv, h⟩ := bW_inv h
    refine V_callVo C 1 0 m_1 none (con_X5_addFunction hl (5 : Int32) a1 (0 : Int32) (0 : Int32) hv) tb_X5_addFunction lk_RX5_104 rfl rfl rfl (by decide) (by decide) rfl (Nat.le_of_ble_eq_true rfl) rfl dX5_readFunctionOfTwo_12 rfl ?_
    clear hv
    refine V_ldcS (tx := "r,p") C 2 (by decide +kernel) dX5_readFunctionOfTwo_15 ?_
    refine V_iload_n C 1 dX5_readFunctionOfTwo_17 rfl 1 rfl ?_
    obtain ⟨v_22, hv, h⟩ := bP_inv h
    refine V_callKo C 2 (by decide) (some (.int v_22)) (con_J0_indexOf_0f7a4 hl 2 a1 (by decide) hv) tb_J0_indexOf_0f7a4 lk_RX5_110 rfl (by decide) (by decide) rfl (Nat.le_of_ble_eq_true rfl) rfl dX5_readFunctionOfTwo_18 rfl ?_
    clear hv
    refine V_if_lt C (tgt := 28) dX5_readFunctionOfTwo_21 (by decide) (fun hc => ?_) (fun hc => ?_)
    · replace h := (if_pos hc).symm.trans h
      refine V_iconst C (0 : Int32) dX5_readFunctionOfTwo_28 (by decide) ?_
      cases h
      exact V_ireturn C rfl rfl rfl dX5_readFunctionOfTwo_29
    · replace h := (if_neg hc).symm.trans h
      refine V_iconst C (1 : Int32) dX5_readFunctionOfTwo_24 (by decide) ?_
      refine V_goto C (tgt := 29) dX5_readFunctionOfTwo_25 (by decide) ?_
      cases h
      exact V_ireturn C rfl rfl rfl dX5_readFunctionOfTwo_29
set_option maxHeartbeats 4000000 in
set_option maxRecDepth 100000 in
theorem con_X5_readBehindTerm {l : Launch} {E : WE} (hl : l.stackTraces = false)   {μ : Mem} {x} (h : f_X5_readBehindTerm  μ = some x) : Con l E lvC yX5_readBehindTerm cX5_readBehindTerm 2 (some .boolean) 6 [.ref (E.1 1 0)] μ (rWi x) := by
  refine Con.of (by decide) hl (Nat.le_of_ble_eq_true rfl) (fun Y C => ?_)
  replace C : Ok Y l E lvC 2 RX5 cX5_readBehindTerm (some .boolean) 6 := C
  show V Y l E lvC 2 (rWi x) 0 [(0, .ref (E.1 1 0))] [] μ
  unfold f_X5_readBehindTerm at h
  refine V_aload_n C 0 dX5_readBehindTerm_0 rfl 0 rfl ?_
  refine V_getf (v := .ref (E.1 2 0)) C 1 0 m_1 fl_RX5_12 rfl rfl dX5_readBehindTerm_1 ?_
  refine V_aload_n C 0 dX5_readBehindTerm_4 rfl 0 rfl ?_
  refine V_getf (v := .int (μ 1 0 11)) C 1 0 m_1 fl_RX5_41 rfl rfl dX5_readBehindTerm_5 ?_
  obtain ⟨v_1, hv, h⟩ := bP_inv h
  refine V_callVo C 2 0 m_2 (some (.int v_1)) (con_X6_codeAt hl (μ 1 0 11) hv) tb_X6_codeAt lk_RX5_77 rfl rfl rfl (by decide) (by decide) rfl (Nat.le_of_ble_eq_true rfl) rfl dX5_readBehindTerm_8 rfl ?_
  clear hv
  refine V_istore_n (L' := [(0, .ref (E.1 1 0)), (1, .int v_1)]) C 1 dX5_readBehindTerm_11 rfl (by decide) [1, 0] rfl ?_
  refine V_aload_n C 0 dX5_readBehindTerm_12 rfl 0 rfl ?_
  refine V_dup C dX5_readBehindTerm_13 rfl ?_
  refine V_getf (v := .int (μ 1 0 11)) C 1 0 m_1 fl_RX5_41 rfl rfl dX5_readBehindTerm_14 ?_
  refine V_iconst C (1 : Int32) dX5_readBehindTerm_17 (by decide) ?_
  refine V_iadd C dX5_readBehindTerm_18 ?_
  refine V_putI C 1 0 m_1 fp_RX5_41 rfl rfl rfl rfl (Nat.le_of_ble_eq_true rfl) dX5_readBehindTerm_19 ?_
  refine V_memn (fun μ_2 hn9 => ?_)
  replace h := lt_eq hn9 h; clear hn9
  refine V_iload_n C 1 dX5_readBehindTerm_22 rfl 1 rfl ?_
  refine V_bipush C (41 : Int32) dX5_readBehindTerm_23 (by decide) ?_
  refine V_icmp_ne C (tgt := 56) dX5_readBehindTerm_25 (by decide) (fun hc => ?_) (fun hc => ?_)
  · replace h := (if_neg hc).symm.trans h
    refine V_aload_n C 0 dX5_readBehindTerm_56 rfl 0 rfl ?_
    refine V_iconst C (1 : Int32) dX5_readBehindTerm_57 (by decide) ?_
    refine V_putI C 1 0 m_1 fp_RX5_54 rfl rfl rfl rfl (Nat.le_of_ble_eq_true rfl) dX5_readBehindTerm_58 ?_
    refine V_memn (fun μ_3 hn9 => ?_)
    replace h := lt_eq hn9 h; clear hn9
    refine V_aload_n C 0 dX5_readBehindTerm_61 rfl 0 rfl ?_
    refine V_iload_n C 1 dX5_readBehindTerm_62 rfl 1 rfl ?_
    obtain ⟨v_4, μ_5, hv, h⟩ := bW_inv h
    refine V_callVo C 1 0 m_1 (some (.int v_4)) (con_X5_readFunctionOfTwo hl v_1 hv) tb_X5_readFunctionOfTwo lk_RX5_98 rfl rfl rfl (by decide) (by decide) rfl (Nat.le_of_ble_eq_true rfl) rfl dX5_readBehindTerm_63 rfl ?_
    clear hv
    obtain ⟨hr9, h⟩ := gd_inv h
    cases h
    exact V_ireturn C rfl (isb_nar hr9) rfl dX5_readBehindTerm_66
  · replace h := (if_pos hc).symm.trans h
    refine V_aload_n C 0 dX5_readBehindTerm_28 rfl 0 rfl ?_
    refine V_dup C dX5_readBehindTerm_29 rfl ?_
    refine V_getf (v := .int (μ_2 1 0 12)) C 1 0 m_1 fl_RX5_51 rfl rfl dX5_readBehindTerm_30 ?_
    refine V_iconst C (1 : Int32) dX5_readBehindTerm_33 (by decide) ?_
    refine V_isub C dX5_readBehindTerm_34 ?_
    refine V_putI C 1 0 m_1 fp_RX5_51 rfl rfl rfl rfl (Nat.le_of_ble_eq_true rfl) dX5_readBehindTerm_35 ?_
    refine V_memn (fun μ_6 hn9 => ?_)
    replace h := lt_eq hn9 h; clear hn9
    refine V_aload_n C 0 dX5_readBehindTerm_38 rfl 0 rfl ?_
    refine V_iconst C (3 : Int32) dX5_readBehindTerm_39 (by decide) ?_
    obtain ⟨u_7, μ_8, hv, h⟩ := bW_inv h
    refine V_callVo C 1 0 m_1 none (con_X5_addStep hl (3 : Int32) hv) tb_X5_addStep lk_RX5_91 rfl rfl rfl (by decide) (by decide) rfl (Nat.le_of_ble_eq_true rfl) rfl dX5_readBehindTerm_40 rfl ?_
    clear hv
    refine V_aload_n C 0 dX5_readBehindTerm_43 rfl 0 rfl ?_
    refine V_getf (v := .int (μ_8 1 0 12)) C 1 0 m_1 fl_RX5_51 rfl rfl dX5_readBehindTerm_44 ?_
    refine V_if_lt C (tgt := 54) dX5_readBehindTerm_47 (by decide) (fun hc => ?_) (fun hc => ?_)
    · replace h := (if_pos hc).symm.trans h
      refine V_iconst C (0 : Int32) dX5_readBehindTerm_54 (by decide) ?_
      cases h
      exact V_ireturn C rfl rfl rfl dX5_readBehindTerm_55
    · replace h := (if_neg hc).symm.trans h
      refine V_iconst C (1 : Int32) dX5_readBehindTerm_50 (by decide) ?_
      refine V_goto C (tgt := 55) dX5_readBehindTerm_51 (by decide) ?_
      cases h
      exact V_ireturn C rfl rfl rfl dX5_readBehindTerm_55
set_option maxHeartbeats 4000000 in
set_option maxRecDepth 100000 in
theorem lp_X5_read_31 {Y : Mc} {l : Launch} {E : WE} (hl : l.stackTraces = false) (C : Ok Y l E lvC 2 RX5 cX5_read (some .boolean) 7) {κ : Mem → Option (Int32 × Mem)}   (hκ : ∀  (μ_19 : Mem) x, κ  μ_19 = some x → V Y l E lvC 2 (rWi x) 88 [(0, .ref (E.1 1 0))] [] μ_19) : ∀ (n : Nat) (a1_8 : Int32) (μ_9 : Mem) {x}, f_X5_read_L31 κ  n a1_8 μ_9 = some x → V Y l E lvC 2 (rWi x) 31 [(0, .ref (E.1 1 0)), (1, .int a1_8)] [] μ_9 := by
  intro n
  induction n with
  | zero =>
    intro a1_8 μ_9 x h
    simp [f_X5_read_L31] at h
  | succ n ih =>
    intro a1_8 μ_9 x h
    rw [f_X5_read_L31] at h
    refine V_iload_n C 1 dX5_read_31 rfl 1 rfl ?_
    refine V_sipush C (200 : Int32) dX5_read_32 (by decide) ?_
    refine V_icmp_ge C (tgt := 88) dX5_read_35 (by decide) (fun hc => ?_) (fun hc => ?_)
    · replace h := (if_pos hc).symm.trans h
      refine V_sub (LP := [(0, .ref (E.1 1 0))]) [0] rfl ?_
      exact hκ _ _ h
    · replace h := (if_neg hc).symm.trans h
      refine V_aload_n C 0 dX5_read_38 rfl 0 rfl ?_
      refine V_getf (v := .int (μ_9 1 0 11)) C 1 0 m_1 fl_RX5_41 rfl rfl dX5_read_39 ?_
      refine V_aload_n C 0 dX5_read_42 rfl 0 rfl ?_
      refine V_getf (v := .ref (E.1 2 0)) C 1 0 m_1 fl_RX5_12 rfl rfl dX5_read_43 ?_
      refine V_getf (v := .int (μ_9 2 0 1)) C 2 0 m_2 fl_RX5_61 rfl rfl dX5_read_46 ?_
      refine V_icmp_ge C (tgt := 88) dX5_read_49 (by decide) (fun hc => ?_) (fun hc => ?_)
      · replace h := (if_pos hc).symm.trans h
        refine V_sub (LP := [(0, .ref (E.1 1 0))]) [0] rfl ?_
        exact hκ _ _ h
      · replace h := (if_neg hc).symm.trans h
        refine V_aload_n C 0 dX5_read_52 rfl 0 rfl ?_
        refine V_getf (v := .int (μ_9 1 0 13)) C 1 0 m_1 fl_RX5_54 rfl rfl dX5_read_53 ?_
        obtain ⟨j_11, hj_11, h⟩ := jn_ex h
        have J_11 : ∀ (μ_10 : Mem) x, j_11 μ_10 = some x → V Y l E lvC 2 (rWi x) 78 [(0, .ref (E.1 1 0)), (1, .int a1_8)] [] μ_10 := by
          intro μ_10  x h
          rw [hj_11] at h; clear hj_11
          refine V_aload_n C 0 dX5_read_78 rfl 0 rfl ?_
          obtain ⟨u_12, μ_13, hv, h⟩ := bW_inv h
          refine V_callVo C 1 0 m_1 none (con_X5_skipBlanks hl hv) tb_X5_skipBlanks lk_RX5_71 rfl rfl rfl (by decide) (by decide) rfl (Nat.le_of_ble_eq_true rfl) rfl dX5_read_79 rfl ?_
          clear hv
          obtain ⟨x_14, hn9⟩ : ∃ z : Int32, z = a1_8 + (1 : Int32) := ⟨_, rfl⟩
          replace h := lt_eq hn9 h
          refine V_iinc (L' := [(0, .ref (E.1 1 0)), (1, .int x_14)]) C x_14 dX5_read_82 1 rfl (by rw [hn9]; exact congrArg (a1_8 + ·) (by decide)) (by decide) [1, 0] rfl ?_
          clear hn9
          refine V_goto C (tgt := 31) dX5_read_85 (by decide) ?_
          refine V_sub (LP := [(0, .ref (E.1 1 0)), (1, .int x_14)]) [0, 1] rfl ?_
          exact ih _ _ h
        clear hj_11
        refine V_if_eq C (tgt := 69) dX5_read_56 (by decide) (fun hc => ?_) (fun hc => ?_)
        · replace h := (if_pos hc).symm.trans h
          refine V_aload_n C 0 dX5_read_69 rfl 0 rfl ?_
          obtain ⟨v_15, μ_16, hv, h⟩ := bW_inv h
          refine V_callVo C 1 0 m_1 (some (.int v_15)) (con_X5_readBehindTerm hl hv) tb_X5_readBehindTerm lk_RX5_68 rfl rfl rfl (by decide) (by decide) rfl (Nat.le_of_ble_eq_true rfl) rfl dX5_read_70 rfl ?_
          clear hv
          refine V_if_ne C (tgt := 78) dX5_read_73 (by decide) (fun hc => ?_) (fun hc => ?_)
          · replace h := (if_neg hc).symm.trans h
            refine V_sub (LP := [(0, .ref (E.1 1 0)), (1, .int a1_8)]) [0, 1] rfl ?_
            exact J_11 _ _ h
          · replace h := (if_pos hc).symm.trans h
            refine V_iconst C (0 : Int32) dX5_read_76 (by decide) ?_
            cases h
            exact V_ireturn C rfl rfl rfl dX5_read_77
        · replace h := (if_neg hc).symm.trans h
          refine V_aload_n C 0 dX5_read_59 rfl 0 rfl ?_
          obtain ⟨v_17, μ_18, hv, h⟩ := bW_inv h
          refine V_callVo C 1 0 m_1 (some (.int v_17)) (con_X5_readStart hl hv) tb_X5_readStart lk_RX5_64 rfl rfl rfl (by decide) (by decide) rfl (Nat.le_of_ble_eq_true rfl) rfl dX5_read_60 rfl ?_
          clear hv
          refine V_if_eq C (tgt := 76) dX5_read_63 (by decide) (fun hc => ?_) (fun hc => ?_)
          · replace h := (if_pos hc).symm.trans h
            refine V_iconst C (0 : Int32) dX5_read_76 (by decide) ?_
            cases h
            exact V_ireturn C rfl rfl rfl dX5_read_77
          · replace h := (if_neg hc).symm.trans h
            refine V_goto C (tgt := 78) dX5_read_66 (by decide) ?_
            refine V_sub (LP := [(0, .ref (E.1 1 0)), (1, .int a1_8)]) [0, 1] rfl ?_
            exact J_11 _ _ h
set_option maxHeartbeats 4000000 in
set_option maxRecDepth 100000 in
theorem con_X5_read {l : Launch} {E : WE} (hl : l.stackTraces = false)   {μ : Mem} {x} (h : f_X5_read  μ = some x) : Con l E lvC yX5_read cX5_read 2 (some .boolean) 7 [.ref (E.1 1 0)] μ (rWi x) := by
  refine Con.of (by decide) hl (Nat.le_of_ble_eq_true rfl) (fun Y C => ?_)
  replace C : Ok Y l E lvC 2 RX5 cX5_read (some .boolean) 7 := C
  show V Y l E lvC 2 (rWi x) 0 [(0, .ref (E.1 1 0))] [] μ
  unfold f_X5_read at h
  refine V_aload_n C 0 dX5_read_0 rfl 0 rfl ?_
  refine V_iconst C (0 : Int32) dX5_read_1 (by decide) ?_
  refine V_putI C 1 0 m_1 fp_RX5_41 rfl rfl rfl rfl (Nat.le_of_ble_eq_true rfl) dX5_read_2 ?_
  refine V_memn (fun μ_1 hn9 => ?_)
  replace h := lt_eq hn9 h; clear hn9
  refine V_aload_n C 0 dX5_read_5 rfl 0 rfl ?_
  refine V_iconst C (0 : Int32) dX5_read_6 (by decide) ?_
  refine V_putI C 1 0 m_1 fp_RX5_45 rfl rfl rfl rfl (Nat.le_of_ble_eq_true rfl) dX5_read_7 ?_
  refine V_memn (fun μ_2 hn9 => ?_)
  replace h := lt_eq hn9 h; clear hn9
  refine V_aload_n C 0 dX5_read_10 rfl 0 rfl ?_
  refine V_iconst C (0 : Int32) dX5_read_11 (by decide) ?_
  refine V_putI C 1 0 m_1 fp_RX5_48 rfl rfl rfl rfl (Nat.le_of_ble_eq_true rfl) dX5_read_12 ?_
  refine V_memn (fun μ_3 hn9 => ?_)
  replace h := lt_eq hn9 h; clear hn9
  refine V_aload_n C 0 dX5_read_15 rfl 0 rfl ?_
  refine V_iconst C (0 : Int32) dX5_read_16 (by decide) ?_
  refine V_putI C 1 0 m_1 fp_RX5_51 rfl rfl rfl rfl (Nat.le_of_ble_eq_true rfl) dX5_read_17 ?_
  refine V_memn (fun μ_4 hn9 => ?_)
  replace h := lt_eq hn9 h; clear hn9
  refine V_aload_n C 0 dX5_read_20 rfl 0 rfl ?_
  refine V_iconst C (1 : Int32) dX5_read_21 (by decide) ?_
  refine V_putI C 1 0 m_1 fp_RX5_54 rfl rfl rfl rfl (Nat.le_of_ble_eq_true rfl) dX5_read_22 ?_
  refine V_memn (fun μ_5 hn9 => ?_)
  replace h := lt_eq hn9 h; clear hn9
  refine V_aload_n C 0 dX5_read_25 rfl 0 rfl ?_
  obtain ⟨u_6, μ_7, hv, h⟩ := bW_inv h
  refine V_callVo C 1 0 m_1 none (con_X5_readTarget hl hv) tb_X5_readTarget lk_RX5_58 rfl rfl rfl (by decide) (by decide) rfl (Nat.le_of_ble_eq_true rfl) rfl dX5_read_26 rfl ?_
  clear hv
  refine V_iconst C (0 : Int32) dX5_read_29 (by decide) ?_
  refine V_istore_n (L' := [(0, .ref (E.1 1 0)), (1, .int (0 : Int32))]) C 1 dX5_read_30 rfl (by decide) [1, 0] rfl ?_
  refine V_sub (LP := [(0, .ref (E.1 1 0)), (1, .int (0 : Int32))]) [0, 1] rfl ?_
  refine lp_X5_read_31 hl C (fun μ_20 x h => ?_) 1000 _ _ h
  refine V_aload_n C 0 dX5_read_88 rfl 0 rfl ?_
  refine V_getf (v := .int (μ_20 1 0 13)) C 1 0 m_1 fl_RX5_54 rfl rfl dX5_read_89 ?_
  obtain ⟨j_21, hj_21, h⟩ := jn_ex h
  have J_21 : ∀ (_ : Unit) x, j_21 () = some x → V Y l E lvC 2 (rWi x) 106 [] [] μ_20 := by
    intro _  x h
    rw [hj_21] at h; clear hj_21
    refine V_iconst C (0 : Int32) dX5_read_106 (by decide) ?_
    cases h
    exact V_ireturn C rfl rfl rfl dX5_read_107
  clear hj_21
  refine V_if_ne C (tgt := 106) dX5_read_92 (by decide) (fun hc => ?_) (fun hc => ?_)
  · replace h := (if_neg hc).symm.trans h
    refine V_sub (LP := []) [] rfl ?_
    exact J_21 () _ h
  · replace h := (if_pos hc).symm.trans h
    refine V_aload_n C 0 dX5_read_95 rfl 0 rfl ?_
    refine V_getf (v := .int (μ_20 1 0 12)) C 1 0 m_1 fl_RX5_51 rfl rfl dX5_read_96 ?_
    refine V_if_ne C (tgt := 106) dX5_read_99 (by decide) (fun hc => ?_) (fun hc => ?_)
    · replace h := (if_neg hc).symm.trans h
      refine V_sub (LP := []) [] rfl ?_
      exact J_21 () _ h
    · replace h := (if_pos hc).symm.trans h
      refine V_iconst C (1 : Int32) dX5_read_102 (by decide) ?_
      refine V_goto C (tgt := 107) dX5_read_103 (by decide) ?_
      cases h
      exact V_ireturn C rfl rfl rfl dX5_read_107
set_option maxHeartbeats 4000000 in
set_option maxRecDepth 100000 in
theorem lp_X6_leadingCodes_2 {Y : Mc} {l : Launch} {E : WE} (hl : l.stackTraces = false) (C : Ok Y l E lvC 2 RX6 cX6_leadingCodes (some .int) 0) {κ : Unit → Option (Int32)} (c0_1 : Int32) (μ_3 : Mem)  (hκ : ∀ (_ : Unit) x, κ () = some x → V Y l E lvC 2 (rPi x μ_3) 28 [] [] μ_3) : ∀ (n : Nat) (a1_2 : Int32) {x}, f_X6_leadingCodes_L2 κ c0_1 μ_3 n a1_2 = some x → V Y l E lvC 2 (rPi x μ_3) 2 [(0, .int c0_1), (1, .int a1_2)] [] μ_3 := by
  intro n
  induction n with
  | zero =>
    intro a1_2 x h
    simp [f_X6_leadingCodes_L2] at h
  | succ n ih =>
    intro a1_2 x h
    rw [f_X6_leadingCodes_L2] at h
    refine V_iload_n C 1 dX6_leadingCodes_2 rfl 1 rfl ?_
    refine V_iconst C (4 : Int32) dX6_leadingCodes_3 (by decide) ?_
    refine V_icmp_ge C (tgt := 28) dX6_leadingCodes_4 (by decide) (fun hc => ?_) (fun hc => ?_)
    · replace h := (if_pos hc).symm.trans h
      refine V_sub (LP := []) [] rfl ?_
      exact hκ () _ h
    · replace h := (if_neg hc).symm.trans h
      refine V_iload_n C 0 dX6_leadingCodes_7 rfl 0 rfl ?_
      refine V_bipush C (8 : Int32) dX6_leadingCodes_8 (by decide) ?_
      refine V_iload_n C 1 dX6_leadingCodes_10 rfl 1 rfl ?_
      refine V_imul C dX6_leadingCodes_11 ?_
      refine V_ishr C dX6_leadingCodes_12 ?_
      refine V_sipush C (255 : Int32) dX6_leadingCodes_13 (by decide) ?_
      refine V_iand C dX6_leadingCodes_16 ?_
      refine V_if_ne C (tgt := 22) dX6_leadingCodes_17 (by decide) (fun hc => ?_) (fun hc => ?_)
      · replace h := (if_neg hc).symm.trans h
        obtain ⟨x_4, hn9⟩ : ∃ z : Int32, z = a1_2 + (1 : Int32) := ⟨_, rfl⟩
        replace h := lt_eq hn9 h
        refine V_iinc (L' := [(0, .int c0_1), (1, .int x_4)]) C x_4 dX6_leadingCodes_22 1 rfl (by rw [hn9]; exact congrArg (a1_2 + ·) (by decide)) (by decide) [1, 0] rfl ?_
        clear hn9
        refine V_goto C (tgt := 2) dX6_leadingCodes_25 (by decide) ?_
        refine V_sub (LP := [(0, .int c0_1), (1, .int x_4)]) [0, 1] rfl ?_
        exact ih _ h
      · replace h := (if_pos hc).symm.trans h
        refine V_iload_n C 1 dX6_leadingCodes_20 rfl 1 rfl ?_
        cases h
        exact V_ireturn C rfl rfl rfl dX6_leadingCodes_21
set_option maxHeartbeats 4000000 in
set_option maxRecDepth 100000 in
theorem con_X6_leadingCodes {l : Launch} {E : WE} (hl : l.stackTraces = false) (a0 : Int32)  {μ : Mem} {x} (h : f_X6_leadingCodes a0 μ = some x) : Con l E lvC yX6_leadingCodes cX6_leadingCodes 2 (some .int) 0 [.int a0] μ (rPi x μ) := by
  refine Con.of (by decide) hl (Nat.le_of_ble_eq_true rfl) (fun Y C => ?_)
  replace C : Ok Y l E lvC 2 RX6 cX6_leadingCodes (some .int) 0 := C
  show V Y l E lvC 2 (rPi x μ) 0 [(0, .int a0)] [] μ
  unfold f_X6_leadingCodes at h
  refine V_iconst C (0 : Int32) dX6_leadingCodes_0 (by decide) ?_
  refine V_istore_n (L' := [(0, .int a0), (1, .int (0 : Int32))]) C 1 dX6_leadingCodes_1 rfl (by decide) [1, 0] rfl ?_
  refine V_sub (LP := [(0, .int a0), (1, .int (0 : Int32))]) [0, 1] rfl ?_
  refine lp_X6_leadingCodes_2 hl C a0 μ (fun _ x h => ?_) 1000 _ h
  refine V_iconst C (4 : Int32) dX6_leadingCodes_28 (by decide) ?_
  cases h
  exact V_ireturn C rfl rfl rfl dX6_leadingCodes_29
set_option maxHeartbeats 4000000 in
set_option maxRecDepth 100000 in
theorem lp_X6_append_21 {Y : Mc} {l : Launch} {E : WE} (hl : l.stackTraces = false) (C : Ok Y l E lvC 4 RX6 cX6_append (some .int) 1) {κ : Mem → Option (Int32 × Mem)} (c1_2 : Int32) (c2_3 : Int32)  (hκ : ∀  (μ_8 : Mem) x, κ  μ_8 = some x → V Y l E lvC 4 (rWi x) 54 [(0, .ref (E.1 2 0)), (2, .int c2_3)] [] μ_8) : ∀ (n : Nat) (a3_4 : Int32) (μ_5 : Mem) {x}, f_X6_append_L21 κ c1_2 c2_3 n a3_4 μ_5 = some x → V Y l E lvC 4 (rWi x) 21 [(0, .ref (E.1 2 0)), (1, .int c1_2), (2, .int c2_3), (3, .int a3_4)] [] μ_5 := by
  intro n
  induction n with
  | zero =>
    intro a3_4 μ_5 x h
    simp [f_X6_append_L21] at h
  | succ n ih =>
    intro a3_4 μ_5 x h
    rw [f_X6_append_L21] at h
    refine V_iload_n C 3 dX6_append_21 rfl 3 rfl ?_
    refine V_iload_n C 2 dX6_append_22 rfl 2 rfl ?_
    refine V_icmp_ge C (tgt := 54) dX6_append_23 (by decide) (fun hc => ?_) (fun hc => ?_)
    · replace h := (if_pos hc).symm.trans h
      refine V_sub (LP := [(0, .ref (E.1 2 0)), (2, .int c2_3)]) [0, 2] rfl ?_
      exact hκ _ _ h
    · replace h := (if_neg hc).symm.trans h
      refine V_aload_n C 0 dX6_append_26 rfl 0 rfl ?_
      refine V_getf (v := .ref (E.1 3 0)) C 2 0 m_2 fl_RX6_9 rfl rfl dX6_append_27 ?_
      refine V_aload_n C 0 dX6_append_30 rfl 0 rfl ?_
      refine V_getf (v := .int (μ_5 2 0 1)) C 2 0 m_2 fl_RX6_19 rfl rfl dX6_append_31 ?_
      refine V_iload_n C 3 dX6_append_34 rfl 3 rfl ?_
      refine V_iadd C dX6_append_35 ?_
      refine V_iload_n C 1 dX6_append_36 rfl 1 rfl ?_
      refine V_bipush C (8 : Int32) dX6_append_37 (by decide) ?_
      refine V_iload_n C 3 dX6_append_39 rfl 3 rfl ?_
      refine V_imul C dX6_append_40 ?_
      refine V_ishr C dX6_append_41 ?_
      refine V_sipush C (255 : Int32) dX6_append_42 (by decide) ?_
      refine V_iand C dX6_append_45 ?_
      refine V_i2c C dX6_append_46 ?_
      obtain ⟨hi9, h⟩ := gd_inv h
      refine V_cast C 3 0 m_3 (fun _ => rfl) (inb_in hi9) dX6_append_47 ?_
      refine V_memn (fun μ_6 hn9 => ?_)
      replace h := lt_eq hn9 h; clear hn9
      obtain ⟨x_7, hn9⟩ : ∃ z : Int32, z = a3_4 + (1 : Int32) := ⟨_, rfl⟩
      replace h := lt_eq hn9 h
      refine V_iinc (L' := [(0, .ref (E.1 2 0)), (1, .int c1_2), (2, .int c2_3), (3, .int x_7)]) C x_7 dX6_append_48 3 rfl (by rw [hn9]; exact congrArg (a3_4 + ·) (by decide)) (by decide) [1, 2, 3, 0] rfl ?_
      clear hn9
      refine V_goto C (tgt := 21) dX6_append_51 (by decide) ?_
      refine V_sub (LP := [(0, .ref (E.1 2 0)), (1, .int c1_2), (2, .int c2_3), (3, .int x_7)]) [0, 1, 2, 3] rfl ?_
      exact ih _ _ h
set_option maxHeartbeats 4000000 in
set_option maxRecDepth 100000 in
theorem con_X6_append {l : Launch} {E : WE} (hl : l.stackTraces = false) (a1 : Int32)  {μ : Mem} {x} (h : f_X6_append a1 μ = some x) : Con l E lvC yX6_append cX6_append 4 (some .int) 1 [.ref (E.1 2 0), .int a1] μ (rWi x) := by
  refine Con.of (by decide) hl (Nat.le_of_ble_eq_true rfl) (fun Y C => ?_)
  replace C : Ok Y l E lvC 4 RX6 cX6_append (some .int) 1 := C
  show V Y l E lvC 4 (rWi x) 0 [(0, .ref (E.1 2 0)), (1, .int a1)] [] μ
  unfold f_X6_append at h
  refine V_iload_n C 1 dX6_append_0 rfl 1 rfl ?_
  obtain ⟨v_1, hv, h⟩ := bP_inv h
  refine V_callSo C (some (.int v_1)) (con_X6_leadingCodes hl a1 hv) tb_X6_leadingCodes lk_RX6_15 (by decide) (by decide) rfl (Nat.le_of_ble_eq_true rfl) rfl dX6_append_1 rfl ?_
  clear hv
  refine V_istore_n (L' := [(0, .ref (E.1 2 0)), (1, .int a1), (2, .int v_1)]) C 2 dX6_append_4 rfl (by decide) [1, 2, 0] rfl ?_
  refine V_aload_n C 0 dX6_append_5 rfl 0 rfl ?_
  refine V_getf (v := .int (μ 2 0 1)) C 2 0 m_2 fl_RX6_19 rfl rfl dX6_append_6 ?_
  refine V_iload_n C 2 dX6_append_9 rfl 2 rfl ?_
  refine V_iadd C dX6_append_10 ?_
  refine V_sipush C (200 : Int32) dX6_append_11 (by decide) ?_
  refine V_icmp_le C (tgt := 19) dX6_append_14 (by decide) (fun hc => ?_) (fun hc => ?_)
  · replace h := (if_pos hc).symm.trans h
    refine V_iconst C (0 : Int32) dX6_append_19 (by decide) ?_
    refine V_istore_n (L' := [(0, .ref (E.1 2 0)), (1, .int a1), (2, .int v_1), (3, .int (0 : Int32))]) C 3 dX6_append_20 rfl (by decide) [1, 2, 3, 0] rfl ?_
    refine V_sub (LP := [(0, .ref (E.1 2 0)), (1, .int a1), (2, .int v_1), (3, .int (0 : Int32))]) [0, 1, 2, 3] rfl ?_
    refine lp_X6_append_21 hl C a1 v_1 (fun μ_9 x h => ?_) 1000 _ _ h
    refine V_aload_n C 0 dX6_append_54 rfl 0 rfl ?_
    refine V_dup C dX6_append_55 rfl ?_
    refine V_getf (v := .int (μ_9 2 0 1)) C 2 0 m_2 fl_RX6_19 rfl rfl dX6_append_56 ?_
    refine V_iload_n C 2 dX6_append_59 rfl 1 rfl ?_
    refine V_iadd C dX6_append_60 ?_
    refine V_putI C 2 0 m_2 fp_RX6_19 rfl rfl rfl rfl (Nat.le_of_ble_eq_true rfl) dX6_append_61 ?_
    refine V_memn (fun μ_10 hn9 => ?_)
    replace h := lt_eq hn9 h; clear hn9
    refine V_iload_n C 2 dX6_append_64 rfl 1 rfl ?_
    cases h
    exact V_ireturn C rfl rfl rfl dX6_append_65
  · replace h := (if_neg hc).symm.trans h
    refine V_iconst C (-1 : Int32) dX6_append_17 (by decide) ?_
    cases h
    exact V_ireturn C rfl rfl rfl dX6_append_18
set_option maxHeartbeats 4000000 in
set_option maxRecDepth 100000 in
theorem con_X7_feed {l : Launch} {E : WE} (hl : l.stackTraces = false) (a1 : Int32)  {μ : Mem} {x} (h : f_X7_feed a1 μ = some x) : Con l E lvC yX7_feed cX7_feed 2 (some .int) 2 [.ref (E.1 0 0), .int a1] μ (rWi x) := by
  refine Con.of (by decide) hl (Nat.le_of_ble_eq_true rfl) (fun Y C => ?_)
  replace C : Ok Y l E lvC 2 RX7 cX7_feed (some .int) 2 := C
  show V Y l E lvC 2 (rWi x) 0 [(0, .ref (E.1 0 0)), (1, .int a1)] [] μ
  unfold f_X7_feed at h
  refine V_aload_n C 0 dX7_feed_0 rfl 0 rfl ?_
  refine V_getf (v := .ref (E.1 1 0)) C 0 0 m_0 fl_RX7_10 rfl rfl dX7_feed_1 ?_
  refine V_getf (v := .ref (E.1 2 0)) C 1 0 m_1 fl_RX7_37 rfl rfl dX7_feed_4 ?_
  refine V_iload_n C 1 dX7_feed_7 rfl 1 rfl ?_
  obtain ⟨v_1, μ_2, hv, h⟩ := bW_inv h
  refine V_callVo C 2 0 m_2 (some (.int v_1)) (con_X6_append hl a1 hv) tb_X6_append lk_RX7_41 rfl rfl rfl (by decide) (by decide) rfl (Nat.le_of_ble_eq_true rfl) rfl dX7_feed_8 rfl ?_
  clear hv
  cases h
  exact V_ireturn C rfl rfl rfl dX7_feed_11
set_option maxHeartbeats 4000000 in
set_option maxRecDepth 100000 in
theorem con_X7_clear {l : Launch} {E : WE} (hl : l.stackTraces = false)   {μ : Mem} {x} (h : f_X7_clear  μ = some x) : Con l E lvC yX7_clear cX7_clear 1 none 0 [.ref (E.1 0 0)] μ (rWu x) := by
  refine Con.of (by decide) hl (Nat.le_of_ble_eq_true rfl) (fun Y C => ?_)
  replace C : Ok Y l E lvC 1 RX7 cX7_clear none 0 := C
  show V Y l E lvC 1 (rWu x) 0 [(0, .ref (E.1 0 0))] [] μ
  unfold f_X7_clear at h
  refine V_aload_n C 0 dX7_clear_0 rfl 0 rfl ?_
  refine V_getf (v := .ref (E.1 1 0)) C 0 0 m_0 fl_RX7_10 rfl rfl dX7_clear_1 ?_
  refine V_getf (v := .ref (E.1 2 0)) C 1 0 m_1 fl_RX7_37 rfl rfl dX7_clear_4 ?_
  refine V_iconst C (0 : Int32) dX7_clear_7 (by decide) ?_
  refine V_putI C 2 0 m_2 fp_RX7_47 rfl rfl rfl rfl (Nat.le_of_ble_eq_true rfl) dX7_clear_8 ?_
  refine V_memn (fun μ_1 hn9 => ?_)
  replace h := lt_eq hn9 h; clear hn9
  cases h
  exact V_return C rfl rfl dX7_clear_11
set_option maxHeartbeats 4000000 in
set_option maxRecDepth 100000 in
theorem con_X7_run {l : Launch} {E : WE} (hl : l.stackTraces = false)   {μ : Mem} {x} (h : f_X7_run  μ = some x) : Con l E lvC yX7_run cX7_run 2 (some .int) 8 [.ref (E.1 0 0)] μ (rBi x) := by
  refine Con.of (by decide) hl (Nat.le_of_ble_eq_true rfl) (fun Y C => ?_)
  replace C : Ok Y l E lvC 2 RX7 cX7_run (some .int) 8 := C
  show V Y l E lvC 2 (rBi x) 0 [(0, .ref (E.1 0 0))] [] μ
  unfold f_X7_run at h
  refine V_aload_n C 0 dX7_run_0 rfl 0 rfl ?_
  refine V_getf (v := .ref (E.1 1 0)) C 0 0 m_0 fl_RX7_10 rfl rfl dX7_run_1 ?_
  obtain ⟨v_1, μ_2, hv, h⟩ := bW_inv h
  refine V_callVo C 1 0 m_1 (some (.int v_1)) (con_X5_read hl hv) tb_X5_read lk_RX7_51 rfl rfl rfl (by decide) (by decide) rfl (Nat.le_of_ble_eq_true rfl) rfl dX7_run_4 rfl ?_
  clear hv
  refine V_if_ne C (tgt := 12) dX7_run_7 (by decide) (fun hc => ?_) (fun hc => ?_)
  · replace h := (if_neg hc).symm.trans h
    refine V_aload_n C 0 dX7_run_12 rfl 0 rfl ?_
    refine V_getf (v := .ref (E.1 14 0)) C 0 0 m_0 fl_RX7_26 rfl rfl dX7_run_13 ?_
    refine V_aload_n C 0 dX7_run_16 rfl 0 rfl ?_
    refine V_getf (v := .ref (E.1 1 0)) C 0 0 m_0 fl_RX7_10 rfl rfl dX7_run_17 ?_
    refine V_aload_n C 0 dX7_run_20 rfl 0 rfl ?_
    refine V_getf (v := .ref (E.1 11 0)) C 0 0 m_0 fl_RX7_19 rfl rfl dX7_run_21 ?_
    rcases bB_inv h with ⟨e_5, μ_4, hv, h⟩ | ⟨v_3, μ_4, hv, h⟩
    · cases h; exact V_callVe C 14 0 m_14 e_5 (con_X0_evaluate hl hv) tb_X0_evaluate lk_RX7_55 rfl rfl rfl (by decide) (by decide) rfl (Nat.le_of_ble_eq_true rfl) rfl dX7_run_24 rfl
    refine V_callVo C 14 0 m_14 (some (.ref (E.1 20 v_3))) (con_X0_evaluate hl hv) tb_X0_evaluate lk_RX7_55 rfl rfl rfl (by decide) (by decide) rfl (Nat.le_of_ble_eq_true rfl) rfl dX7_run_24 rfl ?_
    clear hv
    obtain ⟨hv_3, h⟩ := gd_inv h
    replace hv_3 := dec_t hv_3
    refine V_astore_n (L' := [(0, .ref (E.1 0 0)), (1, .ref (E.1 20 v_3))]) C 1 dX7_run_27 rfl (by decide) [1, 0] rfl ?_
    refine V_aload_n C 0 dX7_run_28 rfl 0 rfl ?_
    refine V_getf (v := .ref (E.1 20 17)) C 0 0 m_0 fl_RX7_33 rfl rfl dX7_run_29 ?_
    refine V_aload_n C 1 dX7_run_32 rfl 1 rfl ?_
    rcases bB_inv h with ⟨e_8, μ_7, hv, h⟩ | ⟨u_6, μ_7, hv, h⟩
    · cases h; exact V_callVe C 20 17 (gr_0in 17 (by decide)) e_8 (con_X1_copy hl 17 v_3 (by decide) hv_3 hv) tb_X1_copy lk_RX7_59 rfl rfl rfl (by decide) (by decide) rfl (Nat.le_of_ble_eq_true rfl) rfl dX7_run_33 rfl
    refine V_callVo C 20 17 (gr_0in 17 (by decide)) none (con_X1_copy hl 17 v_3 (by decide) hv_3 hv) tb_X1_copy lk_RX7_59 rfl rfl rfl (by decide) (by decide) rfl (Nat.le_of_ble_eq_true rfl) rfl dX7_run_33 rfl ?_
    clear hv
    refine V_aload_n C 0 dX7_run_36 rfl 0 rfl ?_
    refine V_getf (v := .ref (E.1 1 0)) C 0 0 m_0 fl_RX7_10 rfl rfl dX7_run_37 ?_
    refine V_getf (v := .int (μ_7 1 0 10)) C 1 0 m_1 fl_RX7_63 rfl rfl dX7_run_40 ?_
    refine V_iconst C (-1 : Int32) dX7_run_43 (by decide) ?_
    obtain ⟨j_10, hj_10, h⟩ := jn_ex h
    have J_10 : ∀ (μ_9 : Mem) x, j_10 μ_9 = some x → V Y l E lvC 2 (rBi x) 62 [(0, .ref (E.1 0 0))] [] μ_9 := by
      intro μ_9  x h
      rw [hj_10] at h; clear hj_10
      refine V_aload_n C 0 dX7_run_62 rfl 0 rfl ?_
      refine V_getf (v := .ref (E.1 20 17)) C 0 0 m_0 fl_RX7_33 rfl rfl dX7_run_63 ?_
      refine V_getf (v := .int (μ_9 20 17 3)) C 20 17 (gr_0in 17 (by decide)) fl_RX7_70 rfl rfl dX7_run_66 ?_
      cases h
      exact V_ireturn C rfl rfl rfl dX7_run_69
    clear hj_10
    refine V_icmp_eq C (tgt := 62) dX7_run_44 (by decide) (fun hc => ?_) (fun hc => ?_)
    · replace h := (if_pos hc).symm.trans h
      refine V_sub (LP := [(0, .ref (E.1 0 0))]) [0] rfl ?_
      exact J_10 _ _ h
    · replace h := (if_neg hc).symm.trans h
      refine V_aload_n C 0 dX7_run_47 rfl 0 rfl ?_
      refine V_getf (v := .ref (E.1 11 0)) C 0 0 m_0 fl_RX7_19 rfl rfl dX7_run_48 ?_
      refine V_aload_n C 0 dX7_run_51 rfl 0 rfl ?_
      refine V_getf (v := .ref (E.1 1 0)) C 0 0 m_0 fl_RX7_10 rfl rfl dX7_run_52 ?_
      refine V_getf (v := .int (μ_7 1 0 10)) C 1 0 m_1 fl_RX7_63 rfl rfl dX7_run_55 ?_
      refine V_aload_n C 1 dX7_run_58 rfl 1 rfl ?_
      rcases bB_inv h with ⟨e_13, μ_12, hv, h⟩ | ⟨u_11, μ_12, hv, h⟩
      · cases h; exact V_callVe C 11 0 m_11 e_13 (con_X2_put hl (μ_7 1 0 10) v_3 hv_3 hv) tb_X2_put lk_RX7_66 rfl rfl rfl (by decide) (by decide) rfl (Nat.le_of_ble_eq_true rfl) rfl dX7_run_59 rfl
      refine V_callVo C 11 0 m_11 none (con_X2_put hl (μ_7 1 0 10) v_3 hv_3 hv) tb_X2_put lk_RX7_66 rfl rfl rfl (by decide) (by decide) rfl (Nat.le_of_ble_eq_true rfl) rfl dX7_run_59 rfl ?_
      clear hv
      refine V_sub (LP := [(0, .ref (E.1 0 0))]) [0] rfl ?_
      exact J_10 _ _ h
  · replace h := (if_pos hc).symm.trans h
    refine V_iconst C (-1 : Int32) dX7_run_10 (by decide) ?_
    cases h
    exact V_ireturn C rfl rfl rfl dX7_run_11
set_option maxHeartbeats 4000000 in
set_option maxRecDepth 100000 in
theorem con_X7_rank {l : Launch} {E : WE} (hl : l.stackTraces = false)   {μ : Mem} {x} (h : f_X7_rank  μ = some x) : Con l E lvC yX7_rank cX7_rank 1 (some .int) 0 [.ref (E.1 0 0)] μ (rPi x μ) := by
  refine Con.of (by decide) hl (Nat.le_of_ble_eq_true rfl) (fun Y C => ?_)
  replace C : Ok Y l E lvC 1 RX7 cX7_rank (some .int) 0 := C
  show V Y l E lvC 1 (rPi x μ) 0 [(0, .ref (E.1 0 0))] [] μ
  unfold f_X7_rank at h
  refine V_aload_n C 0 dX7_rank_0 rfl 0 rfl ?_
  refine V_getf (v := .ref (E.1 20 17)) C 0 0 m_0 fl_RX7_33 rfl rfl dX7_rank_1 ?_
  refine V_getf (v := .int (μ 20 17 2)) C 20 17 (gr_0in 17 (by decide)) fl_RX7_73 rfl rfl dX7_rank_4 ?_
  cases h
  exact V_ireturn C rfl rfl rfl dX7_rank_7
set_option maxHeartbeats 4000000 in
set_option maxRecDepth 100000 in
theorem con_X7_axis {l : Launch} {E : WE} (hl : l.stackTraces = false) (a1 : Int32)  {μ : Mem} {x} (h : f_X7_axis a1 μ = some x) : Con l E lvC yX7_axis cX7_axis 2 (some .int) 0 [.ref (E.1 0 0), .int a1] μ (rPi x μ) := by
  refine Con.of (by decide) hl (Nat.le_of_ble_eq_true rfl) (fun Y C => ?_)
  replace C : Ok Y l E lvC 2 RX7 cX7_axis (some .int) 0 := C
  show V Y l E lvC 2 (rPi x μ) 0 [(0, .ref (E.1 0 0)), (1, .int a1)] [] μ
  unfold f_X7_axis at h
  refine V_iload_n C 1 dX7_axis_0 rfl 1 rfl ?_
  obtain ⟨j_1, hj_1, h⟩ := jn_ex h
  have J_1 : ∀ (_ : Unit) x, j_1 () = some x → V Y l E lvC 2 (rPi x μ) 27 [] [] μ := by
    intro _  x h
    rw [hj_1] at h; clear hj_1
    refine V_iconst C (-1 : Int32) dX7_axis_27 (by decide) ?_
    cases h
    exact V_ireturn C rfl rfl rfl dX7_axis_28
  clear hj_1
  refine V_if_lt C (tgt := 27) dX7_axis_1 (by decide) (fun hc => ?_) (fun hc => ?_)
  · replace h := (if_pos hc).symm.trans h
    refine V_sub (LP := []) [] rfl ?_
    exact J_1 () _ h
  · replace h := (if_neg hc).symm.trans h
    refine V_iload_n C 1 dX7_axis_4 rfl 1 rfl ?_
    refine V_aload_n C 0 dX7_axis_5 rfl 0 rfl ?_
    refine V_getf (v := .ref (E.1 20 17)) C 0 0 m_0 fl_RX7_33 rfl rfl dX7_axis_6 ?_
    refine V_getf (v := .int (μ 20 17 2)) C 20 17 (gr_0in 17 (by decide)) fl_RX7_73 rfl rfl dX7_axis_9 ?_
    refine V_icmp_ge C (tgt := 27) dX7_axis_12 (by decide) (fun hc => ?_) (fun hc => ?_)
    · replace h := (if_pos hc).symm.trans h
      refine V_sub (LP := []) [] rfl ?_
      exact J_1 () _ h
    · replace h := (if_neg hc).symm.trans h
      refine V_aload_n C 0 dX7_axis_15 rfl 0 rfl ?_
      refine V_getf (v := .ref (E.1 20 17)) C 0 0 m_0 fl_RX7_33 rfl rfl dX7_axis_16 ?_
      refine V_getf (v := .ref (E.1 21 17)) C 20 17 (gr_0in 17 (by decide)) fl_RX7_76 rfl rfl dX7_axis_19 ?_
      refine V_iload_n C 1 dX7_axis_22 rfl 1 rfl ?_
      obtain ⟨hi9, h⟩ := gd_inv h
      refine V_iald C 21 17 (gr_1in 17 (by decide)) (fun _ => rfl) (inb_in hi9) dX7_axis_23 ?_
      refine V_goto C (tgt := 28) dX7_axis_24 (by decide) ?_
      cases h
      exact V_ireturn C rfl rfl rfl dX7_axis_28
set_option maxHeartbeats 4000000 in
set_option maxRecDepth 100000 in
theorem con_X7_size {l : Launch} {E : WE} (hl : l.stackTraces = false)   {μ : Mem} {x} (h : f_X7_size  μ = some x) : Con l E lvC yX7_size cX7_size 1 (some .int) 0 [.ref (E.1 0 0)] μ (rPi x μ) := by
  refine Con.of (by decide) hl (Nat.le_of_ble_eq_true rfl) (fun Y C => ?_)
  replace C : Ok Y l E lvC 1 RX7 cX7_size (some .int) 0 := C
  show V Y l E lvC 1 (rPi x μ) 0 [(0, .ref (E.1 0 0))] [] μ
  unfold f_X7_size at h
  refine V_aload_n C 0 dX7_size_0 rfl 0 rfl ?_
  refine V_getf (v := .ref (E.1 20 17)) C 0 0 m_0 fl_RX7_33 rfl rfl dX7_size_1 ?_
  refine V_getf (v := .int (μ 20 17 3)) C 20 17 (gr_0in 17 (by decide)) fl_RX7_70 rfl rfl dX7_size_4 ?_
  cases h
  exact V_ireturn C rfl rfl rfl dX7_size_7
set_option maxHeartbeats 4000000 in
set_option maxRecDepth 100000 in
theorem con_X7_element {l : Launch} {E : WE} (hl : l.stackTraces = false) (a1 : Int32)  {μ : Mem} {x} (h : f_X7_element a1 μ = some x) : Con l E lvC yX7_element cX7_element 2 (some .long) 0 [.ref (E.1 0 0), .int a1] μ (rPl x μ) := by
  refine Con.of (by decide) hl (Nat.le_of_ble_eq_true rfl) (fun Y C => ?_)
  replace C : Ok Y l E lvC 2 RX7 cX7_element (some .long) 0 := C
  show V Y l E lvC 2 (rPl x μ) 0 [(0, .ref (E.1 0 0)), (1, .int a1)] [] μ
  unfold f_X7_element at h
  refine V_iload_n C 1 dX7_element_0 rfl 1 rfl ?_
  obtain ⟨j_1, hj_1, h⟩ := jn_ex h
  have J_1 : ∀ (_ : Unit) x, j_1 () = some x → V Y l E lvC 2 (rPl x μ) 28 [] [] μ := by
    intro _  x h
    rw [hj_1] at h; clear hj_1
    refine V_ldc2 C (4294967296 : Int64) kl_RX7_83 dX7_element_28 ?_
    cases h
    exact V_lreturn C rfl rfl dX7_element_31
  clear hj_1
  refine V_if_lt C (tgt := 28) dX7_element_1 (by decide) (fun hc => ?_) (fun hc => ?_)
  · replace h := (if_pos hc).symm.trans h
    refine V_sub (LP := []) [] rfl ?_
    exact J_1 () _ h
  · replace h := (if_neg hc).symm.trans h
    refine V_iload_n C 1 dX7_element_4 rfl 1 rfl ?_
    refine V_aload_n C 0 dX7_element_5 rfl 0 rfl ?_
    refine V_getf (v := .ref (E.1 20 17)) C 0 0 m_0 fl_RX7_33 rfl rfl dX7_element_6 ?_
    refine V_getf (v := .int (μ 20 17 3)) C 20 17 (gr_0in 17 (by decide)) fl_RX7_70 rfl rfl dX7_element_9 ?_
    refine V_icmp_ge C (tgt := 28) dX7_element_12 (by decide) (fun hc => ?_) (fun hc => ?_)
    · replace h := (if_pos hc).symm.trans h
      refine V_sub (LP := []) [] rfl ?_
      exact J_1 () _ h
    · replace h := (if_neg hc).symm.trans h
      refine V_aload_n C 0 dX7_element_15 rfl 0 rfl ?_
      refine V_getf (v := .ref (E.1 20 17)) C 0 0 m_0 fl_RX7_33 rfl rfl dX7_element_16 ?_
      refine V_getf (v := .ref (E.1 22 17)) C 20 17 (gr_0in 17 (by decide)) fl_RX7_80 rfl rfl dX7_element_19 ?_
      refine V_iload_n C 1 dX7_element_22 rfl 1 rfl ?_
      obtain ⟨hi9, h⟩ := gd_inv h
      refine V_iald C 22 17 (gr_2in 17 (by decide)) (fun _ => rfl) (inb_in hi9) dX7_element_23 ?_
      refine V_i2l C dX7_element_24 ?_
      refine V_goto C (tgt := 31) dX7_element_25 (by decide) ?_
      cases h
      exact V_lreturn C rfl rfl dX7_element_31
set_option maxHeartbeats 4000000 in
set_option maxRecDepth 100000 in
theorem lp_X7_sum_4 {Y : Mc} {l : Launch} {E : WE} (hl : l.stackTraces = false) (C : Ok Y l E lvC 4 RX7 cX7_sum (some .long) 0) {κ : Int64 → Option (Int64)}  (μ_3 : Mem)  (hκ : ∀ (a1_6 : Int64) x, κ a1_6 = some x → V Y l E lvC 4 (rPl x μ_3) 34 [(1, .long a1_6)] [] μ_3) : ∀ (n : Nat) (a1_1 : Int64) (a3_2 : Int32) {x}, f_X7_sum_L4 κ  μ_3 n a1_1 a3_2 = some x → V Y l E lvC 4 (rPl x μ_3) 4 [(0, .ref (E.1 0 0)), (1, .long a1_1), (3, .int a3_2)] [] μ_3 := by
  intro n
  induction n with
  | zero =>
    intro a1_1 a3_2 x h
    simp [f_X7_sum_L4] at h
  | succ n ih =>
    intro a1_1 a3_2 x h
    rw [f_X7_sum_L4] at h
    refine V_iload_n C 3 dX7_sum_4 rfl 2 rfl ?_
    refine V_aload_n C 0 dX7_sum_5 rfl 0 rfl ?_
    refine V_getf (v := .ref (E.1 20 17)) C 0 0 m_0 fl_RX7_33 rfl rfl dX7_sum_6 ?_
    refine V_getf (v := .int (μ_3 20 17 3)) C 20 17 (gr_0in 17 (by decide)) fl_RX7_70 rfl rfl dX7_sum_9 ?_
    refine V_icmp_ge C (tgt := 34) dX7_sum_12 (by decide) (fun hc => ?_) (fun hc => ?_)
    · replace h := (if_pos hc).symm.trans h
      refine V_sub (LP := [(1, .long a1_1)]) [1] rfl ?_
      exact hκ _ _ h
    · replace h := (if_neg hc).symm.trans h
      refine V_lload_n C 1 dX7_sum_15 rfl 1 rfl ?_
      refine V_aload_n C 0 dX7_sum_16 rfl 0 rfl ?_
      refine V_getf (v := .ref (E.1 20 17)) C 0 0 m_0 fl_RX7_33 rfl rfl dX7_sum_17 ?_
      refine V_getf (v := .ref (E.1 22 17)) C 20 17 (gr_0in 17 (by decide)) fl_RX7_80 rfl rfl dX7_sum_20 ?_
      refine V_iload_n C 3 dX7_sum_23 rfl 2 rfl ?_
      obtain ⟨hi9, h⟩ := gd_inv h
      refine V_iald C 22 17 (gr_2in 17 (by decide)) (fun _ => rfl) (inb_in hi9) dX7_sum_24 ?_
      refine V_i2l C dX7_sum_25 ?_
      refine V_ladd C dX7_sum_26 ?_
      refine V_topl (fun x_4 hn9 => ?_)
      replace h := lt_eq hn9 h; clear hn9
      refine V_lstore_n (L' := [(0, .ref (E.1 0 0)), (1, .long x_4), (3, .int a3_2)]) C 1 dX7_sum_27 rfl (by decide) [1, 0, 2] rfl ?_
      obtain ⟨x_5, hn9⟩ : ∃ z : Int32, z = a3_2 + (1 : Int32) := ⟨_, rfl⟩
      replace h := lt_eq hn9 h
      refine V_iinc (L' := [(0, .ref (E.1 0 0)), (1, .long x_4), (3, .int x_5)]) C x_5 dX7_sum_28 2 rfl (by rw [hn9]; exact congrArg (a3_2 + ·) (by decide)) (by decide) [1, 2, 0] rfl ?_
      clear hn9
      refine V_goto C (tgt := 4) dX7_sum_31 (by decide) ?_
      refine V_sub (LP := [(0, .ref (E.1 0 0)), (1, .long x_4), (3, .int x_5)]) [0, 1, 2] rfl ?_
      exact ih _ _ h
set_option maxHeartbeats 4000000 in
set_option maxRecDepth 100000 in
theorem con_X7_sum {l : Launch} {E : WE} (hl : l.stackTraces = false)   {μ : Mem} {x} (h : f_X7_sum  μ = some x) : Con l E lvC yX7_sum cX7_sum 4 (some .long) 0 [.ref (E.1 0 0)] μ (rPl x μ) := by
  refine Con.of (by decide) hl (Nat.le_of_ble_eq_true rfl) (fun Y C => ?_)
  replace C : Ok Y l E lvC 4 RX7 cX7_sum (some .long) 0 := C
  show V Y l E lvC 4 (rPl x μ) 0 [(0, .ref (E.1 0 0))] [] μ
  unfold f_X7_sum at h
  refine V_lconst C (0 : Int64) dX7_sum_0 (by decide) ?_
  refine V_lstore_n (L' := [(0, .ref (E.1 0 0)), (1, .long (0 : Int64))]) C 1 dX7_sum_1 rfl (by decide) [1, 0] rfl ?_
  refine V_iconst C (0 : Int32) dX7_sum_2 (by decide) ?_
  refine V_istore_n (L' := [(0, .ref (E.1 0 0)), (1, .long (0 : Int64)), (3, .int (0 : Int32))]) C 3 dX7_sum_3 rfl (by decide) [1, 2, 0] rfl ?_
  refine V_sub (LP := [(0, .ref (E.1 0 0)), (1, .long (0 : Int64)), (3, .int (0 : Int32))]) [0, 1, 2] rfl ?_
  refine lp_X7_sum_4 hl C μ (fun a1_7 x h => ?_) 1000 _ _ h
  refine V_lload_n C 1 dX7_sum_34 rfl 0 rfl ?_
  cases h
  exact V_lreturn C rfl rfl dX7_sum_35
set_option maxHeartbeats 4000000 in
set_option maxRecDepth 100000 in
theorem con_X7_held {l : Launch} {E : WE} (hl : l.stackTraces = false) (a1 : Int32)  {μ : Mem} {x} (h : f_X7_held a1 μ = some x) : Con l E lvC yX7_held cX7_held 2 (some .int) 1 [.ref (E.1 0 0), .int a1] μ (rPi x μ) := by
  refine Con.of (by decide) hl (Nat.le_of_ble_eq_true rfl) (fun Y C => ?_)
  replace C : Ok Y l E lvC 2 RX7 cX7_held (some .int) 1 := C
  show V Y l E lvC 2 (rPi x μ) 0 [(0, .ref (E.1 0 0)), (1, .int a1)] [] μ
  unfold f_X7_held at h
  refine V_aload_n C 0 dX7_held_0 rfl 0 rfl ?_
  refine V_getf (v := .ref (E.1 11 0)) C 0 0 m_0 fl_RX7_19 rfl rfl dX7_held_1 ?_
  refine V_iload_n C 1 dX7_held_4 rfl 1 rfl ?_
  obtain ⟨v_1, hv, h⟩ := bP_inv h
  refine V_callVo C 11 0 m_11 (some (.int v_1)) (con_X2_has hl a1 hv) tb_X2_has lk_RX7_85 rfl rfl rfl (by decide) (by decide) rfl (Nat.le_of_ble_eq_true rfl) rfl dX7_held_5 rfl ?_
  clear hv
  refine V_if_eq C (tgt := 26) dX7_held_8 (by decide) (fun hc => ?_) (fun hc => ?_)
  · replace h := (if_pos hc).symm.trans h
    refine V_iconst C (-1 : Int32) dX7_held_26 (by decide) ?_
    cases h
    exact V_ireturn C rfl rfl rfl dX7_held_27
  · replace h := (if_neg hc).symm.trans h
    refine V_aload_n C 0 dX7_held_11 rfl 0 rfl ?_
    refine V_getf (v := .ref (E.1 11 0)) C 0 0 m_0 fl_RX7_19 rfl rfl dX7_held_12 ?_
    refine V_getf (v := .ref (E.1 12 0)) C 11 0 m_11 fl_RX7_89 rfl rfl dX7_held_15 ?_
    refine V_iload_n C 1 dX7_held_18 rfl 1 rfl ?_
    obtain ⟨hi9, h⟩ := gd_inv h
    refine V_aald (a := E.1 20 (a1).toNatClampNeg) C 12 0 m_12 rfl (inb_in hi9) rfl dX7_held_19 ?_
    refine V_topg (fun g_2 hn9 => ?_)
    replace h := lt_eq hn9 h; clear hn9
    obtain ⟨hg_2, h⟩ := gd_inv h
    replace hg_2 := dec_t hg_2
    refine V_getf (v := .int (μ 20 g_2 3)) C 20 g_2 (gr_0in g_2 hg_2) fl_RX7_70 rfl rfl dX7_held_20 ?_
    refine V_goto C (tgt := 27) dX7_held_23 (by decide) ?_
    cases h
    exact V_ireturn C rfl rfl rfl dX7_held_27
set_option maxHeartbeats 4000000 in
set_option maxRecDepth 100000 in
theorem con_X7_forget {l : Launch} {E : WE} (hl : l.stackTraces = false) (a1 : Int32)  {μ : Mem} {x} (h : f_X7_forget a1 μ = some x) : Con l E lvC yX7_forget cX7_forget 2 (some .boolean) 1 [.ref (E.1 0 0), .int a1] μ (rWi x) := by
  refine Con.of (by decide) hl (Nat.le_of_ble_eq_true rfl) (fun Y C => ?_)
  replace C : Ok Y l E lvC 2 RX7 cX7_forget (some .boolean) 1 := C
  show V Y l E lvC 2 (rWi x) 0 [(0, .ref (E.1 0 0)), (1, .int a1)] [] μ
  unfold f_X7_forget at h
  refine V_aload_n C 0 dX7_forget_0 rfl 0 rfl ?_
  refine V_getf (v := .ref (E.1 11 0)) C 0 0 m_0 fl_RX7_19 rfl rfl dX7_forget_1 ?_
  refine V_iload_n C 1 dX7_forget_4 rfl 1 rfl ?_
  obtain ⟨v_1, hv, h⟩ := bP_inv h
  refine V_callVo C 11 0 m_11 (some (.int v_1)) (con_X2_has hl a1 hv) tb_X2_has lk_RX7_85 rfl rfl rfl (by decide) (by decide) rfl (Nat.le_of_ble_eq_true rfl) rfl dX7_forget_5 rfl ?_
  clear hv
  refine V_if_ne C (tgt := 13) dX7_forget_8 (by decide) (fun hc => ?_) (fun hc => ?_)
  · replace h := (if_neg hc).symm.trans h
    refine V_aload_n C 0 dX7_forget_13 rfl 0 rfl ?_
    refine V_getf (v := .ref (E.1 11 0)) C 0 0 m_0 fl_RX7_19 rfl rfl dX7_forget_14 ?_
    refine V_getf (v := .ref (E.1 13 0)) C 11 0 m_11 fl_RX7_93 rfl rfl dX7_forget_17 ?_
    refine V_iload_n C 1 dX7_forget_20 rfl 1 rfl ?_
    refine V_iconst C (0 : Int32) dX7_forget_21 (by decide) ?_
    obtain ⟨hi9, h⟩ := gd_inv h
    refine V_zast C 13 0 m_13 (fun _ => rfl) (inb_in hi9) dX7_forget_22 ?_
    refine V_memn (fun μ_2 hn9 => ?_)
    replace h := lt_eq hn9 h; clear hn9
    refine V_iconst C (1 : Int32) dX7_forget_23 (by decide) ?_
    cases h
    exact V_ireturn C rfl rfl rfl dX7_forget_24
  · replace h := (if_pos hc).symm.trans h
    refine V_iconst C (0 : Int32) dX7_forget_11 (by decide) ?_
    cases h
    exact V_ireturn C rfl rfl rfl dX7_forget_12
set_option maxHeartbeats 4000000 in
set_option maxRecDepth 100000 in
theorem con_X7_done {l : Launch} {E : WE} (hl : l.stackTraces = false)   {μ : Mem} {x} (h : f_X7_done  μ = some x) : Con l E lvC yX7_done cX7_done 1 (some .int) 0 [.ref (E.1 0 0)] μ (rPi x μ) := by
  refine Con.of (by decide) hl (Nat.le_of_ble_eq_true rfl) (fun Y C => ?_)
  replace C : Ok Y l E lvC 1 RX7 cX7_done (some .int) 0 := C
  show V Y l E lvC 1 (rPi x μ) 0 [(0, .ref (E.1 0 0))] [] μ
  unfold f_X7_done at h
  refine V_aload_n C 0 dX7_done_0 rfl 0 rfl ?_
  refine V_getf (v := .ref (E.1 14 0)) C 0 0 m_0 fl_RX7_26 rfl rfl dX7_done_1 ?_
  refine V_getf (v := .int (μ 14 0 6)) C 14 0 m_14 fl_RX7_97 rfl rfl dX7_done_4 ?_
  cases h
  exact V_ireturn C rfl rfl rfl dX7_done_7
