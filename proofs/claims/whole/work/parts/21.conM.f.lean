set_option maxHeartbeats 4000000 in
set_option maxRecDepth 100000 in
theorem con_X8_pair {l : Launch} {E : WE} (hl : l.stackTraces = false) (a1 : Int32)  {μ : Mem} {x} (h : f_X8_pair a1 μ = some x) : Con l E lvM yX8_pair cX8_pair 2 (some .boolean) 4 [.ref (E.1 30 0), .int a1] μ (rWi x) := by
  refine Con.of (by decide) hl (Nat.le_of_ble_eq_true rfl) (fun Y C => ?_)
  replace C : Ok Y l E lvM 2 RX8 cX8_pair (some .boolean) 4 := C
  show V Y l E lvM 2 (rWi x) 0 [(0, .ref (E.1 30 0)), (1, .int a1)] [] μ
  unfold f_X8_pair at h
  refine V_iload_n C 1 dX8_pair_0 rfl 1 rfl ?_
  refine V_bipush C (10 : Int32) dX8_pair_1 (by decide) ?_
  refine V_icmp_ge C (tgt := 12) dX8_pair_3 (by decide) (fun hc => ?_) (fun hc => ?_)
  · replace h := (if_pos hc).symm.trans h
    refine V_iload_n C 1 dX8_pair_12 rfl 1 rfl ?_
    refine V_bipush C (30 : Int32) dX8_pair_13 (by decide) ?_
    refine V_icmp_ge C (tgt := 27) dX8_pair_15 (by decide) (fun hc => ?_) (fun hc => ?_)
    · replace h := (if_pos hc).symm.trans h
      refine V_iload_n C 1 dX8_pair_27 rfl 1 rfl ?_
      refine V_bipush C (30 : Int32) dX8_pair_28 (by decide) ?_
      refine V_icmp_ne C (tgt := 38) dX8_pair_30 (by decide) (fun hc => ?_) (fun hc => ?_)
      · replace h := (if_neg hc).symm.trans h
        refine V_iload_n C 1 dX8_pair_38 rfl 1 rfl ?_
        refine V_bipush C (31 : Int32) dX8_pair_39 (by decide) ?_
        refine V_icmp_ne C (tgt := 49) dX8_pair_41 (by decide) (fun hc => ?_) (fun hc => ?_)
        · replace h := (if_neg hc).symm.trans h
          refine V_iload_n C 1 dX8_pair_49 rfl 1 rfl ?_
          refine V_bipush C (32 : Int32) dX8_pair_50 (by decide) ?_
          refine V_icmp_ne C (tgt := 60) dX8_pair_52 (by decide) (fun hc => ?_) (fun hc => ?_)
          · replace h := (if_neg hc).symm.trans h
            refine V_aload_n C 0 dX8_pair_60 rfl 0 rfl ?_
            refine V_iload_n C 1 dX8_pair_61 rfl 1 rfl ?_
            refine V_bipush C (100 : Int32) dX8_pair_62 (by decide) ?_
            refine V_isub C dX8_pair_64 ?_
            refine V_bipush C (10 : Int32) dX8_pair_65 (by decide) ?_
            obtain ⟨hz9, h⟩ := gd_inv h
            refine V_idiv C dX8_pair_67 (nz_ne hz9) ?_
            refine V_iload_n C 1 dX8_pair_68 rfl 1 rfl ?_
            refine V_bipush C (100 : Int32) dX8_pair_69 (by decide) ?_
            refine V_isub C dX8_pair_71 ?_
            refine V_bipush C (10 : Int32) dX8_pair_72 (by decide) ?_
            obtain ⟨hz9, h⟩ := gd_inv h
            refine V_irem C dX8_pair_74 (nz_ne hz9) ?_
            obtain ⟨v_1, μ_2, hv, h⟩ := bW_inv h
            refine V_callVo C 30 0 m_30 (some (.int v_1)) (con_X8_inner hl ((a1 - (100 : Int32)) / (10 : Int32)) ((a1 - (100 : Int32)) - (a1 - (100 : Int32)) / (10 : Int32) * (10 : Int32)) hv) tb_X8_inner lk_RX8_163 rfl rfl rfl (by decide) (by decide) rfl (Nat.le_of_ble_eq_true rfl) rfl dX8_pair_75 rfl ?_
            clear hv
            obtain ⟨hr9, h⟩ := gd_inv h
            cases h
            exact V_ireturn C rfl (isb_nar hr9) rfl dX8_pair_78
          · replace h := (if_pos hc).symm.trans h
            refine V_aload_n C 0 dX8_pair_55 rfl 0 rfl ?_
            obtain ⟨v_3, μ_4, hv, h⟩ := bW_inv h
            refine V_callVo C 30 0 m_30 (some (.int v_3)) (con_X8_pick hl hv) tb_X8_pick lk_RX8_160 rfl rfl rfl (by decide) (by decide) rfl (Nat.le_of_ble_eq_true rfl) rfl dX8_pair_56 rfl ?_
            clear hv
            obtain ⟨hr9, h⟩ := gd_inv h
            cases h
            exact V_ireturn C rfl (isb_nar hr9) rfl dX8_pair_59
        · replace h := (if_pos hc).symm.trans h
          refine V_aload_n C 0 dX8_pair_44 rfl 0 rfl ?_
          obtain ⟨v_5, μ_6, hv, h⟩ := bW_inv h
          refine V_callVo C 30 0 m_30 (some (.int v_5)) (con_X8_join hl hv) tb_X8_join lk_RX8_157 rfl rfl rfl (by decide) (by decide) rfl (Nat.le_of_ble_eq_true rfl) rfl dX8_pair_45 rfl ?_
          clear hv
          obtain ⟨hr9, h⟩ := gd_inv h
          cases h
          exact V_ireturn C rfl (isb_nar hr9) rfl dX8_pair_48
      · replace h := (if_pos hc).symm.trans h
        refine V_aload_n C 0 dX8_pair_33 rfl 0 rfl ?_
        obtain ⟨v_7, μ_8, hv, h⟩ := bW_inv h
        refine V_callVo C 30 0 m_30 (some (.int v_7)) (con_X8_reshape hl hv) tb_X8_reshape lk_RX8_154 rfl rfl rfl (by decide) (by decide) rfl (Nat.le_of_ble_eq_true rfl) rfl dX8_pair_34 rfl ?_
        clear hv
        obtain ⟨hr9, h⟩ := gd_inv h
        cases h
        exact V_ireturn C rfl (isb_nar hr9) rfl dX8_pair_37
    · replace h := (if_neg hc).symm.trans h
      refine V_aload_n C 0 dX8_pair_18 rfl 0 rfl ?_
      refine V_iload_n C 1 dX8_pair_19 rfl 1 rfl ?_
      refine V_bipush C (20 : Int32) dX8_pair_20 (by decide) ?_
      refine V_isub C dX8_pair_22 ?_
      obtain ⟨v_9, μ_10, hv, h⟩ := bW_inv h
      refine V_callVo C 30 0 m_30 (some (.int v_9)) (con_X8_outer hl (a1 - (20 : Int32)) hv) tb_X8_outer lk_RX8_151 rfl rfl rfl (by decide) (by decide) rfl (Nat.le_of_ble_eq_true rfl) rfl dX8_pair_23 rfl ?_
      clear hv
      obtain ⟨hr9, h⟩ := gd_inv h
      cases h
      exact V_ireturn C rfl (isb_nar hr9) rfl dX8_pair_26
  · replace h := (if_neg hc).symm.trans h
    refine V_aload_n C 0 dX8_pair_6 rfl 0 rfl ?_
    refine V_iload_n C 1 dX8_pair_7 rfl 1 rfl ?_
    obtain ⟨v_11, μ_12, hv, h⟩ := bW_inv h
    refine V_callVo C 30 0 m_30 (some (.int v_11)) (con_X8_each hl a1 hv) tb_X8_each lk_RX8_148 rfl rfl rfl (by decide) (by decide) rfl (Nat.le_of_ble_eq_true rfl) rfl dX8_pair_8 rfl ?_
    clear hv
    obtain ⟨hr9, h⟩ := gd_inv h
    cases h
    exact V_ireturn C rfl (isb_nar hr9) rfl dX8_pair_11
set_option maxHeartbeats 4000000 in
set_option maxRecDepth 100000 in
theorem lp_X8_term_97 {Y : Mc} {l : Launch} {E : WE} (hl : l.stackTraces = false) (C : Ok Y l E lvM 4 RX8 cX8_term (some .boolean) 1) {κ : Mem → Option (Int32 × Mem)} (c1_6 : Int32) (c2_7 : Int32)  (hκ : ∀  (μ_13 : Mem) x, κ  μ_13 = some x → V Y l E lvM 4 (rWi x) 128 [] [] μ_13) : ∀ (n : Nat) (a3_8 : Int32) (μ_9 : Mem) {x}, f_X8_term_L97 κ c1_6 c2_7 n a3_8 μ_9 = some x → V Y l E lvM 4 (rWi x) 97 [(0, .ref (E.1 30 0)), (1, .int c1_6), (2, .int c2_7), (3, .int a3_8)] [] μ_9 := by
  intro n
  induction n with
  | zero =>
    intro a3_8 μ_9 x h
    simp [f_X8_term_L97] at h
  | succ n ih =>
    intro a3_8 μ_9 x h
    rw [f_X8_term_L97] at h
    refine V_iload_n C 3 dX8_term_97 rfl 3 rfl ?_
    refine V_iload_n C 2 dX8_term_98 rfl 2 rfl ?_
    refine V_icmp_ge C (tgt := 128) dX8_term_99 (by decide) (fun hc => ?_) (fun hc => ?_)
    · replace h := (if_pos hc).symm.trans h
      refine V_sub (LP := []) [] rfl ?_
      exact hκ _ _ h
    · replace h := (if_neg hc).symm.trans h
      refine V_aload_n C 0 dX8_term_102 rfl 0 rfl ?_
      refine V_bipush C (7 : Int32) dX8_term_103 (by decide) ?_
      refine V_iload_n C 3 dX8_term_105 rfl 3 rfl ?_
      refine V_aload_n C 0 dX8_term_106 rfl 0 rfl ?_
      refine V_getf (v := .ref (E.1 38 0)) C 30 0 m_30 fl_RX8_31 rfl rfl dX8_term_107 ?_
      refine V_aload_n C 0 dX8_term_110 rfl 0 rfl ?_
      refine V_getf (v := .ref (E.1 36 0)) C 30 0 m_30 fl_RX8_25 rfl rfl dX8_term_111 ?_
      refine V_iload_n C 1 dX8_term_114 rfl 1 rfl ?_
      obtain ⟨hi9, h⟩ := gd_inv h
      refine V_iald C 36 0 m_36 (fun _ => rfl) (inb_in hi9) dX8_term_115 ?_
      refine V_iload_n C 3 dX8_term_116 rfl 3 rfl ?_
      refine V_iadd C dX8_term_117 ?_
      obtain ⟨hi9, h⟩ := gd_inv h
      refine V_iald C 38 0 m_38 (fun _ => rfl) (inb_in hi9) dX8_term_118 ?_
      obtain ⟨u_10, μ_11, hv, h⟩ := bW_inv h
      refine V_callVo C 30 0 m_30 none (con_X8_set hl (7 : Int32) a3_8 (μ_9 38 0 (((μ_9 36 0 (c1_6).toNatClampNeg) + a3_8)).toNatClampNeg) hv) tb_X8_set lk_RX8_122 rfl rfl rfl (by decide) (by decide) rfl (Nat.le_of_ble_eq_true rfl) rfl dX8_term_119 rfl ?_
      clear hv
      obtain ⟨x_12, hn9⟩ : ∃ z : Int32, z = a3_8 + (1 : Int32) := ⟨_, rfl⟩
      replace h := lt_eq hn9 h
      refine V_iinc (L' := [(0, .ref (E.1 30 0)), (1, .int c1_6), (2, .int c2_7), (3, .int x_12)]) C x_12 dX8_term_122 3 rfl (by rw [hn9]; exact congrArg (a3_8 + ·) (by decide)) (by decide) [1, 2, 3, 0] rfl ?_
      clear hn9
      refine V_goto C (tgt := 97) dX8_term_125 (by decide) ?_
      refine V_sub (LP := [(0, .ref (E.1 30 0)), (1, .int c1_6), (2, .int c2_7), (3, .int x_12)]) [0, 1, 2, 3] rfl ?_
      exact ih _ _ h
set_option maxHeartbeats 4000000 in
set_option maxRecDepth 100000 in
theorem con_X8_term {l : Launch} {E : WE} (hl : l.stackTraces = false) (a1 : Int32)  {μ : Mem} {x} (h : f_X8_term a1 μ = some x) : Con l E lvM yX8_term cX8_term 4 (some .boolean) 1 [.ref (E.1 30 0), .int a1] μ (rWi x) := by
  refine Con.of (by decide) hl (Nat.le_of_ble_eq_true rfl) (fun Y C => ?_)
  replace C : Ok Y l E lvM 4 RX8 cX8_term (some .boolean) 1 := C
  show V Y l E lvM 4 (rWi x) 0 [(0, .ref (E.1 30 0)), (1, .int a1)] [] μ
  unfold f_X8_term at h
  refine V_aload_n C 0 dX8_term_0 rfl 0 rfl ?_
  refine V_getf (v := .ref (E.1 35 0)) C 30 0 m_30 fl_RX8_22 rfl rfl dX8_term_1 ?_
  refine V_iload_n C 1 dX8_term_4 rfl 1 rfl ?_
  obtain ⟨hi9, h⟩ := gd_inv h
  refine V_iald C 35 0 m_35 (fun _ => rfl) (inb_in hi9) dX8_term_5 ?_
  refine V_iconst C (1 : Int32) dX8_term_6 (by decide) ?_
  refine V_icmp_ne C (tgt := 51) dX8_term_7 (by decide) (fun hc => ?_) (fun hc => ?_)
  · replace h := (if_neg hc).symm.trans h
    refine V_aload_n C 0 dX8_term_51 rfl 0 rfl ?_
    refine V_getf (v := .ref (E.1 37 0)) C 30 0 m_30 fl_RX8_28 rfl rfl dX8_term_52 ?_
    refine V_iload_n C 1 dX8_term_55 rfl 1 rfl ?_
    obtain ⟨hi9, h⟩ := gd_inv h
    refine V_iald C 37 0 m_37 (fun _ => rfl) (inb_in hi9) dX8_term_56 ?_
    refine V_topi (fun x_1 hn9 => ?_)
    replace h := lt_eq hn9 h; clear hn9
    refine V_istore_n (L' := [(0, .ref (E.1 30 0)), (1, .int a1), (2, .int x_1)]) C 2 dX8_term_57 rfl (by decide) [1, 2, 0] rfl ?_
    refine V_iload_n C 2 dX8_term_58 rfl 2 rfl ?_
    refine V_bipush C (48 : Int32) dX8_term_59 (by decide) ?_
    refine V_icmp_le C (tgt := 70) dX8_term_61 (by decide) (fun hc => ?_) (fun hc => ?_)
    · replace h := (if_pos hc).symm.trans h
      refine V_aload_n C 0 dX8_term_70 rfl 0 rfl ?_
      refine V_getf (v := .ref (E.1 32 0)) C 30 0 m_30 fl_RX8_13 rfl rfl dX8_term_71 ?_
      refine V_bipush C (7 : Int32) dX8_term_74 (by decide) ?_
      refine V_iload_n C 2 dX8_term_76 rfl 2 rfl ?_
      refine V_iconst C (1 : Int32) dX8_term_77 (by decide) ?_
      obtain ⟨j_3, hj_3, h⟩ := jn_ex h
      have J_3 : ∀ (s_2 : Int32) x, j_3 s_2 = some x → V Y l E lvM 4 (rWi x) 86 [(0, .ref (E.1 30 0)), (1, .int a1), (2, .int x_1)] [.int s_2, .int (7 : Int32), .ref (E.1 32 0)] μ := by
        intro s_2  x h
        rw [hj_3] at h; clear hj_3
        obtain ⟨hi9, h⟩ := gd_inv h
        refine V_iast C 32 0 m_32 (fun _ => rfl) (inb_in hi9) dX8_term_86 ?_
        refine V_memn (fun μ_4 hn9 => ?_)
        replace h := lt_eq hn9 h; clear hn9
        refine V_aload_n C 0 dX8_term_87 rfl 0 rfl ?_
        refine V_getf (v := .ref (E.1 33 0)) C 30 0 m_30 fl_RX8_16 rfl rfl dX8_term_88 ?_
        refine V_bipush C (21 : Int32) dX8_term_91 (by decide) ?_
        refine V_iload_n C 2 dX8_term_93 rfl 2 rfl ?_
        obtain ⟨hi9, h⟩ := gd_inv h
        refine V_iast C 33 0 m_33 (fun _ => rfl) (inb_in hi9) dX8_term_94 ?_
        refine V_memn (fun μ_5 hn9 => ?_)
        replace h := lt_eq hn9 h; clear hn9
        refine V_iconst C (0 : Int32) dX8_term_95 (by decide) ?_
        refine V_istore_n (L' := [(0, .ref (E.1 30 0)), (1, .int a1), (2, .int x_1), (3, .int (0 : Int32))]) C 3 dX8_term_96 rfl (by decide) [1, 2, 3, 0] rfl ?_
        refine V_sub (LP := [(0, .ref (E.1 30 0)), (1, .int a1), (2, .int x_1), (3, .int (0 : Int32))]) [0, 1, 2, 3] rfl ?_
        refine lp_X8_term_97 hl C a1 x_1 (fun μ_14 x h => ?_) 1000 _ _ h
        refine V_iconst C (1 : Int32) dX8_term_128 (by decide) ?_
        cases h
        exact V_ireturn C rfl rfl rfl dX8_term_129
      clear hj_3
      refine V_icmp_ne C (tgt := 85) dX8_term_78 (by decide) (fun hc => ?_) (fun hc => ?_)
      · replace h := (if_neg hc).symm.trans h
        refine V_iconst C (1 : Int32) dX8_term_85 (by decide) ?_
        refine V_sub (LP := [(0, .ref (E.1 30 0)), (1, .int a1), (2, .int x_1)]) [0, 1, 2] rfl ?_
        exact J_3 _ _ h
      · replace h := (if_pos hc).symm.trans h
        refine V_iconst C (0 : Int32) dX8_term_81 (by decide) ?_
        refine V_goto C (tgt := 86) dX8_term_82 (by decide) ?_
        refine V_sub (LP := [(0, .ref (E.1 30 0)), (1, .int a1), (2, .int x_1)]) [0, 1, 2] rfl ?_
        exact J_3 _ _ h
    · replace h := (if_neg hc).symm.trans h
      refine V_aload_n C 0 dX8_term_64 rfl 0 rfl ?_
      refine V_iconst C (1 : Int32) dX8_term_65 (by decide) ?_
      obtain ⟨v_15, μ_16, hv, h⟩ := bW_inv h
      refine V_callVo C 30 0 m_30 (some (.int v_15)) (con_X8_stop hl (1 : Int32) hv) tb_X8_stop lk_RX8_95 rfl rfl rfl (by decide) (by decide) rfl (Nat.le_of_ble_eq_true rfl) rfl dX8_term_66 rfl ?_
      clear hv
      obtain ⟨hr9, h⟩ := gd_inv h
      cases h
      exact V_ireturn C rfl (isb_nar hr9) rfl dX8_term_69
  · replace h := (if_pos hc).symm.trans h
    refine V_aload_n C 0 dX8_term_10 rfl 0 rfl ?_
    refine V_getf (v := .ref (E.1 32 0)) C 30 0 m_30 fl_RX8_13 rfl rfl dX8_term_11 ?_
    refine V_bipush C (9 : Int32) dX8_term_14 (by decide) ?_
    refine V_aload_n C 0 dX8_term_16 rfl 0 rfl ?_
    refine V_getf (v := .ref (E.1 36 0)) C 30 0 m_30 fl_RX8_25 rfl rfl dX8_term_17 ?_
    refine V_iload_n C 1 dX8_term_20 rfl 1 rfl ?_
    obtain ⟨hi9, h⟩ := gd_inv h
    refine V_iald C 36 0 m_36 (fun _ => rfl) (inb_in hi9) dX8_term_21 ?_
    refine V_iadd C dX8_term_22 ?_
    obtain ⟨hi9, h⟩ := gd_inv h
    refine V_iald C 32 0 m_32 (fun _ => rfl) (inb_in hi9) dX8_term_23 ?_
    refine V_if_ge C (tgt := 34) dX8_term_24 (by decide) (fun hc => ?_) (fun hc => ?_)
    · replace h := (if_pos hc).symm.trans h
      refine V_aload_n C 0 dX8_term_34 rfl 0 rfl ?_
      refine V_bipush C (9 : Int32) dX8_term_35 (by decide) ?_
      refine V_aload_n C 0 dX8_term_37 rfl 0 rfl ?_
      refine V_getf (v := .ref (E.1 36 0)) C 30 0 m_30 fl_RX8_25 rfl rfl dX8_term_38 ?_
      refine V_iload_n C 1 dX8_term_41 rfl 1 rfl ?_
      obtain ⟨hi9, h⟩ := gd_inv h
      refine V_iald C 36 0 m_36 (fun _ => rfl) (inb_in hi9) dX8_term_42 ?_
      refine V_iadd C dX8_term_43 ?_
      refine V_bipush C (7 : Int32) dX8_term_44 (by decide) ?_
      obtain ⟨u_17, μ_18, hv, h⟩ := bW_inv h
      refine V_callVo C 30 0 m_30 none (con_X8_copy hl ((9 : Int32) + (μ 36 0 (a1).toNatClampNeg)) (7 : Int32) hv) tb_X8_copy lk_RX8_138 rfl rfl rfl (by decide) (by decide) rfl (Nat.le_of_ble_eq_true rfl) rfl dX8_term_46 rfl ?_
      clear hv
      refine V_iconst C (1 : Int32) dX8_term_49 (by decide) ?_
      cases h
      exact V_ireturn C rfl rfl rfl dX8_term_50
    · replace h := (if_neg hc).symm.trans h
      refine V_aload_n C 0 dX8_term_27 rfl 0 rfl ?_
      refine V_bipush C (6 : Int32) dX8_term_28 (by decide) ?_
      obtain ⟨v_19, μ_20, hv, h⟩ := bW_inv h
      refine V_callVo C 30 0 m_30 (some (.int v_19)) (con_X8_stop hl (6 : Int32) hv) tb_X8_stop lk_RX8_95 rfl rfl rfl (by decide) (by decide) rfl (Nat.le_of_ble_eq_true rfl) rfl dX8_term_30 rfl ?_
      clear hv
      obtain ⟨hr9, h⟩ := gd_inv h
      cases h
      exact V_ireturn C rfl (isb_nar hr9) rfl dX8_term_33
set_option maxHeartbeats 4000000 in
set_option maxRecDepth 100000 in
theorem con_X8_arrive {l : Launch} {E : WE} (hl : l.stackTraces = false) (a1 : Int32)  {μ : Mem} {x} (h : f_X8_arrive a1 μ = some x) : Con l E lvM yX8_arrive cX8_arrive 2 none 5 [.ref (E.1 30 0), .int a1] μ (rWu x) := by
  refine Con.of (by decide) hl (Nat.le_of_ble_eq_true rfl) (fun Y C => ?_)
  replace C : Ok Y l E lvM 2 RX8 cX8_arrive none 5 := C
  show V Y l E lvM 2 (rWu x) 0 [(0, .ref (E.1 30 0)), (1, .int a1)] [] μ
  unfold f_X8_arrive at h
  refine V_aload_n C 0 dX8_arrive_0 rfl 0 rfl ?_
  refine V_getf (v := .ref (E.1 40 0)) C 30 0 m_30 fl_RX8_38 rfl rfl dX8_arrive_1 ?_
  refine V_iload_n C 1 dX8_arrive_4 rfl 1 rfl ?_
  obtain ⟨hi9, h⟩ := gd_inv h
  refine V_zald C 40 0 m_40 (fun _ => rfl) (inb_in hi9) dX8_arrive_5 ?_
  refine V_if_ne C (tgt := 17) dX8_arrive_6 (by decide) (fun hc => ?_) (fun hc => ?_)
  · replace h := (if_neg hc).symm.trans h
    refine V_aload_n C 0 dX8_arrive_17 rfl 0 rfl ?_
    refine V_getf (v := .ref (E.1 40 0)) C 30 0 m_30 fl_RX8_38 rfl rfl dX8_arrive_18 ?_
    refine V_iload_n C 1 dX8_arrive_21 rfl 1 rfl ?_
    refine V_iconst C (0 : Int32) dX8_arrive_22 (by decide) ?_
    obtain ⟨hi9, h⟩ := gd_inv h
    refine V_zast C 40 0 m_40 (fun _ => rfl) (inb_in hi9) dX8_arrive_23 ?_
    refine V_memn (fun μ_1 hn9 => ?_)
    replace h := lt_eq hn9 h; clear hn9
    refine V_aload_n C 0 dX8_arrive_24 rfl 0 rfl ?_
    refine V_bipush C (7 : Int32) dX8_arrive_25 (by decide) ?_
    refine V_bipush C (18 : Int32) dX8_arrive_27 (by decide) ?_
    obtain ⟨u_2, μ_3, hv, h⟩ := bW_inv h
    refine V_callVo C 30 0 m_30 none (con_X8_copy hl (7 : Int32) (18 : Int32) hv) tb_X8_copy lk_RX8_138 rfl rfl rfl (by decide) (by decide) rfl (Nat.le_of_ble_eq_true rfl) rfl dX8_arrive_29 rfl ?_
    clear hv
    refine V_aload_n C 0 dX8_arrive_32 rfl 0 rfl ?_
    refine V_iload_n C 1 dX8_arrive_33 rfl 1 rfl ?_
    refine V_bipush C (19 : Int32) dX8_arrive_34 (by decide) ?_
    obtain ⟨u_4, μ_5, hv, h⟩ := bW_inv h
    refine V_callVo C 30 0 m_30 none (con_X8_copy hl a1 (19 : Int32) hv) tb_X8_copy lk_RX8_138 rfl rfl rfl (by decide) (by decide) rfl (Nat.le_of_ble_eq_true rfl) rfl dX8_arrive_36 rfl ?_
    clear hv
    refine V_aload_n C 0 dX8_arrive_39 rfl 0 rfl ?_
    refine V_aload_n C 0 dX8_arrive_40 rfl 0 rfl ?_
    refine V_getf (v := .ref (E.1 41 0)) C 30 0 m_30 fl_RX8_41 rfl rfl dX8_arrive_41 ?_
    refine V_iload_n C 1 dX8_arrive_44 rfl 1 rfl ?_
    obtain ⟨hi9, h⟩ := gd_inv h
    refine V_iald C 41 0 m_41 (fun _ => rfl) (inb_in hi9) dX8_arrive_45 ?_
    obtain ⟨v_6, μ_7, hv, h⟩ := bW_inv h
    refine V_callVo C 30 0 m_30 (some (.int v_6)) (con_X8_pair hl (μ_5 41 0 (a1).toNatClampNeg) hv) tb_X8_pair lk_RX8_177 rfl rfl rfl (by decide) (by decide) rfl (Nat.le_of_ble_eq_true rfl) rfl dX8_arrive_46 rfl ?_
    clear hv
    refine V_if_eq C (tgt := 69) dX8_arrive_49 (by decide) (fun hc => ?_) (fun hc => ?_)
    · replace h := (if_pos hc).symm.trans h
      cases h
      exact V_return C rfl rfl dX8_arrive_69
    · replace h := (if_neg hc).symm.trans h
      refine V_aload_n C 0 dX8_arrive_52 rfl 0 rfl ?_
      refine V_bipush C (8 : Int32) dX8_arrive_53 (by decide) ?_
      refine V_iload_n C 1 dX8_arrive_55 rfl 1 rfl ?_
      obtain ⟨u_8, μ_9, hv, h⟩ := bW_inv h
      refine V_callVo C 30 0 m_30 none (con_X8_copy hl (8 : Int32) a1 hv) tb_X8_copy lk_RX8_138 rfl rfl rfl (by decide) (by decide) rfl (Nat.le_of_ble_eq_true rfl) rfl dX8_arrive_56 rfl ?_
      clear hv
      refine V_aload_n C 0 dX8_arrive_59 rfl 0 rfl ?_
      refine V_aload_n C 0 dX8_arrive_60 rfl 0 rfl ?_
      refine V_getf (v := .int (μ_9 30 0 18)) C 30 0 m_30 fl_RX8_180 rfl rfl dX8_arrive_61 ?_
      refine V_iconst C (1 : Int32) dX8_arrive_64 (by decide) ?_
      refine V_iadd C dX8_arrive_65 ?_
      refine V_putI C 30 0 m_30 fp_RX8_180 rfl rfl rfl rfl (Nat.le_of_ble_eq_true rfl) dX8_arrive_66 ?_
      refine V_memn (fun μ_10 hn9 => ?_)
      replace h := lt_eq hn9 h; clear hn9
      cases h
      exact V_return C rfl rfl dX8_arrive_69
  · replace h := (if_pos hc).symm.trans h
    refine V_aload_n C 0 dX8_arrive_9 rfl 0 rfl ?_
    refine V_bipush C (7 : Int32) dX8_arrive_10 (by decide) ?_
    refine V_iload_n C 1 dX8_arrive_12 rfl 1 rfl ?_
    obtain ⟨u_11, μ_12, hv, h⟩ := bW_inv h
    refine V_callVo C 30 0 m_30 none (con_X8_copy hl (7 : Int32) a1 hv) tb_X8_copy lk_RX8_138 rfl rfl rfl (by decide) (by decide) rfl (Nat.le_of_ble_eq_true rfl) rfl dX8_arrive_13 rfl ?_
    clear hv
    cases h
    exact V_return C rfl rfl dX8_arrive_16
set_option maxHeartbeats 4000000 in
set_option maxRecDepth 100000 in
theorem lp_X8_evaluate_26 {Y : Mc} {l : Launch} {E : WE} (hl : l.stackTraces = false) (C : Ok Y l E lvM 4 RX8 cX8_evaluate none 6) {κ : Mem → Option (Unit × Mem)} (c1_5 : Int32)  (hκ : ∀  (μ_33 : Mem) x, κ  μ_33 = some x → V Y l E lvM 4 (rWu x) 192 [] [] μ_33) : ∀ (n : Nat) (a2_6 : Int32) (a3_7 : Int32) (μ_8 : Mem) {x}, f_X8_evaluate_L26 κ c1_5 n a2_6 a3_7 μ_8 = some x → V Y l E lvM 4 (rWu x) 26 [(0, .ref (E.1 30 0)), (1, .int c1_5), (2, .int a2_6), (3, .int a3_7)] [] μ_8 := by
  intro n
  induction n with
  | zero =>
    intro a2_6 a3_7 μ_8 x h
    simp [f_X8_evaluate_L26] at h
  | succ n ih =>
    intro a2_6 a3_7 μ_8 x h
    rw [f_X8_evaluate_L26] at h
    refine V_iload_n C 3 dX8_evaluate_26 rfl 3 rfl ?_
    refine V_iload_n C 1 dX8_evaluate_27 rfl 1 rfl ?_
    refine V_icmp_lt C (tgt := 192) dX8_evaluate_28 (by decide) (fun hc => ?_) (fun hc => ?_)
    · replace h := (if_pos hc).symm.trans h
      refine V_sub (LP := []) [] rfl ?_
      exact hκ _ _ h
    · replace h := (if_neg hc).symm.trans h
      refine V_aload_n C 0 dX8_evaluate_31 rfl 0 rfl ?_
      refine V_getf (v := .int (μ_8 30 0 16)) C 30 0 m_30 fl_RX8_92 rfl rfl dX8_evaluate_32 ?_
      refine V_if_ne C (tgt := 192) dX8_evaluate_35 (by decide) (fun hc => ?_) (fun hc => ?_)
      · replace h := (if_neg hc).symm.trans h
        refine V_sub (LP := []) [] rfl ?_
        exact hκ _ _ h
      · replace h := (if_pos hc).symm.trans h
        refine V_aload_n C 0 dX8_evaluate_38 rfl 0 rfl ?_
        refine V_getf (v := .ref (E.1 35 0)) C 30 0 m_30 fl_RX8_22 rfl rfl dX8_evaluate_39 ?_
        refine V_iload_n C 3 dX8_evaluate_42 rfl 3 rfl ?_
        obtain ⟨hi9, h⟩ := gd_inv h
        refine V_iald C 35 0 m_35 (fun _ => rfl) (inb_in hi9) dX8_evaluate_43 ?_
        refine V_iconst C (2 : Int32) dX8_evaluate_44 (by decide) ?_
        obtain ⟨j_11, hj_11, h⟩ := jn_ex h
        have J_11 : ∀ (a2_9 : Int32) (μ_10 : Mem) x, j_11 a2_9 μ_10 = some x → V Y l E lvM 4 (rWu x) 186 [(0, .ref (E.1 30 0)), (1, .int c1_5), (2, .int a2_9), (3, .int a3_7)] [] μ_10 := by
          intro a2_9 μ_10  x h
          rw [hj_11] at h; clear hj_11
          obtain ⟨x_12, hn9⟩ : ∃ z : Int32, z = a3_7 + (-1 : Int32) := ⟨_, rfl⟩
          replace h := lt_eq hn9 h
          refine V_iinc (L' := [(0, .ref (E.1 30 0)), (1, .int c1_5), (2, .int a2_9), (3, .int x_12)]) C x_12 dX8_evaluate_186 3 rfl (by rw [hn9]; exact congrArg (a3_7 + ·) (by decide)) (by decide) [1, 2, 3, 0] rfl ?_
          clear hn9
          refine V_goto C (tgt := 26) dX8_evaluate_189 (by decide) ?_
          refine V_sub (LP := [(0, .ref (E.1 30 0)), (1, .int c1_5), (2, .int a2_9), (3, .int x_12)]) [0, 1, 2, 3] rfl ?_
          exact ih _ _ _ h
        clear hj_11
        refine V_icmp_ge C (tgt := 64) dX8_evaluate_45 (by decide) (fun hc => ?_) (fun hc => ?_)
        · replace h := (if_pos hc).symm.trans h
          refine V_aload_n C 0 dX8_evaluate_64 rfl 0 rfl ?_
          refine V_getf (v := .ref (E.1 35 0)) C 30 0 m_30 fl_RX8_22 rfl rfl dX8_evaluate_65 ?_
          refine V_iload_n C 3 dX8_evaluate_68 rfl 3 rfl ?_
          obtain ⟨hi9, h⟩ := gd_inv h
          refine V_iald C 35 0 m_35 (fun _ => rfl) (inb_in hi9) dX8_evaluate_69 ?_
          refine V_iconst C (3 : Int32) dX8_evaluate_70 (by decide) ?_
          refine V_icmp_ne C (tgt := 88) dX8_evaluate_71 (by decide) (fun hc => ?_) (fun hc => ?_)
          · replace h := (if_neg hc).symm.trans h
            refine V_aload_n C 0 dX8_evaluate_88 rfl 0 rfl ?_
            refine V_getf (v := .ref (E.1 35 0)) C 30 0 m_30 fl_RX8_22 rfl rfl dX8_evaluate_89 ?_
            refine V_iload_n C 3 dX8_evaluate_92 rfl 3 rfl ?_
            obtain ⟨hi9, h⟩ := gd_inv h
            refine V_iald C 35 0 m_35 (fun _ => rfl) (inb_in hi9) dX8_evaluate_93 ?_
            refine V_iconst C (2 : Int32) dX8_evaluate_94 (by decide) ?_
            refine V_icmp_ne C (tgt := 117) dX8_evaluate_95 (by decide) (fun hc => ?_) (fun hc => ?_)
            · replace h := (if_neg hc).symm.trans h
              refine V_aload_n C 0 dX8_evaluate_117 rfl 0 rfl ?_
              refine V_getf (v := .ref (E.1 35 0)) C 30 0 m_30 fl_RX8_22 rfl rfl dX8_evaluate_118 ?_
              refine V_iload_n C 3 dX8_evaluate_121 rfl 3 rfl ?_
              obtain ⟨hi9, h⟩ := gd_inv h
              refine V_iald C 35 0 m_35 (fun _ => rfl) (inb_in hi9) dX8_evaluate_122 ?_
              refine V_iconst C (4 : Int32) dX8_evaluate_123 (by decide) ?_
              refine V_icmp_ne C (tgt := 149) dX8_evaluate_124 (by decide) (fun hc => ?_) (fun hc => ?_)
              · replace h := (if_neg hc).symm.trans h
                refine V_aload_n C 0 dX8_evaluate_149 rfl 0 rfl ?_
                refine V_iload_n C 2 dX8_evaluate_150 rfl 2 rfl ?_
                refine V_bipush C (19 : Int32) dX8_evaluate_151 (by decide) ?_
                obtain ⟨u_13, μ_14, hv, h⟩ := bW_inv h
                refine V_callVo C 30 0 m_30 none (con_X8_copy hl a2_6 (19 : Int32) hv) tb_X8_copy lk_RX8_138 rfl rfl rfl (by decide) (by decide) rfl (Nat.le_of_ble_eq_true rfl) rfl dX8_evaluate_153 rfl ?_
                clear hv
                refine V_aload_n C 0 dX8_evaluate_156 rfl 0 rfl ?_
                refine V_aload_n C 0 dX8_evaluate_157 rfl 0 rfl ?_
                refine V_getf (v := .ref (E.1 36 0)) C 30 0 m_30 fl_RX8_25 rfl rfl dX8_evaluate_158 ?_
                refine V_iload_n C 3 dX8_evaluate_161 rfl 3 rfl ?_
                obtain ⟨hi9, h⟩ := gd_inv h
                refine V_iald C 36 0 m_36 (fun _ => rfl) (inb_in hi9) dX8_evaluate_162 ?_
                obtain ⟨v_15, μ_16, hv, h⟩ := bW_inv h
                refine V_callVo C 30 0 m_30 (some (.int v_15)) (con_X8_single hl (μ_14 36 0 (a3_7).toNatClampNeg) hv) tb_X8_single lk_RX8_190 rfl rfl rfl (by decide) (by decide) rfl (Nat.le_of_ble_eq_true rfl) rfl dX8_evaluate_163 rfl ?_
                clear hv
                refine V_if_eq C (tgt := 186) dX8_evaluate_166 (by decide) (fun hc => ?_) (fun hc => ?_)
                · replace h := (if_pos hc).symm.trans h
                  refine V_sub (LP := [(0, .ref (E.1 30 0)), (1, .int c1_5), (2, .int a2_6), (3, .int a3_7)]) [0, 1, 2, 3] rfl ?_
                  exact J_11 _ _ _ h
                · replace h := (if_neg hc).symm.trans h
                  refine V_aload_n C 0 dX8_evaluate_169 rfl 0 rfl ?_
                  refine V_bipush C (8 : Int32) dX8_evaluate_170 (by decide) ?_
                  refine V_iload_n C 2 dX8_evaluate_172 rfl 2 rfl ?_
                  obtain ⟨u_17, μ_18, hv, h⟩ := bW_inv h
                  refine V_callVo C 30 0 m_30 none (con_X8_copy hl (8 : Int32) a2_6 hv) tb_X8_copy lk_RX8_138 rfl rfl rfl (by decide) (by decide) rfl (Nat.le_of_ble_eq_true rfl) rfl dX8_evaluate_173 rfl ?_
                  clear hv
                  refine V_aload_n C 0 dX8_evaluate_176 rfl 0 rfl ?_
                  refine V_aload_n C 0 dX8_evaluate_177 rfl 0 rfl ?_
                  refine V_getf (v := .int (μ_18 30 0 18)) C 30 0 m_30 fl_RX8_180 rfl rfl dX8_evaluate_178 ?_
                  refine V_iconst C (1 : Int32) dX8_evaluate_181 (by decide) ?_
                  refine V_iadd C dX8_evaluate_182 ?_
                  refine V_putI C 30 0 m_30 fp_RX8_180 rfl rfl rfl rfl (Nat.le_of_ble_eq_true rfl) dX8_evaluate_183 ?_
                  refine V_memn (fun μ_19 hn9 => ?_)
                  replace h := lt_eq hn9 h; clear hn9
                  refine V_sub (LP := [(0, .ref (E.1 30 0)), (1, .int c1_5), (2, .int a2_6), (3, .int a3_7)]) [0, 1, 2, 3] rfl ?_
                  exact J_11 _ _ _ h
              · replace h := (if_pos hc).symm.trans h
                refine V_aload_n C 0 dX8_evaluate_127 rfl 0 rfl ?_
                refine V_getf (v := .ref (E.1 40 0)) C 30 0 m_30 fl_RX8_38 rfl rfl dX8_evaluate_128 ?_
                refine V_iload_n C 2 dX8_evaluate_131 rfl 2 rfl ?_
                refine V_iconst C (1 : Int32) dX8_evaluate_132 (by decide) ?_
                obtain ⟨hi9, h⟩ := gd_inv h
                refine V_zast C 40 0 m_40 (fun _ => rfl) (inb_in hi9) dX8_evaluate_133 ?_
                refine V_memn (fun μ_20 hn9 => ?_)
                replace h := lt_eq hn9 h; clear hn9
                refine V_aload_n C 0 dX8_evaluate_134 rfl 0 rfl ?_
                refine V_getf (v := .ref (E.1 41 0)) C 30 0 m_30 fl_RX8_41 rfl rfl dX8_evaluate_135 ?_
                refine V_iload_n C 2 dX8_evaluate_138 rfl 2 rfl ?_
                refine V_aload_n C 0 dX8_evaluate_139 rfl 0 rfl ?_
                refine V_getf (v := .ref (E.1 36 0)) C 30 0 m_30 fl_RX8_25 rfl rfl dX8_evaluate_140 ?_
                refine V_iload_n C 3 dX8_evaluate_143 rfl 3 rfl ?_
                obtain ⟨hi9, h⟩ := gd_inv h
                refine V_iald C 36 0 m_36 (fun _ => rfl) (inb_in hi9) dX8_evaluate_144 ?_
                obtain ⟨hi9, h⟩ := gd_inv h
                refine V_iast C 41 0 m_41 (fun _ => rfl) (inb_in hi9) dX8_evaluate_145 ?_
                refine V_memn (fun μ_21 hn9 => ?_)
                replace h := lt_eq hn9 h; clear hn9
                refine V_goto C (tgt := 186) dX8_evaluate_146 (by decide) ?_
                refine V_sub (LP := [(0, .ref (E.1 30 0)), (1, .int c1_5), (2, .int a2_6), (3, .int a3_7)]) [0, 1, 2, 3] rfl ?_
                exact J_11 _ _ _ h
            · replace h := (if_pos hc).symm.trans h
              refine V_aload_n C 0 dX8_evaluate_98 rfl 0 rfl ?_
              refine V_iload_n C 2 dX8_evaluate_99 rfl 2 rfl ?_
              refine V_bipush C (7 : Int32) dX8_evaluate_100 (by decide) ?_
              obtain ⟨u_22, μ_23, hv, h⟩ := bW_inv h
              refine V_callVo C 30 0 m_30 none (con_X8_copy hl a2_6 (7 : Int32) hv) tb_X8_copy lk_RX8_138 rfl rfl rfl (by decide) (by decide) rfl (Nat.le_of_ble_eq_true rfl) rfl dX8_evaluate_102 rfl ?_
              clear hv
              refine V_iload_n C 2 dX8_evaluate_105 rfl 2 rfl ?_
              refine V_iconst C (1 : Int32) dX8_evaluate_106 (by decide) ?_
              refine V_isub C dX8_evaluate_107 ?_
              refine V_topi (fun x_24 hn9 => ?_)
              replace h := lt_eq hn9 h; clear hn9
              refine V_istore_n (L' := [(0, .ref (E.1 30 0)), (1, .int c1_5), (2, .int x_24), (3, .int a3_7)]) C 2 dX8_evaluate_108 rfl (by decide) [1, 2, 0, 3] rfl ?_
              refine V_aload_n C 0 dX8_evaluate_109 rfl 0 rfl ?_
              refine V_iload_n C 2 dX8_evaluate_110 rfl 2 rfl ?_
              obtain ⟨u_25, μ_26, hv, h⟩ := bW_inv h
              refine V_callVo C 30 0 m_30 none (con_X8_arrive hl x_24 hv) tb_X8_arrive lk_RX8_186 rfl rfl rfl (by decide) (by decide) rfl (Nat.le_of_ble_eq_true rfl) rfl dX8_evaluate_111 rfl ?_
              clear hv
              refine V_goto C (tgt := 186) dX8_evaluate_114 (by decide) ?_
              refine V_sub (LP := [(0, .ref (E.1 30 0)), (1, .int c1_5), (2, .int x_24), (3, .int a3_7)]) [0, 1, 2, 3] rfl ?_
              exact J_11 _ _ _ h
          · replace h := (if_pos hc).symm.trans h
            refine V_iload_n C 2 dX8_evaluate_74 rfl 2 rfl ?_
            refine V_iconst C (1 : Int32) dX8_evaluate_75 (by decide) ?_
            refine V_iadd C dX8_evaluate_76 ?_
            refine V_topi (fun x_27 hn9 => ?_)
            replace h := lt_eq hn9 h; clear hn9
            refine V_istore_n (L' := [(0, .ref (E.1 30 0)), (1, .int c1_5), (2, .int x_27), (3, .int a3_7)]) C 2 dX8_evaluate_77 rfl (by decide) [1, 2, 0, 3] rfl ?_
            refine V_aload_n C 0 dX8_evaluate_78 rfl 0 rfl ?_
            refine V_getf (v := .ref (E.1 40 0)) C 30 0 m_30 fl_RX8_38 rfl rfl dX8_evaluate_79 ?_
            refine V_iload_n C 2 dX8_evaluate_82 rfl 2 rfl ?_
            refine V_iconst C (0 : Int32) dX8_evaluate_83 (by decide) ?_
            obtain ⟨hi9, h⟩ := gd_inv h
            refine V_zast C 40 0 m_40 (fun _ => rfl) (inb_in hi9) dX8_evaluate_84 ?_
            refine V_memn (fun μ_28 hn9 => ?_)
            replace h := lt_eq hn9 h; clear hn9
            refine V_goto C (tgt := 186) dX8_evaluate_85 (by decide) ?_
            refine V_sub (LP := [(0, .ref (E.1 30 0)), (1, .int c1_5), (2, .int x_27), (3, .int a3_7)]) [0, 1, 2, 3] rfl ?_
            exact J_11 _ _ _ h
        · replace h := (if_neg hc).symm.trans h
          refine V_aload_n C 0 dX8_evaluate_48 rfl 0 rfl ?_
          refine V_iload_n C 3 dX8_evaluate_49 rfl 3 rfl ?_
          obtain ⟨v_29, μ_30, hv, h⟩ := bW_inv h
          refine V_callVo C 30 0 m_30 (some (.int v_29)) (con_X8_term hl a3_7 hv) tb_X8_term lk_RX8_183 rfl rfl rfl (by decide) (by decide) rfl (Nat.le_of_ble_eq_true rfl) rfl dX8_evaluate_50 rfl ?_
          clear hv
          refine V_if_eq C (tgt := 186) dX8_evaluate_53 (by decide) (fun hc => ?_) (fun hc => ?_)
          · replace h := (if_pos hc).symm.trans h
            refine V_sub (LP := [(0, .ref (E.1 30 0)), (1, .int c1_5), (2, .int a2_6), (3, .int a3_7)]) [0, 1, 2, 3] rfl ?_
            exact J_11 _ _ _ h
          · replace h := (if_neg hc).symm.trans h
            refine V_aload_n C 0 dX8_evaluate_56 rfl 0 rfl ?_
            refine V_iload_n C 2 dX8_evaluate_57 rfl 2 rfl ?_
            obtain ⟨u_31, μ_32, hv, h⟩ := bW_inv h
            refine V_callVo C 30 0 m_30 none (con_X8_arrive hl a2_6 hv) tb_X8_arrive lk_RX8_186 rfl rfl rfl (by decide) (by decide) rfl (Nat.le_of_ble_eq_true rfl) rfl dX8_evaluate_58 rfl ?_
            clear hv
            refine V_goto C (tgt := 186) dX8_evaluate_61 (by decide) ?_
            refine V_sub (LP := [(0, .ref (E.1 30 0)), (1, .int c1_5), (2, .int a2_6), (3, .int a3_7)]) [0, 1, 2, 3] rfl ?_
            exact J_11 _ _ _ h
set_option maxHeartbeats 4000000 in
set_option maxRecDepth 100000 in
theorem con_X8_evaluate {l : Launch} {E : WE} (hl : l.stackTraces = false) (a1 : Int32)  {μ : Mem} {x} (h : f_X8_evaluate a1 μ = some x) : Con l E lvM yX8_evaluate cX8_evaluate 4 none 6 [.ref (E.1 30 0), .int a1] μ (rWu x) := by
  refine Con.of (by decide) hl (Nat.le_of_ble_eq_true rfl) (fun Y C => ?_)
  replace C : Ok Y l E lvM 4 RX8 cX8_evaluate none 6 := C
  show V Y l E lvM 4 (rWu x) 0 [(0, .ref (E.1 30 0)), (1, .int a1)] [] μ
  unfold f_X8_evaluate at h
  refine V_iconst C (0 : Int32) dX8_evaluate_0 (by decide) ?_
  refine V_istore_n (L' := [(0, .ref (E.1 30 0)), (1, .int a1), (2, .int (0 : Int32))]) C 2 dX8_evaluate_1 rfl (by decide) [1, 2, 0] rfl ?_
  refine V_aload_n C 0 dX8_evaluate_2 rfl 0 rfl ?_
  refine V_iconst C (0 : Int32) dX8_evaluate_3 (by decide) ?_
  refine V_putI C 30 0 m_30 fp_RX8_92 rfl rfl rfl rfl (Nat.le_of_ble_eq_true rfl) dX8_evaluate_4 ?_
  refine V_memn (fun μ_1 hn9 => ?_)
  replace h := lt_eq hn9 h; clear hn9
  refine V_aload_n C 0 dX8_evaluate_7 rfl 0 rfl ?_
  refine V_iconst C (0 : Int32) dX8_evaluate_8 (by decide) ?_
  refine V_putI C 30 0 m_30 fp_RX8_180 rfl rfl rfl rfl (Nat.le_of_ble_eq_true rfl) dX8_evaluate_9 ?_
  refine V_memn (fun μ_2 hn9 => ?_)
  replace h := lt_eq hn9 h; clear hn9
  refine V_aload_n C 0 dX8_evaluate_12 rfl 0 rfl ?_
  refine V_getf (v := .ref (E.1 40 0)) C 30 0 m_30 fl_RX8_38 rfl rfl dX8_evaluate_13 ?_
  refine V_iconst C (0 : Int32) dX8_evaluate_16 (by decide) ?_
  refine V_iconst C (0 : Int32) dX8_evaluate_17 (by decide) ?_
  obtain ⟨hi9, h⟩ := gd_inv h
  refine V_zast C 40 0 m_40 (fun _ => rfl) (inb_in hi9) dX8_evaluate_18 ?_
  refine V_memn (fun μ_3 hn9 => ?_)
  replace h := lt_eq hn9 h; clear hn9
  refine V_aload_n C 0 dX8_evaluate_19 rfl 0 rfl ?_
  refine V_getf (v := .int (μ_3 30 0 9)) C 30 0 m_30 fl_RX8_57 rfl rfl dX8_evaluate_20 ?_
  refine V_iconst C (1 : Int32) dX8_evaluate_23 (by decide) ?_
  refine V_isub C dX8_evaluate_24 ?_
  refine V_topi (fun x_4 hn9 => ?_)
  replace h := lt_eq hn9 h; clear hn9
  refine V_istore_n (L' := [(0, .ref (E.1 30 0)), (1, .int a1), (2, .int (0 : Int32)), (3, .int x_4)]) C 3 dX8_evaluate_25 rfl (by decide) [1, 2, 3, 0] rfl ?_
  refine V_sub (LP := [(0, .ref (E.1 30 0)), (1, .int a1), (2, .int (0 : Int32)), (3, .int x_4)]) [0, 1, 2, 3] rfl ?_
  refine lp_X8_evaluate_26 hl C a1 (fun μ_34 x h => ?_) 1000 _ _ _ h
  cases h
  exact V_return C rfl rfl dX8_evaluate_192
set_option maxHeartbeats 4000000 in
set_option maxRecDepth 100000 in
theorem con_X8_target {l : Launch} {E : WE} (hl : l.stackTraces = false)   {μ : Mem} {x} (h : f_X8_target  μ = some x) : Con l E lvM yX8_target cX8_target 2 (some .int) 1 [.ref (E.1 30 0)] μ (rWi x) := by
  refine Con.of (by decide) hl (Nat.le_of_ble_eq_true rfl) (fun Y C => ?_)
  replace C : Ok Y l E lvM 2 RX8 cX8_target (some .int) 1 := C
  show V Y l E lvM 2 (rWi x) 0 [(0, .ref (E.1 30 0))] [] μ
  unfold f_X8_target at h
  refine V_aload_n C 0 dX8_target_0 rfl 0 rfl ?_
  refine V_iconst C (0 : Int32) dX8_target_1 (by decide) ?_
  refine V_putI C 30 0 m_30 fp_RX8_54 rfl rfl rfl rfl (Nat.le_of_ble_eq_true rfl) dX8_target_2 ?_
  refine V_memn (fun μ_1 hn9 => ?_)
  replace h := lt_eq hn9 h; clear hn9
  refine V_aload_n C 0 dX8_target_5 rfl 0 rfl ?_
  obtain ⟨v_2, μ_3, hv, h⟩ := bW_inv h
  refine V_callVo C 30 0 m_30 (some (.int v_2)) (con_X8_ahead hl hv) tb_X8_ahead lk_RX8_63 rfl rfl rfl (by decide) (by decide) rfl (Nat.le_of_ble_eq_true rfl) rfl dX8_target_6 rfl ?_
  clear hv
  refine V_istore_n (L' := [(0, .ref (E.1 30 0)), (1, .int v_2)]) C 1 dX8_target_9 rfl (by decide) [1, 0] rfl ?_
  refine V_iload_n C 1 dX8_target_10 rfl 1 rfl ?_
  refine V_bipush C (65 : Int32) dX8_target_11 (by decide) ?_
  refine V_icmp_lt C (tgt := 22) dX8_target_13 (by decide) (fun hc => ?_) (fun hc => ?_)
  · replace h := (if_pos hc).symm.trans h
    refine V_iconst C (-1 : Int32) dX8_target_22 (by decide) ?_
    cases h
    exact V_ireturn C rfl rfl rfl dX8_target_23
  · replace h := (if_neg hc).symm.trans h
    refine V_iload_n C 1 dX8_target_16 rfl 1 rfl ?_
    refine V_bipush C (72 : Int32) dX8_target_17 (by decide) ?_
    refine V_icmp_le C (tgt := 24) dX8_target_19 (by decide) (fun hc => ?_) (fun hc => ?_)
    · replace h := (if_pos hc).symm.trans h
      refine V_aload_n C 0 dX8_target_24 rfl 0 rfl ?_
      refine V_aload_n C 0 dX8_target_25 rfl 0 rfl ?_
      refine V_getf (v := .int (μ_3 30 0 11)) C 30 0 m_30 fl_RX8_54 rfl rfl dX8_target_26 ?_
      refine V_iconst C (1 : Int32) dX8_target_29 (by decide) ?_
      refine V_iadd C dX8_target_30 ?_
      refine V_putI C 30 0 m_30 fp_RX8_54 rfl rfl rfl rfl (Nat.le_of_ble_eq_true rfl) dX8_target_31 ?_
      refine V_memn (fun μ_4 hn9 => ?_)
      replace h := lt_eq hn9 h; clear hn9
      refine V_aload_n C 0 dX8_target_34 rfl 0 rfl ?_
      obtain ⟨v_5, μ_6, hv, h⟩ := bW_inv h
      refine V_callVo C 30 0 m_30 (some (.int v_5)) (con_X8_ahead hl hv) tb_X8_ahead lk_RX8_63 rfl rfl rfl (by decide) (by decide) rfl (Nat.le_of_ble_eq_true rfl) rfl dX8_target_35 rfl ?_
      clear hv
      refine V_bipush C (58 : Int32) dX8_target_38 (by decide) ?_
      refine V_icmp_ne C (tgt := 58) dX8_target_40 (by decide) (fun hc => ?_) (fun hc => ?_)
      · replace h := (if_neg hc).symm.trans h
        refine V_aload_n C 0 dX8_target_58 rfl 0 rfl ?_
        refine V_iconst C (0 : Int32) dX8_target_59 (by decide) ?_
        refine V_putI C 30 0 m_30 fp_RX8_54 rfl rfl rfl rfl (Nat.le_of_ble_eq_true rfl) dX8_target_60 ?_
        refine V_memn (fun μ_7 hn9 => ?_)
        replace h := lt_eq hn9 h; clear hn9
        refine V_iconst C (-1 : Int32) dX8_target_63 (by decide) ?_
        cases h
        exact V_ireturn C rfl rfl rfl dX8_target_64
      · replace h := (if_pos hc).symm.trans h
        refine V_aload_n C 0 dX8_target_43 rfl 0 rfl ?_
        refine V_aload_n C 0 dX8_target_44 rfl 0 rfl ?_
        refine V_getf (v := .int (μ_6 30 0 11)) C 30 0 m_30 fl_RX8_54 rfl rfl dX8_target_45 ?_
        refine V_iconst C (1 : Int32) dX8_target_48 (by decide) ?_
        refine V_iadd C dX8_target_49 ?_
        refine V_putI C 30 0 m_30 fp_RX8_54 rfl rfl rfl rfl (Nat.le_of_ble_eq_true rfl) dX8_target_50 ?_
        refine V_memn (fun μ_8 hn9 => ?_)
        replace h := lt_eq hn9 h; clear hn9
        refine V_iload_n C 1 dX8_target_53 rfl 1 rfl ?_
        refine V_bipush C (65 : Int32) dX8_target_54 (by decide) ?_
        refine V_isub C dX8_target_56 ?_
        cases h
        exact V_ireturn C rfl rfl rfl dX8_target_57
    · replace h := (if_neg hc).symm.trans h
      refine V_iconst C (-1 : Int32) dX8_target_22 (by decide) ?_
      cases h
      exact V_ireturn C rfl rfl rfl dX8_target_23
set_option maxHeartbeats 4000000 in
set_option maxRecDepth 100000 in
theorem con_X8_run {l : Launch} {E : WE} (hl : l.stackTraces = false)   {μ : Mem} {x} (h : f_X8_run  μ = some x) : Con l E lvM yX8_run cX8_run 2 (some .int) 7 [.ref (E.1 30 0)] μ (rWi x) := by
  refine Con.of (by decide) hl (Nat.le_of_ble_eq_true rfl) (fun Y C => ?_)
  replace C : Ok Y l E lvM 2 RX8 cX8_run (some .int) 7 := C
  show V Y l E lvM 2 (rWi x) 0 [(0, .ref (E.1 30 0))] [] μ
  unfold f_X8_run at h
  refine V_aload_n C 0 dX8_run_0 rfl 0 rfl ?_
  refine V_iconst C (0 : Int32) dX8_run_1 (by decide) ?_
  refine V_putI C 30 0 m_30 fp_RX8_47 rfl rfl rfl rfl (Nat.le_of_ble_eq_true rfl) dX8_run_2 ?_
  refine V_memn (fun μ_1 hn9 => ?_)
  replace h := lt_eq hn9 h; clear hn9
  refine V_aload_n C 0 dX8_run_5 rfl 0 rfl ?_
  refine V_iconst C (0 : Int32) dX8_run_6 (by decide) ?_
  refine V_putI C 30 0 m_30 fp_RX8_57 rfl rfl rfl rfl (Nat.le_of_ble_eq_true rfl) dX8_run_7 ?_
  refine V_memn (fun μ_2 hn9 => ?_)
  replace h := lt_eq hn9 h; clear hn9
  refine V_aload_n C 0 dX8_run_10 rfl 0 rfl ?_
  refine V_iconst C (0 : Int32) dX8_run_11 (by decide) ?_
  refine V_putI C 30 0 m_30 fp_RX8_60 rfl rfl rfl rfl (Nat.le_of_ble_eq_true rfl) dX8_run_12 ?_
  refine V_memn (fun μ_3 hn9 => ?_)
  replace h := lt_eq hn9 h; clear hn9
  refine V_aload_n C 0 dX8_run_15 rfl 0 rfl ?_
  obtain ⟨v_4, μ_5, hv, h⟩ := bW_inv h
  refine V_callVo C 30 0 m_30 (some (.int v_4)) (con_X8_target hl hv) tb_X8_target lk_RX8_193 rfl rfl rfl (by decide) (by decide) rfl (Nat.le_of_ble_eq_true rfl) rfl dX8_run_16 rfl ?_
  clear hv
  refine V_istore_n (L' := [(0, .ref (E.1 30 0)), (1, .int v_4)]) C 1 dX8_run_19 rfl (by decide) [1, 0] rfl ?_
  refine V_aload_n C 0 dX8_run_20 rfl 0 rfl ?_
  obtain ⟨v_6, μ_7, hv, h⟩ := bW_inv h
  refine V_callVo C 30 0 m_30 (some (.int v_6)) (con_X8_read hl hv) tb_X8_read lk_RX8_196 rfl rfl rfl (by decide) (by decide) rfl (Nat.le_of_ble_eq_true rfl) rfl dX8_run_21 rfl ?_
  clear hv
  refine V_if_ne C (tgt := 29) dX8_run_24 (by decide) (fun hc => ?_) (fun hc => ?_)
  · replace h := (if_neg hc).symm.trans h
    refine V_aload_n C 0 dX8_run_29 rfl 0 rfl ?_
    refine V_iconst C (0 : Int32) dX8_run_30 (by decide) ?_
    obtain ⟨u_8, μ_9, hv, h⟩ := bW_inv h
    refine V_callVo C 30 0 m_30 none (con_X8_evaluate hl (0 : Int32) hv) tb_X8_evaluate lk_RX8_199 rfl rfl rfl (by decide) (by decide) rfl (Nat.le_of_ble_eq_true rfl) rfl dX8_run_31 rfl ?_
    clear hv
    refine V_aload_n C 0 dX8_run_34 rfl 0 rfl ?_
    refine V_aload_n C 0 dX8_run_35 rfl 0 rfl ?_
    refine V_getf (v := .int (μ_9 30 0 16)) C 30 0 m_30 fl_RX8_92 rfl rfl dX8_run_36 ?_
    refine V_putI C 30 0 m_30 fp_RX8_47 rfl rfl rfl rfl (Nat.le_of_ble_eq_true rfl) dX8_run_39 ?_
    refine V_memn (fun μ_10 hn9 => ?_)
    replace h := lt_eq hn9 h; clear hn9
    refine V_aload_n C 0 dX8_run_42 rfl 0 rfl ?_
    refine V_getf (v := .int (μ_10 30 0 16)) C 30 0 m_30 fl_RX8_92 rfl rfl dX8_run_43 ?_
    refine V_if_le C (tgt := 51) dX8_run_46 (by decide) (fun hc => ?_) (fun hc => ?_)
    · replace h := (if_pos hc).symm.trans h
      refine V_aload_n C 0 dX8_run_51 rfl 0 rfl ?_
      refine V_iconst C (0 : Int32) dX8_run_52 (by decide) ?_
      refine V_bipush C (17 : Int32) dX8_run_53 (by decide) ?_
      obtain ⟨u_11, μ_12, hv, h⟩ := bW_inv h
      refine V_callVo C 30 0 m_30 none (con_X8_copy hl (0 : Int32) (17 : Int32) hv) tb_X8_copy lk_RX8_138 rfl rfl rfl (by decide) (by decide) rfl (Nat.le_of_ble_eq_true rfl) rfl dX8_run_55 rfl ?_
      clear hv
      refine V_iload_n C 1 dX8_run_58 rfl 1 rfl ?_
      obtain ⟨j_14, hj_14, h⟩ := jn_ex h
      have J_14 : ∀ (μ_13 : Mem) x, j_14 μ_13 = some x → V Y l E lvM 2 (rWi x) 71 [(0, .ref (E.1 30 0))] [] μ_13 := by
        intro μ_13  x h
        rw [hj_14] at h; clear hj_14
        refine V_aload_n C 0 dX8_run_71 rfl 0 rfl ?_
        refine V_bipush C (17 : Int32) dX8_run_72 (by decide) ?_
        obtain ⟨v_15, hv, h⟩ := bP_inv h
        refine V_callVo C 30 0 m_30 (some (.int v_15)) (con_X8_sizeOf hl (17 : Int32) hv) tb_X8_sizeOf lk_RX8_98 rfl rfl rfl (by decide) (by decide) rfl (Nat.le_of_ble_eq_true rfl) rfl dX8_run_74 rfl ?_
        clear hv
        cases h
        exact V_ireturn C rfl rfl rfl dX8_run_77
      clear hj_14
      refine V_if_lt C (tgt := 71) dX8_run_59 (by decide) (fun hc => ?_) (fun hc => ?_)
      · replace h := (if_pos hc).symm.trans h
        refine V_sub (LP := [(0, .ref (E.1 30 0))]) [0] rfl ?_
        exact J_14 _ _ h
      · replace h := (if_neg hc).symm.trans h
        refine V_aload_n C 0 dX8_run_62 rfl 0 rfl ?_
        refine V_iconst C (0 : Int32) dX8_run_63 (by decide) ?_
        refine V_bipush C (9 : Int32) dX8_run_64 (by decide) ?_
        refine V_iload_n C 1 dX8_run_66 rfl 1 rfl ?_
        refine V_iadd C dX8_run_67 ?_
        obtain ⟨u_16, μ_17, hv, h⟩ := bW_inv h
        refine V_callVo C 30 0 m_30 none (con_X8_copy hl (0 : Int32) ((9 : Int32) + v_4) hv) tb_X8_copy lk_RX8_138 rfl rfl rfl (by decide) (by decide) rfl (Nat.le_of_ble_eq_true rfl) rfl dX8_run_68 rfl ?_
        clear hv
        refine V_sub (LP := [(0, .ref (E.1 30 0))]) [0] rfl ?_
        exact J_14 _ _ h
    · replace h := (if_neg hc).symm.trans h
      refine V_iconst C (0 : Int32) dX8_run_49 (by decide) ?_
      cases h
      exact V_ireturn C rfl rfl rfl dX8_run_50
  · replace h := (if_pos hc).symm.trans h
    refine V_iconst C (-1 : Int32) dX8_run_27 (by decide) ?_
    cases h
    exact V_ireturn C rfl rfl rfl dX8_run_28
set_option maxHeartbeats 4000000 in
set_option maxRecDepth 100000 in
theorem con_X8_rank {l : Launch} {E : WE} (hl : l.stackTraces = false)   {μ : Mem} {x} (h : f_X8_rank  μ = some x) : Con l E lvM yX8_rank cX8_rank 1 (some .int) 0 [.ref (E.1 30 0)] μ (rWi x) := by
  refine Con.of (by decide) hl (Nat.le_of_ble_eq_true rfl) (fun Y C => ?_)
  replace C : Ok Y l E lvM 1 RX8 cX8_rank (some .int) 0 := C
  show V Y l E lvM 1 (rWi x) 0 [(0, .ref (E.1 30 0))] [] μ
  unfold f_X8_rank at h
  refine V_aload_n C 0 dX8_rank_0 rfl 0 rfl ?_
  refine V_iconst C (0 : Int32) dX8_rank_1 (by decide) ?_
  refine V_putI C 30 0 m_30 fp_RX8_47 rfl rfl rfl rfl (Nat.le_of_ble_eq_true rfl) dX8_rank_2 ?_
  refine V_memn (fun μ_1 hn9 => ?_)
  replace h := lt_eq hn9 h; clear hn9
  refine V_aload_n C 0 dX8_rank_5 rfl 0 rfl ?_
  refine V_getf (v := .ref (E.1 32 0)) C 30 0 m_30 fl_RX8_13 rfl rfl dX8_rank_6 ?_
  refine V_bipush C (17 : Int32) dX8_rank_9 (by decide) ?_
  obtain ⟨hi9, h⟩ := gd_inv h
  refine V_iald C 32 0 m_32 (fun _ => rfl) (inb_in hi9) dX8_rank_11 ?_
  cases h
  exact V_ireturn C rfl rfl rfl dX8_rank_12
set_option maxHeartbeats 4000000 in
set_option maxRecDepth 100000 in
theorem con_X8_axis {l : Launch} {E : WE} (hl : l.stackTraces = false) (a1 : Int32)  {μ : Mem} {x} (h : f_X8_axis a1 μ = some x) : Con l E lvM yX8_axis cX8_axis 2 (some .int) 1 [.ref (E.1 30 0), .int a1] μ (rWi x) := by
  refine Con.of (by decide) hl (Nat.le_of_ble_eq_true rfl) (fun Y C => ?_)
  replace C : Ok Y l E lvM 2 RX8 cX8_axis (some .int) 1 := C
  show V Y l E lvM 2 (rWi x) 0 [(0, .ref (E.1 30 0)), (1, .int a1)] [] μ
  unfold f_X8_axis at h
  refine V_aload_n C 0 dX8_axis_0 rfl 0 rfl ?_
  refine V_iconst C (0 : Int32) dX8_axis_1 (by decide) ?_
  refine V_putI C 30 0 m_30 fp_RX8_47 rfl rfl rfl rfl (Nat.le_of_ble_eq_true rfl) dX8_axis_2 ?_
  refine V_memn (fun μ_1 hn9 => ?_)
  replace h := lt_eq hn9 h; clear hn9
  refine V_iload_n C 1 dX8_axis_5 rfl 1 rfl ?_
  obtain ⟨j_2, hj_2, h⟩ := jn_ex h
  have J_2 : ∀ (_ : Unit) x, j_2 () = some x → V Y l E lvM 2 (rWi x) 20 [] [] μ_1 := by
    intro _  x h
    rw [hj_2] at h; clear hj_2
    refine V_iconst C (-1 : Int32) dX8_axis_20 (by decide) ?_
    refine V_goto C (tgt := 31) dX8_axis_21 (by decide) ?_
    cases h
    exact V_ireturn C rfl rfl rfl dX8_axis_31
  clear hj_2
  refine V_if_lt C (tgt := 20) dX8_axis_6 (by decide) (fun hc => ?_) (fun hc => ?_)
  · replace h := (if_pos hc).symm.trans h
    refine V_sub (LP := []) [] rfl ?_
    exact J_2 () _ h
  · replace h := (if_neg hc).symm.trans h
    refine V_iload_n C 1 dX8_axis_9 rfl 1 rfl ?_
    refine V_aload_n C 0 dX8_axis_10 rfl 0 rfl ?_
    refine V_getf (v := .ref (E.1 32 0)) C 30 0 m_30 fl_RX8_13 rfl rfl dX8_axis_11 ?_
    refine V_bipush C (17 : Int32) dX8_axis_14 (by decide) ?_
    obtain ⟨hi9, h⟩ := gd_inv h
    refine V_iald C 32 0 m_32 (fun _ => rfl) (inb_in hi9) dX8_axis_16 ?_
    refine V_icmp_lt C (tgt := 24) dX8_axis_17 (by decide) (fun hc => ?_) (fun hc => ?_)
    · replace h := (if_pos hc).symm.trans h
      refine V_aload_n C 0 dX8_axis_24 rfl 0 rfl ?_
      refine V_bipush C (17 : Int32) dX8_axis_25 (by decide) ?_
      refine V_iload_n C 1 dX8_axis_27 rfl 1 rfl ?_
      obtain ⟨v_3, hv, h⟩ := bP_inv h
      refine V_callVo C 30 0 m_30 (some (.int v_3)) (con_X8_axisOf hl (17 : Int32) a1 hv) tb_X8_axisOf lk_RX8_88 rfl rfl rfl (by decide) (by decide) rfl (Nat.le_of_ble_eq_true rfl) rfl dX8_axis_28 rfl ?_
      clear hv
      cases h
      exact V_ireturn C rfl rfl rfl dX8_axis_31
    · replace h := (if_neg hc).symm.trans h
      refine V_sub (LP := []) [] rfl ?_
      exact J_2 () _ h
set_option maxHeartbeats 4000000 in
set_option maxRecDepth 100000 in
theorem con_X8_size {l : Launch} {E : WE} (hl : l.stackTraces = false)   {μ : Mem} {x} (h : f_X8_size  μ = some x) : Con l E lvM yX8_size cX8_size 1 (some .int) 2 [.ref (E.1 30 0)] μ (rWi x) := by
  refine Con.of (by decide) hl (Nat.le_of_ble_eq_true rfl) (fun Y C => ?_)
  replace C : Ok Y l E lvM 1 RX8 cX8_size (some .int) 2 := C
  show V Y l E lvM 1 (rWi x) 0 [(0, .ref (E.1 30 0))] [] μ
  unfold f_X8_size at h
  refine V_aload_n C 0 dX8_size_0 rfl 0 rfl ?_
  refine V_iconst C (0 : Int32) dX8_size_1 (by decide) ?_
  refine V_putI C 30 0 m_30 fp_RX8_47 rfl rfl rfl rfl (Nat.le_of_ble_eq_true rfl) dX8_size_2 ?_
  refine V_memn (fun μ_1 hn9 => ?_)
  replace h := lt_eq hn9 h; clear hn9
  refine V_aload_n C 0 dX8_size_5 rfl 0 rfl ?_
  refine V_bipush C (17 : Int32) dX8_size_6 (by decide) ?_
  obtain ⟨v_2, hv, h⟩ := bP_inv h
  refine V_callVo C 30 0 m_30 (some (.int v_2)) (con_X8_sizeOf hl (17 : Int32) hv) tb_X8_sizeOf lk_RX8_98 rfl rfl rfl (by decide) (by decide) rfl (Nat.le_of_ble_eq_true rfl) rfl dX8_size_8 rfl ?_
  clear hv
  cases h
  exact V_ireturn C rfl rfl rfl dX8_size_11
set_option maxHeartbeats 4000000 in
set_option maxRecDepth 100000 in
theorem con_X8_element {l : Launch} {E : WE} (hl : l.stackTraces = false) (a1 : Int32)  {μ : Mem} {x} (h : f_X8_element a1 μ = some x) : Con l E lvM yX8_element cX8_element 2 (some .long) 2 [.ref (E.1 30 0), .int a1] μ (rWl x) := by
  refine Con.of (by decide) hl (Nat.le_of_ble_eq_true rfl) (fun Y C => ?_)
  replace C : Ok Y l E lvM 2 RX8 cX8_element (some .long) 2 := C
  show V Y l E lvM 2 (rWl x) 0 [(0, .ref (E.1 30 0)), (1, .int a1)] [] μ
  unfold f_X8_element at h
  refine V_aload_n C 0 dX8_element_0 rfl 0 rfl ?_
  refine V_iconst C (0 : Int32) dX8_element_1 (by decide) ?_
  refine V_putI C 30 0 m_30 fp_RX8_47 rfl rfl rfl rfl (Nat.le_of_ble_eq_true rfl) dX8_element_2 ?_
  refine V_memn (fun μ_1 hn9 => ?_)
  replace h := lt_eq hn9 h; clear hn9
  refine V_iload_n C 1 dX8_element_5 rfl 1 rfl ?_
  obtain ⟨j_2, hj_2, h⟩ := jn_ex h
  have J_2 : ∀ (_ : Unit) x, j_2 () = some x → V Y l E lvM 2 (rWl x) 19 [] [] μ_1 := by
    intro _  x h
    rw [hj_2] at h; clear hj_2
    refine V_ldc2 C (4294967296 : Int64) kl_RX8_202 dX8_element_19 ?_
    refine V_goto C (tgt := 33) dX8_element_22 (by decide) ?_
    cases h
    exact V_lreturn C rfl rfl dX8_element_33
  clear hj_2
  refine V_if_lt C (tgt := 19) dX8_element_6 (by decide) (fun hc => ?_) (fun hc => ?_)
  · replace h := (if_pos hc).symm.trans h
    refine V_sub (LP := []) [] rfl ?_
    exact J_2 () _ h
  · replace h := (if_neg hc).symm.trans h
    refine V_iload_n C 1 dX8_element_9 rfl 1 rfl ?_
    refine V_aload_n C 0 dX8_element_10 rfl 0 rfl ?_
    refine V_bipush C (17 : Int32) dX8_element_11 (by decide) ?_
    obtain ⟨v_3, hv, h⟩ := bP_inv h
    refine V_callVo C 30 0 m_30 (some (.int v_3)) (con_X8_sizeOf hl (17 : Int32) hv) tb_X8_sizeOf lk_RX8_98 rfl rfl rfl (by decide) (by decide) rfl (Nat.le_of_ble_eq_true rfl) rfl dX8_element_13 rfl ?_
    clear hv
    refine V_icmp_lt C (tgt := 25) dX8_element_16 (by decide) (fun hc => ?_) (fun hc => ?_)
    · replace h := (if_pos hc).symm.trans h
      refine V_aload_n C 0 dX8_element_25 rfl 0 rfl ?_
      refine V_bipush C (17 : Int32) dX8_element_26 (by decide) ?_
      refine V_iload_n C 1 dX8_element_28 rfl 1 rfl ?_
      obtain ⟨v_4, hv, h⟩ := bP_inv h
      refine V_callVo C 30 0 m_30 (some (.int v_4)) (con_X8_get hl (17 : Int32) a1 hv) tb_X8_get lk_RX8_119 rfl rfl rfl (by decide) (by decide) rfl (Nat.le_of_ble_eq_true rfl) rfl dX8_element_29 rfl ?_
      clear hv
      refine V_i2l C dX8_element_32 ?_
      cases h
      exact V_lreturn C rfl rfl dX8_element_33
    · replace h := (if_neg hc).symm.trans h
      refine V_sub (LP := []) [] rfl ?_
      exact J_2 () _ h
set_option maxHeartbeats 4000000 in
set_option maxRecDepth 100000 in
theorem lp_X8_sum_9 {Y : Mc} {l : Launch} {E : WE} (hl : l.stackTraces = false) (C : Ok Y l E lvM 4 RX8 cX8_sum (some .long) 2) {κ : Int64 → Option (Int64 × Mem)}  (μ_4 : Mem)  (hκ : ∀ (a1_9 : Int64) x, κ a1_9 = some x → V Y l E lvM 4 (rWl x) 36 [(1, .long a1_9)] [] μ_4) : ∀ (n : Nat) (a1_2 : Int64) (a3_3 : Int32) {x}, f_X8_sum_L9 κ  μ_4 n a1_2 a3_3 = some x → V Y l E lvM 4 (rWl x) 9 [(0, .ref (E.1 30 0)), (1, .long a1_2), (3, .int a3_3)] [] μ_4 := by
  intro n
  induction n with
  | zero =>
    intro a1_2 a3_3 x h
    simp [f_X8_sum_L9] at h
  | succ n ih =>
    intro a1_2 a3_3 x h
    rw [f_X8_sum_L9] at h
    refine V_iload_n C 3 dX8_sum_9 rfl 2 rfl ?_
    refine V_aload_n C 0 dX8_sum_10 rfl 0 rfl ?_
    refine V_bipush C (17 : Int32) dX8_sum_11 (by decide) ?_
    obtain ⟨v_5, hv, h⟩ := bP_inv h
    refine V_callVo C 30 0 m_30 (some (.int v_5)) (con_X8_sizeOf hl (17 : Int32) hv) tb_X8_sizeOf lk_RX8_98 rfl rfl rfl (by decide) (by decide) rfl (Nat.le_of_ble_eq_true rfl) rfl dX8_sum_13 rfl ?_
    clear hv
    refine V_icmp_ge C (tgt := 36) dX8_sum_16 (by decide) (fun hc => ?_) (fun hc => ?_)
    · replace h := (if_pos hc).symm.trans h
      refine V_sub (LP := [(1, .long a1_2)]) [1] rfl ?_
      exact hκ _ _ h
    · replace h := (if_neg hc).symm.trans h
      refine V_lload_n C 1 dX8_sum_19 rfl 1 rfl ?_
      refine V_aload_n C 0 dX8_sum_20 rfl 0 rfl ?_
      refine V_bipush C (17 : Int32) dX8_sum_21 (by decide) ?_
      refine V_iload_n C 3 dX8_sum_23 rfl 2 rfl ?_
      obtain ⟨v_6, hv, h⟩ := bP_inv h
      refine V_callVo C 30 0 m_30 (some (.int v_6)) (con_X8_get hl (17 : Int32) a3_3 hv) tb_X8_get lk_RX8_119 rfl rfl rfl (by decide) (by decide) rfl (Nat.le_of_ble_eq_true rfl) rfl dX8_sum_24 rfl ?_
      clear hv
      refine V_i2l C dX8_sum_27 ?_
      refine V_ladd C dX8_sum_28 ?_
      refine V_topl (fun x_7 hn9 => ?_)
      replace h := lt_eq hn9 h; clear hn9
      refine V_lstore_n (L' := [(0, .ref (E.1 30 0)), (1, .long x_7), (3, .int a3_3)]) C 1 dX8_sum_29 rfl (by decide) [1, 0, 2] rfl ?_
      obtain ⟨x_8, hn9⟩ : ∃ z : Int32, z = a3_3 + (1 : Int32) := ⟨_, rfl⟩
      replace h := lt_eq hn9 h
      refine V_iinc (L' := [(0, .ref (E.1 30 0)), (1, .long x_7), (3, .int x_8)]) C x_8 dX8_sum_30 2 rfl (by rw [hn9]; exact congrArg (a3_3 + ·) (by decide)) (by decide) [1, 2, 0] rfl ?_
      clear hn9
      refine V_goto C (tgt := 9) dX8_sum_33 (by decide) ?_
      refine V_sub (LP := [(0, .ref (E.1 30 0)), (1, .long x_7), (3, .int x_8)]) [0, 1, 2] rfl ?_
      exact ih _ _ h
set_option maxHeartbeats 4000000 in
set_option maxRecDepth 100000 in
theorem con_X8_sum {l : Launch} {E : WE} (hl : l.stackTraces = false)   {μ : Mem} {x} (h : f_X8_sum  μ = some x) : Con l E lvM yX8_sum cX8_sum 4 (some .long) 2 [.ref (E.1 30 0)] μ (rWl x) := by
  refine Con.of (by decide) hl (Nat.le_of_ble_eq_true rfl) (fun Y C => ?_)
  replace C : Ok Y l E lvM 4 RX8 cX8_sum (some .long) 2 := C
  show V Y l E lvM 4 (rWl x) 0 [(0, .ref (E.1 30 0))] [] μ
  unfold f_X8_sum at h
  refine V_aload_n C 0 dX8_sum_0 rfl 0 rfl ?_
  refine V_iconst C (0 : Int32) dX8_sum_1 (by decide) ?_
  refine V_putI C 30 0 m_30 fp_RX8_47 rfl rfl rfl rfl (Nat.le_of_ble_eq_true rfl) dX8_sum_2 ?_
  refine V_memn (fun μ_1 hn9 => ?_)
  replace h := lt_eq hn9 h; clear hn9
  refine V_lconst C (0 : Int64) dX8_sum_5 (by decide) ?_
  refine V_lstore_n (L' := [(0, .ref (E.1 30 0)), (1, .long (0 : Int64))]) C 1 dX8_sum_6 rfl (by decide) [1, 0] rfl ?_
  refine V_iconst C (0 : Int32) dX8_sum_7 (by decide) ?_
  refine V_istore_n (L' := [(0, .ref (E.1 30 0)), (1, .long (0 : Int64)), (3, .int (0 : Int32))]) C 3 dX8_sum_8 rfl (by decide) [1, 2, 0] rfl ?_
  refine V_sub (LP := [(0, .ref (E.1 30 0)), (1, .long (0 : Int64)), (3, .int (0 : Int32))]) [0, 1, 2] rfl ?_
  refine lp_X8_sum_9 hl C μ_1 (fun a1_10 x h => ?_) 1000 _ _ h
  refine V_lload_n C 1 dX8_sum_36 rfl 0 rfl ?_
  cases h
  exact V_lreturn C rfl rfl dX8_sum_37
set_option maxHeartbeats 4000000 in
set_option maxRecDepth 100000 in
theorem con_X8_held {l : Launch} {E : WE} (hl : l.stackTraces = false) (a1 : Int32)  {μ : Mem} {x} (h : f_X8_held a1 μ = some x) : Con l E lvM yX8_held cX8_held 2 (some .int) 2 [.ref (E.1 30 0), .int a1] μ (rWi x) := by
  refine Con.of (by decide) hl (Nat.le_of_ble_eq_true rfl) (fun Y C => ?_)
  replace C : Ok Y l E lvM 2 RX8 cX8_held (some .int) 2 := C
  show V Y l E lvM 2 (rWi x) 0 [(0, .ref (E.1 30 0)), (1, .int a1)] [] μ
  unfold f_X8_held at h
  refine V_aload_n C 0 dX8_held_0 rfl 0 rfl ?_
  refine V_iconst C (0 : Int32) dX8_held_1 (by decide) ?_
  refine V_putI C 30 0 m_30 fp_RX8_47 rfl rfl rfl rfl (Nat.le_of_ble_eq_true rfl) dX8_held_2 ?_
  refine V_memn (fun μ_1 hn9 => ?_)
  replace h := lt_eq hn9 h; clear hn9
  refine V_iload_n C 1 dX8_held_5 rfl 1 rfl ?_
  obtain ⟨j_2, hj_2, h⟩ := jn_ex h
  have J_2 : ∀ (_ : Unit) x, j_2 () = some x → V Y l E lvM 2 (rWi x) 27 [] [] μ_1 := by
    intro _  x h
    rw [hj_2] at h; clear hj_2
    refine V_iconst C (-1 : Int32) dX8_held_27 (by decide) ?_
    refine V_goto C (tgt := 39) dX8_held_28 (by decide) ?_
    cases h
    exact V_ireturn C rfl rfl rfl dX8_held_39
  clear hj_2
  refine V_if_lt C (tgt := 27) dX8_held_6 (by decide) (fun hc => ?_) (fun hc => ?_)
  · replace h := (if_pos hc).symm.trans h
    refine V_sub (LP := []) [] rfl ?_
    exact J_2 () _ h
  · replace h := (if_neg hc).symm.trans h
    refine V_iload_n C 1 dX8_held_9 rfl 1 rfl ?_
    refine V_bipush C (7 : Int32) dX8_held_10 (by decide) ?_
    refine V_icmp_gt C (tgt := 27) dX8_held_12 (by decide) (fun hc => ?_) (fun hc => ?_)
    · replace h := (if_pos hc).symm.trans h
      refine V_sub (LP := []) [] rfl ?_
      exact J_2 () _ h
    · replace h := (if_neg hc).symm.trans h
      refine V_aload_n C 0 dX8_held_15 rfl 0 rfl ?_
      refine V_getf (v := .ref (E.1 32 0)) C 30 0 m_30 fl_RX8_13 rfl rfl dX8_held_16 ?_
      refine V_bipush C (9 : Int32) dX8_held_19 (by decide) ?_
      refine V_iload_n C 1 dX8_held_21 rfl 1 rfl ?_
      refine V_iadd C dX8_held_22 ?_
      obtain ⟨hi9, h⟩ := gd_inv h
      refine V_iald C 32 0 m_32 (fun _ => rfl) (inb_in hi9) dX8_held_23 ?_
      refine V_if_ge C (tgt := 31) dX8_held_24 (by decide) (fun hc => ?_) (fun hc => ?_)
      · replace h := (if_pos hc).symm.trans h
        refine V_aload_n C 0 dX8_held_31 rfl 0 rfl ?_
        refine V_bipush C (9 : Int32) dX8_held_32 (by decide) ?_
        refine V_iload_n C 1 dX8_held_34 rfl 1 rfl ?_
        refine V_iadd C dX8_held_35 ?_
        obtain ⟨v_3, hv, h⟩ := bP_inv h
        refine V_callVo C 30 0 m_30 (some (.int v_3)) (con_X8_sizeOf hl ((9 : Int32) + a1) hv) tb_X8_sizeOf lk_RX8_98 rfl rfl rfl (by decide) (by decide) rfl (Nat.le_of_ble_eq_true rfl) rfl dX8_held_36 rfl ?_
        clear hv
        cases h
        exact V_ireturn C rfl rfl rfl dX8_held_39
      · replace h := (if_neg hc).symm.trans h
        refine V_sub (LP := []) [] rfl ?_
        exact J_2 () _ h
