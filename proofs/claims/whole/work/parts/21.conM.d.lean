set_option maxHeartbeats 4000000 in
set_option maxRecDepth 100000 in
theorem lp_X8_single_290 {Y : Mc} {l : Launch} {E : WE} (hl : l.stackTraces = false) (C : Ok Y l E lvM 8 RX8 cX8_single (some .boolean) 4) {κ : Mem → Option (Int32 × Mem)} (c2_9 : Int32)  (hκ : ∀  (μ_16 : Mem) x, κ  μ_16 = some x → V Y l E lvM 8 (rWi x) 318 [] [] μ_16) : ∀ (n : Nat) (a4_10 : Int32) (μ_11 : Mem) {x}, f_X8_single_L290 κ c2_9 n a4_10 μ_11 = some x → V Y l E lvM 8 (rWi x) 290 [(0, .ref (E.1 30 0)), (2, .int c2_9), (4, .int a4_10)] [] μ_11 := by
  intro n
  induction n with
  | zero =>
    intro a4_10 μ_11 x h
    simp [f_X8_single_L290] at h
  | succ n ih =>
    intro a4_10 μ_11 x h
    rw [f_X8_single_L290] at h
    refine V_iload C dX8_single_290 2 rfl ?_
    refine V_iload_n C 2 dX8_single_292 rfl 1 rfl ?_
    refine V_icmp_ge C (tgt := 318) dX8_single_293 (by decide) (fun hc => ?_) (fun hc => ?_)
    · replace h := (if_pos hc).symm.trans h
      refine V_sub (LP := []) [] rfl ?_
      exact hκ _ _ h
    · replace h := (if_neg hc).symm.trans h
      refine V_aload_n C 0 dX8_single_296 rfl 0 rfl ?_
      refine V_bipush C (8 : Int32) dX8_single_297 (by decide) ?_
      refine V_iload C dX8_single_299 2 rfl ?_
      refine V_aload_n C 0 dX8_single_301 rfl 0 rfl ?_
      refine V_bipush C (19 : Int32) dX8_single_302 (by decide) ?_
      refine V_iload C dX8_single_304 2 rfl ?_
      obtain ⟨v_12, hv, h⟩ := bP_inv h
      refine V_callVo C 30 0 m_30 (some (.int v_12)) (con_X8_get hl (19 : Int32) a4_10 hv) tb_X8_get lk_RX8_119 rfl rfl rfl (by decide) (by decide) rfl (Nat.le_of_ble_eq_true rfl) rfl dX8_single_306 rfl ?_
      clear hv
      obtain ⟨u_13, μ_14, hv, h⟩ := bW_inv h
      refine V_callVo C 30 0 m_30 none (con_X8_set hl (8 : Int32) a4_10 v_12 hv) tb_X8_set lk_RX8_122 rfl rfl rfl (by decide) (by decide) rfl (Nat.le_of_ble_eq_true rfl) rfl dX8_single_309 rfl ?_
      clear hv
      obtain ⟨x_15, hn9⟩ : ∃ z : Int32, z = a4_10 + (1 : Int32) := ⟨_, rfl⟩
      replace h := lt_eq hn9 h
      refine V_iinc (L' := [(0, .ref (E.1 30 0)), (2, .int c2_9), (4, .int x_15)]) C x_15 dX8_single_312 2 rfl (by rw [hn9]; exact congrArg (a4_10 + ·) (by decide)) (by decide) [1, 2, 0] rfl ?_
      clear hn9
      refine V_goto C (tgt := 290) dX8_single_315 (by decide) ?_
      refine V_sub (LP := [(0, .ref (E.1 30 0)), (2, .int c2_9), (4, .int x_15)]) [0, 1, 2] rfl ?_
      exact ih _ _ h
set_option maxHeartbeats 4000000 in
set_option maxRecDepth 100000 in
theorem lp_X8_single_238 {Y : Mc} {l : Launch} {E : WE} (hl : l.stackTraces = false) (C : Ok Y l E lvM 8 RX8 cX8_single (some .boolean) 4) {κ : Mem → Option (Int32 × Mem)} (c3_20 : Int32)  (hκ : ∀  (μ_27 : Mem) x, κ  μ_27 = some x → V Y l E lvM 8 (rWi x) 266 [] [] μ_27) : ∀ (n : Nat) (a4_21 : Int32) (μ_22 : Mem) {x}, f_X8_single_L238 κ c3_20 n a4_21 μ_22 = some x → V Y l E lvM 8 (rWi x) 238 [(0, .ref (E.1 30 0)), (3, .int c3_20), (4, .int a4_21)] [] μ_22 := by
  intro n
  induction n with
  | zero =>
    intro a4_21 μ_22 x h
    simp [f_X8_single_L238] at h
  | succ n ih =>
    intro a4_21 μ_22 x h
    rw [f_X8_single_L238] at h
    refine V_iload C dX8_single_238 2 rfl ?_
    refine V_iload_n C 3 dX8_single_240 rfl 1 rfl ?_
    refine V_icmp_ge C (tgt := 266) dX8_single_241 (by decide) (fun hc => ?_) (fun hc => ?_)
    · replace h := (if_pos hc).symm.trans h
      refine V_sub (LP := []) [] rfl ?_
      exact hκ _ _ h
    · replace h := (if_neg hc).symm.trans h
      refine V_aload_n C 0 dX8_single_244 rfl 0 rfl ?_
      refine V_bipush C (8 : Int32) dX8_single_245 (by decide) ?_
      refine V_iload C dX8_single_247 2 rfl ?_
      refine V_aload_n C 0 dX8_single_249 rfl 0 rfl ?_
      refine V_bipush C (19 : Int32) dX8_single_250 (by decide) ?_
      refine V_iload C dX8_single_252 2 rfl ?_
      obtain ⟨v_23, hv, h⟩ := bP_inv h
      refine V_callVo C 30 0 m_30 (some (.int v_23)) (con_X8_axisOf hl (19 : Int32) a4_21 hv) tb_X8_axisOf lk_RX8_88 rfl rfl rfl (by decide) (by decide) rfl (Nat.le_of_ble_eq_true rfl) rfl dX8_single_254 rfl ?_
      clear hv
      obtain ⟨u_24, μ_25, hv, h⟩ := bW_inv h
      refine V_callVo C 30 0 m_30 none (con_X8_set hl (8 : Int32) a4_21 v_23 hv) tb_X8_set lk_RX8_122 rfl rfl rfl (by decide) (by decide) rfl (Nat.le_of_ble_eq_true rfl) rfl dX8_single_257 rfl ?_
      clear hv
      obtain ⟨x_26, hn9⟩ : ∃ z : Int32, z = a4_21 + (1 : Int32) := ⟨_, rfl⟩
      replace h := lt_eq hn9 h
      refine V_iinc (L' := [(0, .ref (E.1 30 0)), (3, .int c3_20), (4, .int x_26)]) C x_26 dX8_single_260 2 rfl (by rw [hn9]; exact congrArg (a4_21 + ·) (by decide)) (by decide) [1, 2, 0] rfl ?_
      clear hn9
      refine V_goto C (tgt := 238) dX8_single_263 (by decide) ?_
      refine V_sub (LP := [(0, .ref (E.1 30 0)), (3, .int c3_20), (4, .int x_26)]) [0, 1, 2] rfl ?_
      exact ih _ _ h
set_option maxHeartbeats 4000000 in
set_option maxRecDepth 100000 in
theorem lp_X8_single_81 {Y : Mc} {l : Launch} {E : WE} (hl : l.stackTraces = false) (C : Ok Y l E lvM 8 RX8 cX8_single (some .boolean) 4) {κ : Mem → Option (Int32 × Mem)} (c1_33 : Int32) (c2_34 : Int32) (c4_35 : Int32)  (hκ : ∀  (μ_52 : Mem) x, κ  μ_52 = some x → V Y l E lvM 8 (rWi x) 186 [(0, .ref (E.1 30 0)), (4, .int c4_35)] [] μ_52) : ∀ (n : Nat) (a5_36 : Int32) (μ_37 : Mem) {x}, f_X8_single_L81 κ c1_33 c2_34 c4_35 n a5_36 μ_37 = some x → V Y l E lvM 8 (rWi x) 81 [(0, .ref (E.1 30 0)), (1, .int c1_33), (2, .int c2_34), (4, .int c4_35), (5, .int a5_36)] [] μ_37 := by
  intro n
  induction n with
  | zero =>
    intro a5_36 μ_37 x h
    simp [f_X8_single_L81] at h
  | succ n ih =>
    intro a5_36 μ_37 x h
    rw [f_X8_single_L81] at h
    refine V_iload C dX8_single_81 4 rfl ?_
    refine V_iload_n C 2 dX8_single_83 rfl 2 rfl ?_
    refine V_icmp_ge C (tgt := 186) dX8_single_84 (by decide) (fun hc => ?_) (fun hc => ?_)
    · replace h := (if_pos hc).symm.trans h
      refine V_sub (LP := [(0, .ref (E.1 30 0)), (4, .int c4_35)]) [0, 3] rfl ?_
      exact hκ _ _ h
    · replace h := (if_neg hc).symm.trans h
      refine V_aload_n C 0 dX8_single_87 rfl 0 rfl ?_
      refine V_getf (v := .int (μ_37 30 0 16)) C 30 0 m_30 fl_RX8_92 rfl rfl dX8_single_88 ?_
      refine V_if_ne C (tgt := 186) dX8_single_91 (by decide) (fun hc => ?_) (fun hc => ?_)
      · replace h := (if_neg hc).symm.trans h
        refine V_sub (LP := [(0, .ref (E.1 30 0)), (4, .int c4_35)]) [0, 3] rfl ?_
        exact hκ _ _ h
      · replace h := (if_pos hc).symm.trans h
        refine V_aload_n C 0 dX8_single_94 rfl 0 rfl ?_
        refine V_bipush C (19 : Int32) dX8_single_95 (by decide) ?_
        refine V_iload C dX8_single_97 4 rfl ?_
        obtain ⟨v_38, hv, h⟩ := bP_inv h
        refine V_callVo C 30 0 m_30 (some (.int v_38)) (con_X8_get hl (19 : Int32) a5_36 hv) tb_X8_get lk_RX8_119 rfl rfl rfl (by decide) (by decide) rfl (Nat.le_of_ble_eq_true rfl) rfl dX8_single_99 rfl ?_
        clear hv
        refine V_i2l C dX8_single_102 ?_
        refine V_topl (fun x_39 hn9 => ?_)
        replace h := lt_eq hn9 h; clear hn9
        refine V_lstore (L' := [(0, .ref (E.1 30 0)), (1, .int c1_33), (2, .int c2_34), (4, .int c4_35), (5, .int a5_36), (6, .long x_39)]) C dX8_single_103 (by decide) [1, 2, 3, 4, 5, 0] rfl ?_
        refine V_aload_n C 0 dX8_single_105 rfl 0 rfl ?_
        refine V_bipush C (8 : Int32) dX8_single_106 (by decide) ?_
        refine V_iload C dX8_single_108 4 rfl ?_
        refine V_iload_n C 1 dX8_single_110 rfl 1 rfl ?_
        refine V_bipush C (20 : Int32) dX8_single_111 (by decide) ?_
        obtain ⟨j_42, hj_42, h⟩ := jn_ex h
        have J_42 : ∀ (s_40 : Int32) (μ_41 : Mem) x, j_42 s_40 μ_41 = some x → V Y l E lvM 8 (rWi x) 177 [(0, .ref (E.1 30 0)), (1, .int c1_33), (2, .int c2_34), (4, .int c4_35), (5, .int a5_36)] [.int s_40, .int a5_36, .int (8 : Int32), .ref (E.1 30 0)] μ_41 := by
          intro s_40 μ_41  x h
          rw [hj_42] at h; clear hj_42
          obtain ⟨u_43, μ_44, hv, h⟩ := bW_inv h
          refine V_callVo C 30 0 m_30 none (con_X8_set hl (8 : Int32) a5_36 s_40 hv) tb_X8_set lk_RX8_122 rfl rfl rfl (by decide) (by decide) rfl (Nat.le_of_ble_eq_true rfl) rfl dX8_single_177 rfl ?_
          clear hv
          obtain ⟨x_45, hn9⟩ : ∃ z : Int32, z = a5_36 + (1 : Int32) := ⟨_, rfl⟩
          replace h := lt_eq hn9 h
          refine V_iinc (L' := [(0, .ref (E.1 30 0)), (1, .int c1_33), (2, .int c2_34), (4, .int c4_35), (5, .int x_45)]) C x_45 dX8_single_180 4 rfl (by rw [hn9]; exact congrArg (a5_36 + ·) (by decide)) (by decide) [1, 2, 3, 4, 0] rfl ?_
          clear hn9
          refine V_goto C (tgt := 81) dX8_single_183 (by decide) ?_
          refine V_sub (LP := [(0, .ref (E.1 30 0)), (1, .int c1_33), (2, .int c2_34), (4, .int c4_35), (5, .int x_45)]) [0, 1, 2, 3, 4] rfl ?_
          exact ih _ _ h
        clear hj_42
        refine V_icmp_ne C (tgt := 126) dX8_single_113 (by decide) (fun hc => ?_) (fun hc => ?_)
        · replace h := (if_neg hc).symm.trans h
          refine V_iload_n C 1 dX8_single_126 rfl 1 rfl ?_
          refine V_bipush C (21 : Int32) dX8_single_127 (by decide) ?_
          refine V_icmp_ne C (tgt := 154) dX8_single_129 (by decide) (fun hc => ?_) (fun hc => ?_)
          · replace h := (if_neg hc).symm.trans h
            refine V_lload C dX8_single_154 5 rfl ?_
            refine V_lconst C (0 : Int64) dX8_single_156 (by decide) ?_
            refine V_lcmp C dX8_single_157 ?_
            refine V_if_ge C (tgt := 165) dX8_single_158 (by decide) (fun hc => ?_) (fun hc => ?_)
            · replace h := (if_pos hc).symm.trans h
              refine V_lload C dX8_single_165 5 rfl ?_
              refine V_lconst C (0 : Int64) dX8_single_167 (by decide) ?_
              refine V_lcmp C dX8_single_168 ?_
              refine V_if_le C (tgt := 176) dX8_single_169 (by decide) (fun hc => ?_) (fun hc => ?_)
              · replace h := (if_pos hc).symm.trans h
                refine V_iconst C (0 : Int32) dX8_single_176 (by decide) ?_
                refine V_sub (LP := [(0, .ref (E.1 30 0)), (1, .int c1_33), (2, .int c2_34), (4, .int c4_35), (5, .int a5_36)]) [0, 1, 2, 3, 4] rfl ?_
                exact J_42 _ _ _ h
              · replace h := (if_neg hc).symm.trans h
                refine V_iconst C (1 : Int32) dX8_single_172 (by decide) ?_
                refine V_goto C (tgt := 177) dX8_single_173 (by decide) ?_
                refine V_sub (LP := [(0, .ref (E.1 30 0)), (1, .int c1_33), (2, .int c2_34), (4, .int c4_35), (5, .int a5_36)]) [0, 1, 2, 3, 4] rfl ?_
                exact J_42 _ _ _ h
            · replace h := (if_neg hc).symm.trans h
              refine V_iconst C (-1 : Int32) dX8_single_161 (by decide) ?_
              refine V_goto C (tgt := 177) dX8_single_162 (by decide) ?_
              refine V_sub (LP := [(0, .ref (E.1 30 0)), (1, .int c1_33), (2, .int c2_34), (4, .int c4_35), (5, .int a5_36)]) [0, 1, 2, 3, 4] rfl ?_
              exact J_42 _ _ _ h
          · replace h := (if_pos hc).symm.trans h
            refine V_aload_n C 0 dX8_single_132 rfl 0 rfl ?_
            refine V_lload C dX8_single_133 5 rfl ?_
            refine V_lconst C (0 : Int64) dX8_single_135 (by decide) ?_
            refine V_lcmp C dX8_single_136 ?_
            obtain ⟨j_47, hj_47, h⟩ := jn_ex h
            have J_47 : ∀ (s_46 : Int64) x, j_47 s_46 = some x → V Y l E lvM 8 (rWi x) 148 [(0, .ref (E.1 30 0)), (1, .int c1_33), (2, .int c2_34), (4, .int c4_35), (5, .int a5_36)] [.long s_46, .ref (E.1 30 0), .int a5_36, .int (8 : Int32), .ref (E.1 30 0)] μ_37 := by
              intro s_46  x h
              rw [hj_47] at h; clear hj_47
              obtain ⟨v_48, μ_49, hv, h⟩ := bW_inv h
              refine V_callVo C 30 0 m_30 (some (.int v_48)) (con_X8_ofInt hl s_46 hv) tb_X8_ofInt lk_RX8_101 rfl rfl rfl (by decide) (by decide) rfl (Nat.le_of_ble_eq_true rfl) rfl dX8_single_148 rfl ?_
              clear hv
              refine V_goto C (tgt := 177) dX8_single_151 (by decide) ?_
              refine V_sub (LP := [(0, .ref (E.1 30 0)), (1, .int c1_33), (2, .int c2_34), (4, .int c4_35), (5, .int a5_36)]) [0, 1, 2, 3, 4] rfl ?_
              exact J_42 _ _ _ h
            clear hj_47
            refine V_if_ge C (tgt := 146) dX8_single_137 (by decide) (fun hc => ?_) (fun hc => ?_)
            · replace h := (if_pos hc).symm.trans h
              refine V_lload C dX8_single_146 5 rfl ?_
              refine V_sub (LP := [(0, .ref (E.1 30 0)), (1, .int c1_33), (2, .int c2_34), (4, .int c4_35), (5, .int a5_36)]) [0, 1, 2, 3, 4] rfl ?_
              exact J_47 _ _ h
            · replace h := (if_neg hc).symm.trans h
              refine V_lload C dX8_single_140 5 rfl ?_
              refine V_lneg C dX8_single_142 ?_
              refine V_goto C (tgt := 148) dX8_single_143 (by decide) ?_
              refine V_sub (LP := [(0, .ref (E.1 30 0)), (1, .int c1_33), (2, .int c2_34), (4, .int c4_35), (5, .int a5_36)]) [0, 1, 2, 3, 4] rfl ?_
              exact J_47 _ _ h
        · replace h := (if_pos hc).symm.trans h
          refine V_aload_n C 0 dX8_single_116 rfl 0 rfl ?_
          refine V_lload C dX8_single_117 5 rfl ?_
          refine V_lneg C dX8_single_119 ?_
          obtain ⟨v_50, μ_51, hv, h⟩ := bW_inv h
          refine V_callVo C 30 0 m_30 (some (.int v_50)) (con_X8_ofInt hl (-x_39) hv) tb_X8_ofInt lk_RX8_101 rfl rfl rfl (by decide) (by decide) rfl (Nat.le_of_ble_eq_true rfl) rfl dX8_single_120 rfl ?_
          clear hv
          refine V_goto C (tgt := 177) dX8_single_123 (by decide) ?_
          refine V_sub (LP := [(0, .ref (E.1 30 0)), (1, .int c1_33), (2, .int c2_34), (4, .int c4_35), (5, .int a5_36)]) [0, 1, 2, 3, 4] rfl ?_
          exact J_42 _ _ _ h
set_option maxHeartbeats 4000000 in
set_option maxRecDepth 100000 in
theorem con_X8_single {l : Launch} {E : WE} (hl : l.stackTraces = false) (a1 : Int32)  {μ : Mem} {x} (h : f_X8_single a1 μ = some x) : Con l E lvM yX8_single cX8_single 8 (some .boolean) 4 [.ref (E.1 30 0), .int a1] μ (rWi x) := by
  refine Con.of (by decide) hl (Nat.le_of_ble_eq_true rfl) (fun Y C => ?_)
  replace C : Ok Y l E lvM 8 RX8 cX8_single (some .boolean) 4 := C
  show V Y l E lvM 8 (rWi x) 0 [(0, .ref (E.1 30 0)), (1, .int a1)] [] μ
  unfold f_X8_single at h
  refine V_aload_n C 0 dX8_single_0 rfl 0 rfl ?_
  refine V_bipush C (19 : Int32) dX8_single_1 (by decide) ?_
  obtain ⟨v_1, hv, h⟩ := bP_inv h
  refine V_callVo C 30 0 m_30 (some (.int v_1)) (con_X8_sizeOf hl (19 : Int32) hv) tb_X8_sizeOf lk_RX8_98 rfl rfl rfl (by decide) (by decide) rfl (Nat.le_of_ble_eq_true rfl) rfl dX8_single_3 rfl ?_
  clear hv
  refine V_istore_n (L' := [(0, .ref (E.1 30 0)), (1, .int a1), (2, .int v_1)]) C 2 dX8_single_6 rfl (by decide) [1, 2, 0] rfl ?_
  refine V_aload_n C 0 dX8_single_7 rfl 0 rfl ?_
  refine V_getf (v := .ref (E.1 32 0)) C 30 0 m_30 fl_RX8_13 rfl rfl dX8_single_8 ?_
  refine V_bipush C (19 : Int32) dX8_single_11 (by decide) ?_
  obtain ⟨hi9, h⟩ := gd_inv h
  refine V_iald C 32 0 m_32 (fun _ => rfl) (inb_in hi9) dX8_single_13 ?_
  refine V_topi (fun x_2 hn9 => ?_)
  replace h := lt_eq hn9 h; clear hn9
  refine V_istore_n (L' := [(0, .ref (E.1 30 0)), (1, .int a1), (2, .int v_1), (3, .int x_2)]) C 3 dX8_single_14 rfl (by decide) [1, 2, 3, 0] rfl ?_
  refine V_iload_n C 1 dX8_single_15 rfl 1 rfl ?_
  refine V_bipush C (10 : Int32) dX8_single_16 (by decide) ?_
  refine V_icmp_ge C (tgt := 39) dX8_single_18 (by decide) (fun hc => ?_) (fun hc => ?_)
  · replace h := (if_pos hc).symm.trans h
    refine V_iload_n C 1 dX8_single_39 rfl 1 rfl ?_
    refine V_bipush C (20 : Int32) dX8_single_40 (by decide) ?_
    refine V_icmp_ge C (tgt := 66) dX8_single_42 (by decide) (fun hc => ?_) (fun hc => ?_)
    · replace h := (if_pos hc).symm.trans h
      refine V_iload_n C 1 dX8_single_66 rfl 1 rfl ?_
      refine V_bipush C (23 : Int32) dX8_single_67 (by decide) ?_
      refine V_icmp_ge C (tgt := 204) dX8_single_69 (by decide) (fun hc => ?_) (fun hc => ?_)
      · replace h := (if_pos hc).symm.trans h
        refine V_iload_n C 1 dX8_single_204 rfl 1 rfl ?_
        refine V_bipush C (23 : Int32) dX8_single_205 (by decide) ?_
        refine V_icmp_ne C (tgt := 216) dX8_single_207 (by decide) (fun hc => ?_) (fun hc => ?_)
        · replace h := (if_neg hc).symm.trans h
          refine V_iload_n C 1 dX8_single_216 rfl 1 rfl ?_
          refine V_bipush C (24 : Int32) dX8_single_217 (by decide) ?_
          refine V_icmp_ne C (tgt := 268) dX8_single_219 (by decide) (fun hc => ?_) (fun hc => ?_)
          · replace h := (if_neg hc).symm.trans h
            refine V_iload_n C 1 dX8_single_268 rfl 1 rfl ?_
            refine V_bipush C (25 : Int32) dX8_single_269 (by decide) ?_
            refine V_icmp_ne C (tgt := 320) dX8_single_271 (by decide) (fun hc => ?_) (fun hc => ?_)
            · replace h := (if_neg hc).symm.trans h
              refine V_iload_n C 1 dX8_single_320 rfl 1 rfl ?_
              refine V_bipush C (26 : Int32) dX8_single_321 (by decide) ?_
              refine V_icmp_ne C (tgt := 334) dX8_single_323 (by decide) (fun hc => ?_) (fun hc => ?_)
              · replace h := (if_neg hc).symm.trans h
                refine V_aload_n C 0 dX8_single_334 rfl 0 rfl ?_
                refine V_iload_n C 2 dX8_single_335 rfl 2 rfl ?_
                obtain ⟨v_3, μ_4, hv, h⟩ := bW_inv h
                refine V_callVo C 30 0 m_30 (some (.int v_3)) (con_X8_reverse hl v_1 hv) tb_X8_reverse lk_RX8_135 rfl rfl rfl (by decide) (by decide) rfl (Nat.le_of_ble_eq_true rfl) rfl dX8_single_336 rfl ?_
                clear hv
                obtain ⟨hr9, h⟩ := gd_inv h
                cases h
                exact V_ireturn C rfl (isb_nar hr9) rfl dX8_single_339
              · replace h := (if_pos hc).symm.trans h
                refine V_aload_n C 0 dX8_single_326 rfl 0 rfl ?_
                refine V_iload_n C 2 dX8_single_327 rfl 2 rfl ?_
                obtain ⟨v_5, μ_6, hv, h⟩ := bW_inv h
                refine V_callVo C 30 0 m_30 (some (.int v_5)) (con_X8_turn hl v_1 hv) tb_X8_turn lk_RX8_132 rfl rfl rfl (by decide) (by decide) rfl (Nat.le_of_ble_eq_true rfl) rfl dX8_single_328 rfl ?_
                clear hv
                refine V_goto C (tgt := 339) dX8_single_331 (by decide) ?_
                obtain ⟨hr9, h⟩ := gd_inv h
                cases h
                exact V_ireturn C rfl (isb_nar hr9) rfl dX8_single_339
            · replace h := (if_pos hc).symm.trans h
              refine V_aload_n C 0 dX8_single_274 rfl 0 rfl ?_
              refine V_iconst C (1 : Int32) dX8_single_275 (by decide) ?_
              refine V_iload_n C 2 dX8_single_276 rfl 2 rfl ?_
              refine V_iconst C (0 : Int32) dX8_single_277 (by decide) ?_
              refine V_iconst C (0 : Int32) dX8_single_278 (by decide) ?_
              obtain ⟨v_7, μ_8, hv, h⟩ := bW_inv h
              refine V_callVo C 30 0 m_30 (some (.int v_7)) (con_X8_shape hl (1 : Int32) v_1 (0 : Int32) (0 : Int32) hv) tb_X8_shape lk_RX8_128 rfl rfl rfl (by decide) (by decide) rfl (Nat.le_of_ble_eq_true rfl) rfl dX8_single_279 rfl ?_
              clear hv
              refine V_if_ne C (tgt := 287) dX8_single_282 (by decide) (fun hc => ?_) (fun hc => ?_)
              · replace h := (if_neg hc).symm.trans h
                refine V_iconst C (0 : Int32) dX8_single_287 (by decide) ?_
                refine V_istore (L' := [(0, .ref (E.1 30 0)), (1, .int a1), (2, .int v_1), (3, .int x_2), (4, .int (0 : Int32))]) C dX8_single_288 (by decide) [1, 2, 3, 4, 0] rfl ?_
                refine V_sub (LP := [(0, .ref (E.1 30 0)), (2, .int v_1), (4, .int (0 : Int32))]) [0, 2, 4] rfl ?_
                refine lp_X8_single_290 hl C v_1 (fun μ_17 x h => ?_) 1000 _ _ h
                refine V_iconst C (1 : Int32) dX8_single_318 (by decide) ?_
                cases h
                exact V_ireturn C rfl rfl rfl dX8_single_319
              · replace h := (if_pos hc).symm.trans h
                refine V_iconst C (0 : Int32) dX8_single_285 (by decide) ?_
                cases h
                exact V_ireturn C rfl rfl rfl dX8_single_286
          · replace h := (if_pos hc).symm.trans h
            refine V_aload_n C 0 dX8_single_222 rfl 0 rfl ?_
            refine V_iconst C (1 : Int32) dX8_single_223 (by decide) ?_
            refine V_iload_n C 3 dX8_single_224 rfl 3 rfl ?_
            refine V_iconst C (0 : Int32) dX8_single_225 (by decide) ?_
            refine V_iconst C (0 : Int32) dX8_single_226 (by decide) ?_
            obtain ⟨v_18, μ_19, hv, h⟩ := bW_inv h
            refine V_callVo C 30 0 m_30 (some (.int v_18)) (con_X8_shape hl (1 : Int32) x_2 (0 : Int32) (0 : Int32) hv) tb_X8_shape lk_RX8_128 rfl rfl rfl (by decide) (by decide) rfl (Nat.le_of_ble_eq_true rfl) rfl dX8_single_227 rfl ?_
            clear hv
            refine V_if_ne C (tgt := 235) dX8_single_230 (by decide) (fun hc => ?_) (fun hc => ?_)
            · replace h := (if_neg hc).symm.trans h
              refine V_iconst C (0 : Int32) dX8_single_235 (by decide) ?_
              refine V_istore (L' := [(0, .ref (E.1 30 0)), (1, .int a1), (2, .int v_1), (3, .int x_2), (4, .int (0 : Int32))]) C dX8_single_236 (by decide) [1, 2, 3, 4, 0] rfl ?_
              refine V_sub (LP := [(0, .ref (E.1 30 0)), (3, .int x_2), (4, .int (0 : Int32))]) [0, 3, 4] rfl ?_
              refine lp_X8_single_238 hl C x_2 (fun μ_28 x h => ?_) 1000 _ _ h
              refine V_iconst C (1 : Int32) dX8_single_266 (by decide) ?_
              cases h
              exact V_ireturn C rfl rfl rfl dX8_single_267
            · replace h := (if_pos hc).symm.trans h
              refine V_iconst C (0 : Int32) dX8_single_233 (by decide) ?_
              cases h
              exact V_ireturn C rfl rfl rfl dX8_single_234
        · replace h := (if_pos hc).symm.trans h
          refine V_aload_n C 0 dX8_single_210 rfl 0 rfl ?_
          refine V_iload_n C 2 dX8_single_211 rfl 2 rfl ?_
          obtain ⟨v_29, μ_30, hv, h⟩ := bW_inv h
          refine V_callVo C 30 0 m_30 (some (.int v_29)) (con_X8_count hl v_1 hv) tb_X8_count lk_RX8_125 rfl rfl rfl (by decide) (by decide) rfl (Nat.le_of_ble_eq_true rfl) rfl dX8_single_212 rfl ?_
          clear hv
          obtain ⟨hr9, h⟩ := gd_inv h
          cases h
          exact V_ireturn C rfl (isb_nar hr9) rfl dX8_single_215
      · replace h := (if_neg hc).symm.trans h
        refine V_aload_n C 0 dX8_single_72 rfl 0 rfl ?_
        obtain ⟨v_31, μ_32, hv, h⟩ := bW_inv h
        refine V_callVo C 30 0 m_30 (some (.int v_31)) (con_X8_same hl hv) tb_X8_same lk_RX8_109 rfl rfl rfl (by decide) (by decide) rfl (Nat.le_of_ble_eq_true rfl) rfl dX8_single_73 rfl ?_
        clear hv
        refine V_istore (L' := [(0, .ref (E.1 30 0)), (1, .int a1), (2, .int v_1), (3, .int x_2), (4, .int v_31)]) C dX8_single_76 (by decide) [1, 2, 3, 4, 0] rfl ?_
        refine V_iconst C (0 : Int32) dX8_single_78 (by decide) ?_
        refine V_istore (L' := [(0, .ref (E.1 30 0)), (1, .int a1), (2, .int v_1), (3, .int x_2), (4, .int v_31), (5, .int (0 : Int32))]) C dX8_single_79 (by decide) [1, 2, 3, 4, 5, 0] rfl ?_
        refine V_sub (LP := [(0, .ref (E.1 30 0)), (1, .int a1), (2, .int v_1), (4, .int v_31), (5, .int (0 : Int32))]) [0, 1, 2, 4, 5] rfl ?_
        refine lp_X8_single_81 hl C a1 v_1 v_31 (fun μ_53 x h => ?_) 1000 _ _ h
        refine V_iload C dX8_single_186 1 rfl ?_
        obtain ⟨j_54, hj_54, h⟩ := jn_ex h
        have J_54 : ∀ (_ : Unit) x, j_54 () = some x → V Y l E lvM 8 (rWi x) 202 [] [] μ_53 := by
          intro _  x h
          rw [hj_54] at h; clear hj_54
          refine V_iconst C (0 : Int32) dX8_single_202 (by decide) ?_
          cases h
          exact V_ireturn C rfl rfl rfl dX8_single_203
        clear hj_54
        refine V_if_eq C (tgt := 202) dX8_single_188 (by decide) (fun hc => ?_) (fun hc => ?_)
        · replace h := (if_pos hc).symm.trans h
          refine V_sub (LP := []) [] rfl ?_
          exact J_54 () _ h
        · replace h := (if_neg hc).symm.trans h
          refine V_aload_n C 0 dX8_single_191 rfl 0 rfl ?_
          refine V_getf (v := .int (μ_53 30 0 16)) C 30 0 m_30 fl_RX8_92 rfl rfl dX8_single_192 ?_
          refine V_if_ne C (tgt := 202) dX8_single_195 (by decide) (fun hc => ?_) (fun hc => ?_)
          · replace h := (if_neg hc).symm.trans h
            refine V_sub (LP := []) [] rfl ?_
            exact J_54 () _ h
          · replace h := (if_pos hc).symm.trans h
            refine V_iconst C (1 : Int32) dX8_single_198 (by decide) ?_
            refine V_goto C (tgt := 203) dX8_single_199 (by decide) ?_
            cases h
            exact V_ireturn C rfl rfl rfl dX8_single_203
    · replace h := (if_neg hc).symm.trans h
      refine V_iload_n C 3 dX8_single_45 rfl 3 rfl ?_
      refine V_if_ne C (tgt := 56) dX8_single_46 (by decide) (fun hc => ?_) (fun hc => ?_)
      · replace h := (if_neg hc).symm.trans h
        refine V_aload_n C 0 dX8_single_56 rfl 0 rfl ?_
        refine V_iload_n C 1 dX8_single_57 rfl 1 rfl ?_
        refine V_bipush C (10 : Int32) dX8_single_58 (by decide) ?_
        refine V_isub C dX8_single_60 ?_
        refine V_iload_n C 2 dX8_single_61 rfl 2 rfl ?_
        obtain ⟨v_55, μ_56, hv, h⟩ := bW_inv h
        refine V_callVo C 30 0 m_30 (some (.int v_55)) (con_X8_scan hl (a1 - (10 : Int32)) v_1 hv) tb_X8_scan lk_RX8_116 rfl rfl rfl (by decide) (by decide) rfl (Nat.le_of_ble_eq_true rfl) rfl dX8_single_62 rfl ?_
        clear hv
        obtain ⟨hr9, h⟩ := gd_inv h
        cases h
        exact V_ireturn C rfl (isb_nar hr9) rfl dX8_single_65
      · replace h := (if_pos hc).symm.trans h
        refine V_aload_n C 0 dX8_single_49 rfl 0 rfl ?_
        obtain ⟨v_57, μ_58, hv, h⟩ := bW_inv h
        refine V_callVo C 30 0 m_30 (some (.int v_57)) (con_X8_same hl hv) tb_X8_same lk_RX8_109 rfl rfl rfl (by decide) (by decide) rfl (Nat.le_of_ble_eq_true rfl) rfl dX8_single_50 rfl ?_
        clear hv
        refine V_goto C (tgt := 65) dX8_single_53 (by decide) ?_
        obtain ⟨hr9, h⟩ := gd_inv h
        cases h
        exact V_ireturn C rfl (isb_nar hr9) rfl dX8_single_65
  · replace h := (if_neg hc).symm.trans h
    refine V_iload_n C 3 dX8_single_21 rfl 3 rfl ?_
    refine V_if_ne C (tgt := 32) dX8_single_22 (by decide) (fun hc => ?_) (fun hc => ?_)
    · replace h := (if_neg hc).symm.trans h
      refine V_aload_n C 0 dX8_single_32 rfl 0 rfl ?_
      refine V_iload_n C 1 dX8_single_33 rfl 1 rfl ?_
      refine V_iload_n C 2 dX8_single_34 rfl 2 rfl ?_
      obtain ⟨v_59, μ_60, hv, h⟩ := bW_inv h
      refine V_callVo C 30 0 m_30 (some (.int v_59)) (con_X8_reduce hl a1 v_1 hv) tb_X8_reduce lk_RX8_112 rfl rfl rfl (by decide) (by decide) rfl (Nat.le_of_ble_eq_true rfl) rfl dX8_single_35 rfl ?_
      clear hv
      obtain ⟨hr9, h⟩ := gd_inv h
      cases h
      exact V_ireturn C rfl (isb_nar hr9) rfl dX8_single_38
    · replace h := (if_pos hc).symm.trans h
      refine V_aload_n C 0 dX8_single_25 rfl 0 rfl ?_
      obtain ⟨v_61, μ_62, hv, h⟩ := bW_inv h
      refine V_callVo C 30 0 m_30 (some (.int v_61)) (con_X8_same hl hv) tb_X8_same lk_RX8_109 rfl rfl rfl (by decide) (by decide) rfl (Nat.le_of_ble_eq_true rfl) rfl dX8_single_26 rfl ?_
      clear hv
      refine V_goto C (tgt := 38) dX8_single_29 (by decide) ?_
      obtain ⟨hr9, h⟩ := gd_inv h
      cases h
      exact V_ireturn C rfl (isb_nar hr9) rfl dX8_single_38
set_option maxHeartbeats 4000000 in
set_option maxRecDepth 100000 in
theorem lp_X8_each_103 {Y : Mc} {l : Launch} {E : WE} (hl : l.stackTraces = false) (C : Ok Y l E lvM 6 RX8 cX8_each (some .boolean) 2) {κ : Mem → Option (Int32 × Mem)} (c1_10 : Int32) (c2_11 : Int32) (c3_12 : Int32) (c4_13 : Int32)  (hκ : ∀  (μ_27 : Mem) x, κ  μ_27 = some x → V Y l E lvM 6 (rWi x) 170 [(0, .ref (E.1 30 0))] [] μ_27) : ∀ (n : Nat) (a5_14 : Int32) (μ_15 : Mem) {x}, f_X8_each_L103 κ c1_10 c2_11 c3_12 c4_13 n a5_14 μ_15 = some x → V Y l E lvM 6 (rWi x) 103 [(0, .ref (E.1 30 0)), (1, .int c1_10), (2, .int c2_11), (3, .int c3_12), (4, .int c4_13), (5, .int a5_14)] [] μ_15 := by
  intro n
  induction n with
  | zero =>
    intro a5_14 μ_15 x h
    simp [f_X8_each_L103] at h
  | succ n ih =>
    intro a5_14 μ_15 x h
    rw [f_X8_each_L103] at h
    refine V_iload C dX8_each_103 5 rfl ?_
    refine V_iload C dX8_each_105 4 rfl ?_
    refine V_icmp_ge C (tgt := 170) dX8_each_107 (by decide) (fun hc => ?_) (fun hc => ?_)
    · replace h := (if_pos hc).symm.trans h
      refine V_sub (LP := [(0, .ref (E.1 30 0))]) [0] rfl ?_
      exact hκ _ _ h
    · replace h := (if_neg hc).symm.trans h
      refine V_aload_n C 0 dX8_each_110 rfl 0 rfl ?_
      refine V_getf (v := .int (μ_15 30 0 16)) C 30 0 m_30 fl_RX8_92 rfl rfl dX8_each_111 ?_
      refine V_if_ne C (tgt := 170) dX8_each_114 (by decide) (fun hc => ?_) (fun hc => ?_)
      · replace h := (if_neg hc).symm.trans h
        refine V_sub (LP := [(0, .ref (E.1 30 0))]) [0] rfl ?_
        exact hκ _ _ h
      · replace h := (if_pos hc).symm.trans h
        refine V_aload_n C 0 dX8_each_117 rfl 0 rfl ?_
        refine V_bipush C (8 : Int32) dX8_each_118 (by decide) ?_
        refine V_iload C dX8_each_120 5 rfl ?_
        refine V_aload_n C 0 dX8_each_122 rfl 0 rfl ?_
        refine V_iload_n C 1 dX8_each_123 rfl 1 rfl ?_
        refine V_aload_n C 0 dX8_each_124 rfl 0 rfl ?_
        refine V_bipush C (18 : Int32) dX8_each_125 (by decide) ?_
        refine V_iload_n C 2 dX8_each_127 rfl 2 rfl ?_
        obtain ⟨j_17, hj_17, h⟩ := jn_ex h
        have J_17 : ∀ (s_16 : Int32) x, j_17 s_16 = some x → V Y l E lvM 6 (rWi x) 137 [(0, .ref (E.1 30 0)), (1, .int c1_10), (2, .int c2_11), (3, .int c3_12), (4, .int c4_13), (5, .int a5_14)] [.int s_16, .int (18 : Int32), .ref (E.1 30 0), .int c1_10, .ref (E.1 30 0), .int a5_14, .int (8 : Int32), .ref (E.1 30 0)] μ_15 := by
          intro s_16  x h
          rw [hj_17] at h; clear hj_17
          obtain ⟨v_18, hv, h⟩ := bP_inv h
          refine V_callVo C 30 0 m_30 (some (.int v_18)) (con_X8_get hl (18 : Int32) s_16 hv) tb_X8_get lk_RX8_119 rfl rfl rfl (by decide) (by decide) rfl (Nat.le_of_ble_eq_true rfl) rfl dX8_each_137 rfl ?_
          clear hv
          refine V_i2l C dX8_each_140 ?_
          refine V_aload_n C 0 dX8_each_141 rfl 0 rfl ?_
          refine V_bipush C (19 : Int32) dX8_each_142 (by decide) ?_
          refine V_iload_n C 3 dX8_each_144 rfl 3 rfl ?_
          obtain ⟨j_20, hj_20, h⟩ := jn_ex h
          have J_20 : ∀ (s_19 : Int32) x, j_20 s_19 = some x → V Y l E lvM 6 (rWi x) 154 [(0, .ref (E.1 30 0)), (1, .int c1_10), (2, .int c2_11), (3, .int c3_12), (4, .int c4_13), (5, .int a5_14)] [.int s_19, .int (19 : Int32), .ref (E.1 30 0), .long (v_18).toInt64, .int c1_10, .ref (E.1 30 0), .int a5_14, .int (8 : Int32), .ref (E.1 30 0)] μ_15 := by
            intro s_19  x h
            rw [hj_20] at h; clear hj_20
            obtain ⟨v_21, hv, h⟩ := bP_inv h
            refine V_callVo C 30 0 m_30 (some (.int v_21)) (con_X8_get hl (19 : Int32) s_19 hv) tb_X8_get lk_RX8_119 rfl rfl rfl (by decide) (by decide) rfl (Nat.le_of_ble_eq_true rfl) rfl dX8_each_154 rfl ?_
            clear hv
            refine V_i2l C dX8_each_157 ?_
            obtain ⟨v_22, μ_23, hv, h⟩ := bW_inv h
            refine V_callVo C 30 0 m_30 (some (.int v_22)) (con_X8_number hl c1_10 (v_18).toInt64 (v_21).toInt64 hv) tb_X8_number lk_RX8_105 rfl rfl rfl (by decide) (by decide) rfl (Nat.le_of_ble_eq_true rfl) rfl dX8_each_158 rfl ?_
            clear hv
            obtain ⟨u_24, μ_25, hv, h⟩ := bW_inv h
            refine V_callVo C 30 0 m_30 none (con_X8_set hl (8 : Int32) a5_14 v_22 hv) tb_X8_set lk_RX8_122 rfl rfl rfl (by decide) (by decide) rfl (Nat.le_of_ble_eq_true rfl) rfl dX8_each_161 rfl ?_
            clear hv
            obtain ⟨x_26, hn9⟩ : ∃ z : Int32, z = a5_14 + (1 : Int32) := ⟨_, rfl⟩
            replace h := lt_eq hn9 h
            refine V_iinc (L' := [(0, .ref (E.1 30 0)), (1, .int c1_10), (2, .int c2_11), (3, .int c3_12), (4, .int c4_13), (5, .int x_26)]) C x_26 dX8_each_164 5 rfl (by rw [hn9]; exact congrArg (a5_14 + ·) (by decide)) (by decide) [1, 2, 3, 4, 5, 0] rfl ?_
            clear hn9
            refine V_goto C (tgt := 103) dX8_each_167 (by decide) ?_
            refine V_sub (LP := [(0, .ref (E.1 30 0)), (1, .int c1_10), (2, .int c2_11), (3, .int c3_12), (4, .int c4_13), (5, .int x_26)]) [0, 1, 2, 3, 4, 5] rfl ?_
            exact ih _ _ h
          clear hj_20
          refine V_if_ne C (tgt := 152) dX8_each_145 (by decide) (fun hc => ?_) (fun hc => ?_)
          · replace h := (if_neg hc).symm.trans h
            refine V_iload C dX8_each_152 5 rfl ?_
            refine V_sub (LP := [(0, .ref (E.1 30 0)), (1, .int c1_10), (2, .int c2_11), (3, .int c3_12), (4, .int c4_13), (5, .int a5_14)]) [0, 1, 2, 3, 4, 5] rfl ?_
            exact J_20 _ _ h
          · replace h := (if_pos hc).symm.trans h
            refine V_iconst C (0 : Int32) dX8_each_148 (by decide) ?_
            refine V_goto C (tgt := 154) dX8_each_149 (by decide) ?_
            refine V_sub (LP := [(0, .ref (E.1 30 0)), (1, .int c1_10), (2, .int c2_11), (3, .int c3_12), (4, .int c4_13), (5, .int a5_14)]) [0, 1, 2, 3, 4, 5] rfl ?_
            exact J_20 _ _ h
        clear hj_17
        refine V_if_ne C (tgt := 135) dX8_each_128 (by decide) (fun hc => ?_) (fun hc => ?_)
        · replace h := (if_neg hc).symm.trans h
          refine V_iload C dX8_each_135 5 rfl ?_
          refine V_sub (LP := [(0, .ref (E.1 30 0)), (1, .int c1_10), (2, .int c2_11), (3, .int c3_12), (4, .int c4_13), (5, .int a5_14)]) [0, 1, 2, 3, 4, 5] rfl ?_
          exact J_17 _ _ h
        · replace h := (if_pos hc).symm.trans h
          refine V_iconst C (0 : Int32) dX8_each_131 (by decide) ?_
          refine V_goto C (tgt := 137) dX8_each_132 (by decide) ?_
          refine V_sub (LP := [(0, .ref (E.1 30 0)), (1, .int c1_10), (2, .int c2_11), (3, .int c3_12), (4, .int c4_13), (5, .int a5_14)]) [0, 1, 2, 3, 4, 5] rfl ?_
          exact J_17 _ _ h
set_option maxHeartbeats 4000000 in
set_option maxRecDepth 100000 in
theorem lp_X8_each_38 {Y : Mc} {l : Launch} {E : WE} (hl : l.stackTraces = false) (C : Ok Y l E lvM 6 RX8 cX8_each (some .boolean) 2) {κ : Unit → Option (Int32 × Mem)} (c1_29 : Int32) (c2_30 : Int32) (c3_31 : Int32) (μ_33 : Mem)  (hκ : ∀ (_ : Unit) x, κ () = some x → V Y l E lvM 6 (rWi x) 75 [(0, .ref (E.1 30 0)), (1, .int c1_29), (2, .int c2_30), (3, .int c3_31)] [] μ_33) : ∀ (n : Nat) (a4_32 : Int32) {x}, f_X8_each_L38 κ c1_29 c2_30 c3_31 μ_33 n a4_32 = some x → V Y l E lvM 6 (rWi x) 38 [(0, .ref (E.1 30 0)), (1, .int c1_29), (2, .int c2_30), (3, .int c3_31), (4, .int a4_32)] [] μ_33 := by
  intro n
  induction n with
  | zero =>
    intro a4_32 x h
    simp [f_X8_each_L38] at h
  | succ n ih =>
    intro a4_32 x h
    rw [f_X8_each_L38] at h
    refine V_iload C dX8_each_38 4 rfl ?_
    refine V_iload_n C 2 dX8_each_40 rfl 2 rfl ?_
    refine V_icmp_ge C (tgt := 75) dX8_each_41 (by decide) (fun hc => ?_) (fun hc => ?_)
    · replace h := (if_pos hc).symm.trans h
      refine V_sub (LP := [(0, .ref (E.1 30 0)), (1, .int c1_29), (2, .int c2_30), (3, .int c3_31)]) [0, 1, 2, 3] rfl ?_
      exact hκ () _ h
    · replace h := (if_neg hc).symm.trans h
      refine V_aload_n C 0 dX8_each_44 rfl 0 rfl ?_
      refine V_bipush C (18 : Int32) dX8_each_45 (by decide) ?_
      refine V_iload C dX8_each_47 4 rfl ?_
      obtain ⟨v_34, hv, h⟩ := bP_inv h
      refine V_callVo C 30 0 m_30 (some (.int v_34)) (con_X8_axisOf hl (18 : Int32) a4_32 hv) tb_X8_axisOf lk_RX8_88 rfl rfl rfl (by decide) (by decide) rfl (Nat.le_of_ble_eq_true rfl) rfl dX8_each_49 rfl ?_
      clear hv
      refine V_aload_n C 0 dX8_each_52 rfl 0 rfl ?_
      refine V_bipush C (19 : Int32) dX8_each_53 (by decide) ?_
      refine V_iload C dX8_each_55 4 rfl ?_
      obtain ⟨v_35, hv, h⟩ := bP_inv h
      refine V_callVo C 30 0 m_30 (some (.int v_35)) (con_X8_axisOf hl (19 : Int32) a4_32 hv) tb_X8_axisOf lk_RX8_88 rfl rfl rfl (by decide) (by decide) rfl (Nat.le_of_ble_eq_true rfl) rfl dX8_each_57 rfl ?_
      clear hv
      refine V_icmp_eq C (tgt := 69) dX8_each_60 (by decide) (fun hc => ?_) (fun hc => ?_)
      · replace h := (if_pos hc).symm.trans h
        obtain ⟨x_36, hn9⟩ : ∃ z : Int32, z = a4_32 + (1 : Int32) := ⟨_, rfl⟩
        replace h := lt_eq hn9 h
        refine V_iinc (L' := [(0, .ref (E.1 30 0)), (1, .int c1_29), (2, .int c2_30), (3, .int c3_31), (4, .int x_36)]) C x_36 dX8_each_69 4 rfl (by rw [hn9]; exact congrArg (a4_32 + ·) (by decide)) (by decide) [1, 2, 3, 4, 0] rfl ?_
        clear hn9
        refine V_goto C (tgt := 38) dX8_each_72 (by decide) ?_
        refine V_sub (LP := [(0, .ref (E.1 30 0)), (1, .int c1_29), (2, .int c2_30), (3, .int c3_31), (4, .int x_36)]) [0, 1, 2, 3, 4] rfl ?_
        exact ih _ h
      · replace h := (if_neg hc).symm.trans h
        refine V_aload_n C 0 dX8_each_63 rfl 0 rfl ?_
        refine V_iconst C (3 : Int32) dX8_each_64 (by decide) ?_
        obtain ⟨v_37, μ_38, hv, h⟩ := bW_inv h
        refine V_callVo C 30 0 m_30 (some (.int v_37)) (con_X8_stop hl (3 : Int32) hv) tb_X8_stop lk_RX8_95 rfl rfl rfl (by decide) (by decide) rfl (Nat.le_of_ble_eq_true rfl) rfl dX8_each_65 rfl ?_
        clear hv
        obtain ⟨hr9, h⟩ := gd_inv h
        cases h
        exact V_ireturn C rfl (isb_nar hr9) rfl dX8_each_68
set_option maxHeartbeats 4000000 in
set_option maxRecDepth 100000 in
theorem con_X8_each {l : Launch} {E : WE} (hl : l.stackTraces = false) (a1 : Int32)  {μ : Mem} {x} (h : f_X8_each a1 μ = some x) : Con l E lvM yX8_each cX8_each 6 (some .boolean) 2 [.ref (E.1 30 0), .int a1] μ (rWi x) := by
  refine Con.of (by decide) hl (Nat.le_of_ble_eq_true rfl) (fun Y C => ?_)
  replace C : Ok Y l E lvM 6 RX8 cX8_each (some .boolean) 2 := C
  show V Y l E lvM 6 (rWi x) 0 [(0, .ref (E.1 30 0)), (1, .int a1)] [] μ
  unfold f_X8_each at h
  refine V_aload_n C 0 dX8_each_0 rfl 0 rfl ?_
  refine V_getf (v := .ref (E.1 32 0)) C 30 0 m_30 fl_RX8_13 rfl rfl dX8_each_1 ?_
  refine V_bipush C (18 : Int32) dX8_each_4 (by decide) ?_
  obtain ⟨hi9, h⟩ := gd_inv h
  refine V_iald C 32 0 m_32 (fun _ => rfl) (inb_in hi9) dX8_each_6 ?_
  refine V_topi (fun x_1 hn9 => ?_)
  replace h := lt_eq hn9 h; clear hn9
  refine V_istore_n (L' := [(0, .ref (E.1 30 0)), (1, .int a1), (2, .int x_1)]) C 2 dX8_each_7 rfl (by decide) [1, 2, 0] rfl ?_
  refine V_aload_n C 0 dX8_each_8 rfl 0 rfl ?_
  refine V_getf (v := .ref (E.1 32 0)) C 30 0 m_30 fl_RX8_13 rfl rfl dX8_each_9 ?_
  refine V_bipush C (19 : Int32) dX8_each_12 (by decide) ?_
  obtain ⟨hi9, h⟩ := gd_inv h
  refine V_iald C 32 0 m_32 (fun _ => rfl) (inb_in hi9) dX8_each_14 ?_
  refine V_topi (fun x_2 hn9 => ?_)
  replace h := lt_eq hn9 h; clear hn9
  refine V_istore_n (L' := [(0, .ref (E.1 30 0)), (1, .int a1), (2, .int x_1), (3, .int x_2)]) C 3 dX8_each_15 rfl (by decide) [1, 2, 3, 0] rfl ?_
  refine V_iload_n C 2 dX8_each_16 rfl 2 rfl ?_
  obtain ⟨j_4, hj_4, h⟩ := jn_ex h
  have J_4 : ∀ (μ_3 : Mem) x, j_4 μ_3 = some x → V Y l E lvM 6 (rWi x) 75 [(0, .ref (E.1 30 0)), (1, .int a1), (2, .int x_1), (3, .int x_2)] [] μ_3 := by
    intro μ_3  x h
    rw [hj_4] at h; clear hj_4
    refine V_aload_n C 0 dX8_each_75 rfl 0 rfl ?_
    refine V_iload_n C 2 dX8_each_76 rfl 2 rfl ?_
    obtain ⟨j_6, hj_6, h⟩ := jn_ex h
    have J_6 : ∀ (s_5 : Int32) x, j_6 s_5 = some x → V Y l E lvM 6 (rWi x) 87 [(0, .ref (E.1 30 0)), (1, .int a1), (2, .int x_1), (3, .int x_2)] [.int s_5, .ref (E.1 30 0)] μ_3 := by
      intro s_5  x h
      rw [hj_6] at h; clear hj_6
      refine V_bipush C (8 : Int32) dX8_each_87 (by decide) ?_
      obtain ⟨u_7, μ_8, hv, h⟩ := bW_inv h
      refine V_callVo C 30 0 m_30 none (con_X8_copy hl s_5 (8 : Int32) hv) tb_X8_copy lk_RX8_138 rfl rfl rfl (by decide) (by decide) rfl (Nat.le_of_ble_eq_true rfl) rfl dX8_each_89 rfl ?_
      clear hv
      refine V_aload_n C 0 dX8_each_92 rfl 0 rfl ?_
      refine V_bipush C (8 : Int32) dX8_each_93 (by decide) ?_
      obtain ⟨v_9, hv, h⟩ := bP_inv h
      refine V_callVo C 30 0 m_30 (some (.int v_9)) (con_X8_sizeOf hl (8 : Int32) hv) tb_X8_sizeOf lk_RX8_98 rfl rfl rfl (by decide) (by decide) rfl (Nat.le_of_ble_eq_true rfl) rfl dX8_each_95 rfl ?_
      clear hv
      refine V_istore (L' := [(0, .ref (E.1 30 0)), (1, .int a1), (2, .int x_1), (3, .int x_2), (4, .int v_9)]) C dX8_each_98 (by decide) [1, 2, 3, 4, 0] rfl ?_
      refine V_iconst C (0 : Int32) dX8_each_100 (by decide) ?_
      refine V_istore (L' := [(0, .ref (E.1 30 0)), (1, .int a1), (2, .int x_1), (3, .int x_2), (4, .int v_9), (5, .int (0 : Int32))]) C dX8_each_101 (by decide) [1, 2, 3, 4, 5, 0] rfl ?_
      refine V_sub (LP := [(0, .ref (E.1 30 0)), (1, .int a1), (2, .int x_1), (3, .int x_2), (4, .int v_9), (5, .int (0 : Int32))]) [0, 1, 2, 3, 4, 5] rfl ?_
      refine lp_X8_each_103 hl C a1 x_1 x_2 v_9 (fun μ_28 x h => ?_) 1000 _ _ h
      refine V_aload_n C 0 dX8_each_170 rfl 0 rfl ?_
      refine V_getf (v := .int (μ_28 30 0 16)) C 30 0 m_30 fl_RX8_92 rfl rfl dX8_each_171 ?_
      refine V_if_ne C (tgt := 181) dX8_each_174 (by decide) (fun hc => ?_) (fun hc => ?_)
      · replace h := (if_neg hc).symm.trans h
        refine V_iconst C (0 : Int32) dX8_each_181 (by decide) ?_
        cases h
        exact V_ireturn C rfl rfl rfl dX8_each_182
      · replace h := (if_pos hc).symm.trans h
        refine V_iconst C (1 : Int32) dX8_each_177 (by decide) ?_
        refine V_goto C (tgt := 182) dX8_each_178 (by decide) ?_
        cases h
        exact V_ireturn C rfl rfl rfl dX8_each_182
    clear hj_6
    refine V_if_ne C (tgt := 85) dX8_each_77 (by decide) (fun hc => ?_) (fun hc => ?_)
    · replace h := (if_neg hc).symm.trans h
      refine V_bipush C (18 : Int32) dX8_each_85 (by decide) ?_
      refine V_sub (LP := [(0, .ref (E.1 30 0)), (1, .int a1), (2, .int x_1), (3, .int x_2)]) [0, 1, 2, 3] rfl ?_
      exact J_6 _ _ h
    · replace h := (if_pos hc).symm.trans h
      refine V_bipush C (19 : Int32) dX8_each_80 (by decide) ?_
      refine V_goto C (tgt := 87) dX8_each_82 (by decide) ?_
      refine V_sub (LP := [(0, .ref (E.1 30 0)), (1, .int a1), (2, .int x_1), (3, .int x_2)]) [0, 1, 2, 3] rfl ?_
      exact J_6 _ _ h
  clear hj_4
  refine V_if_eq C (tgt := 75) dX8_each_17 (by decide) (fun hc => ?_) (fun hc => ?_)
  · replace h := (if_pos hc).symm.trans h
    refine V_sub (LP := [(0, .ref (E.1 30 0)), (1, .int a1), (2, .int x_1), (3, .int x_2)]) [0, 1, 2, 3] rfl ?_
    exact J_4 _ _ h
  · replace h := (if_neg hc).symm.trans h
    refine V_iload_n C 3 dX8_each_20 rfl 3 rfl ?_
    refine V_if_eq C (tgt := 75) dX8_each_21 (by decide) (fun hc => ?_) (fun hc => ?_)
    · replace h := (if_pos hc).symm.trans h
      refine V_sub (LP := [(0, .ref (E.1 30 0)), (1, .int a1), (2, .int x_1), (3, .int x_2)]) [0, 1, 2, 3] rfl ?_
      exact J_4 _ _ h
    · replace h := (if_neg hc).symm.trans h
      refine V_iload_n C 2 dX8_each_24 rfl 2 rfl ?_
      refine V_iload_n C 3 dX8_each_25 rfl 3 rfl ?_
      refine V_icmp_eq C (tgt := 35) dX8_each_26 (by decide) (fun hc => ?_) (fun hc => ?_)
      · replace h := (if_pos hc).symm.trans h
        refine V_iconst C (0 : Int32) dX8_each_35 (by decide) ?_
        refine V_istore (L' := [(0, .ref (E.1 30 0)), (1, .int a1), (2, .int x_1), (3, .int x_2), (4, .int (0 : Int32))]) C dX8_each_36 (by decide) [1, 2, 3, 4, 0] rfl ?_
        refine V_sub (LP := [(0, .ref (E.1 30 0)), (1, .int a1), (2, .int x_1), (3, .int x_2), (4, .int (0 : Int32))]) [0, 1, 2, 3, 4] rfl ?_
        refine lp_X8_each_38 hl C a1 x_1 x_2 μ (fun _ x h => ?_) 1000 _ h
        refine V_sub (LP := [(0, .ref (E.1 30 0)), (1, .int a1), (2, .int x_1), (3, .int x_2)]) [0, 1, 2, 3] rfl ?_
        exact J_4 _ _ h
      · replace h := (if_neg hc).symm.trans h
        refine V_aload_n C 0 dX8_each_29 rfl 0 rfl ?_
        refine V_iconst C (4 : Int32) dX8_each_30 (by decide) ?_
        obtain ⟨v_39, μ_40, hv, h⟩ := bW_inv h
        refine V_callVo C 30 0 m_30 (some (.int v_39)) (con_X8_stop hl (4 : Int32) hv) tb_X8_stop lk_RX8_95 rfl rfl rfl (by decide) (by decide) rfl (Nat.le_of_ble_eq_true rfl) rfl dX8_each_31 rfl ?_
        clear hv
        obtain ⟨hr9, h⟩ := gd_inv h
        cases h
        exact V_ireturn C rfl (isb_nar hr9) rfl dX8_each_34
set_option maxHeartbeats 4000000 in
set_option maxRecDepth 100000 in
theorem con_X8_joined {l : Launch} {E : WE} (hl : l.stackTraces = false) (a1 : Int32) (a2 : Int32) (a3 : Int32)  {μ : Mem} {x} (h : f_X8_joined a1 a2 a3 μ = some x) : Con l E lvM yX8_joined cX8_joined 6 (some .int) 1 [.ref (E.1 30 0), .int a1, .int a2, .int a3] μ (rPi x μ) := by
  refine Con.of (by decide) hl (Nat.le_of_ble_eq_true rfl) (fun Y C => ?_)
  replace C : Ok Y l E lvM 6 RX8 cX8_joined (some .int) 1 := C
  show V Y l E lvM 6 (rPi x μ) 0 [(0, .ref (E.1 30 0)), (1, .int a1), (2, .int a2), (3, .int a3)] [] μ
  unfold f_X8_joined at h
  refine V_aload_n C 0 dX8_joined_0 rfl 0 rfl ?_
  refine V_getf (v := .ref (E.1 32 0)) C 30 0 m_30 fl_RX8_13 rfl rfl dX8_joined_1 ?_
  refine V_bipush C (18 : Int32) dX8_joined_4 (by decide) ?_
  obtain ⟨hi9, h⟩ := gd_inv h
  refine V_iald C 32 0 m_32 (fun _ => rfl) (inb_in hi9) dX8_joined_6 ?_
  refine V_iload_n C 2 dX8_joined_7 rfl 2 rfl ?_
  refine V_isub C dX8_joined_8 ?_
  refine V_topi (fun x_1 hn9 => ?_)
  replace h := lt_eq hn9 h; clear hn9
  refine V_istore (L' := [(0, .ref (E.1 30 0)), (1, .int a1), (2, .int a2), (3, .int a3), (4, .int x_1)]) C dX8_joined_9 (by decide) [1, 2, 3, 4, 0] rfl ?_
  refine V_iload_n C 1 dX8_joined_11 rfl 1 rfl ?_
  refine V_iload C dX8_joined_12 4 rfl ?_
  refine V_icmp_ge C (tgt := 25) dX8_joined_14 (by decide) (fun hc => ?_) (fun hc => ?_)
  · replace h := (if_pos hc).symm.trans h
    refine V_iload_n C 1 dX8_joined_25 rfl 1 rfl ?_
    refine V_iload C dX8_joined_26 4 rfl ?_
    refine V_isub C dX8_joined_28 ?_
    refine V_iload_n C 3 dX8_joined_29 rfl 3 rfl ?_
    refine V_iadd C dX8_joined_30 ?_
    refine V_topi (fun x_2 hn9 => ?_)
    replace h := lt_eq hn9 h; clear hn9
    refine V_istore (L' := [(0, .ref (E.1 30 0)), (1, .int a1), (2, .int a2), (3, .int a3), (4, .int x_1), (5, .int x_2)]) C dX8_joined_31 (by decide) [1, 2, 3, 4, 5, 0] rfl ?_
    refine V_iload C dX8_joined_33 5 rfl ?_
    refine V_aload_n C 0 dX8_joined_35 rfl 0 rfl ?_
    refine V_getf (v := .ref (E.1 32 0)) C 30 0 m_30 fl_RX8_13 rfl rfl dX8_joined_36 ?_
    refine V_bipush C (19 : Int32) dX8_joined_39 (by decide) ?_
    obtain ⟨hi9, h⟩ := gd_inv h
    refine V_iald C 32 0 m_32 (fun _ => rfl) (inb_in hi9) dX8_joined_41 ?_
    refine V_icmp_ge C (tgt := 56) dX8_joined_42 (by decide) (fun hc => ?_) (fun hc => ?_)
    · replace h := (if_pos hc).symm.trans h
      refine V_iconst C (0 : Int32) dX8_joined_56 (by decide) ?_
      cases h
      exact V_ireturn C rfl rfl rfl dX8_joined_57
    · replace h := (if_neg hc).symm.trans h
      refine V_aload_n C 0 dX8_joined_45 rfl 0 rfl ?_
      refine V_bipush C (19 : Int32) dX8_joined_46 (by decide) ?_
      refine V_iload C dX8_joined_48 5 rfl ?_
      obtain ⟨v_3, hv, h⟩ := bP_inv h
      refine V_callVo C 30 0 m_30 (some (.int v_3)) (con_X8_axisOf hl (19 : Int32) x_2 hv) tb_X8_axisOf lk_RX8_88 rfl rfl rfl (by decide) (by decide) rfl (Nat.le_of_ble_eq_true rfl) rfl dX8_joined_50 rfl ?_
      clear hv
      refine V_goto C (tgt := 57) dX8_joined_53 (by decide) ?_
      cases h
      exact V_ireturn C rfl rfl rfl dX8_joined_57
  · replace h := (if_neg hc).symm.trans h
    refine V_aload_n C 0 dX8_joined_17 rfl 0 rfl ?_
    refine V_bipush C (18 : Int32) dX8_joined_18 (by decide) ?_
    refine V_iload_n C 1 dX8_joined_20 rfl 1 rfl ?_
    obtain ⟨v_4, hv, h⟩ := bP_inv h
    refine V_callVo C 30 0 m_30 (some (.int v_4)) (con_X8_axisOf hl (18 : Int32) a1 hv) tb_X8_axisOf lk_RX8_88 rfl rfl rfl (by decide) (by decide) rfl (Nat.le_of_ble_eq_true rfl) rfl dX8_joined_21 rfl ?_
    clear hv
    cases h
    exact V_ireturn C rfl rfl rfl dX8_joined_24
set_option maxHeartbeats 4000000 in
set_option maxRecDepth 100000 in
theorem lp_X8_outer_76 {Y : Mc} {l : Launch} {E : WE} (hl : l.stackTraces = false) (C : Ok Y l E lvM 6 RX8 cX8_outer (some .boolean) 3) {κ : Mem → Option (Int32 × Mem)} (c1_9 : Int32) (c3_10 : Int32) (c4_11 : Int32)  (hκ : ∀  (μ_21 : Mem) x, κ  μ_21 = some x → V Y l E lvM 6 (rWi x) 132 [(0, .ref (E.1 30 0))] [] μ_21) : ∀ (n : Nat) (a5_12 : Int32) (μ_13 : Mem) {x}, f_X8_outer_L76 κ c1_9 c3_10 c4_11 n a5_12 μ_13 = some x → V Y l E lvM 6 (rWi x) 76 [(0, .ref (E.1 30 0)), (1, .int c1_9), (3, .int c3_10), (4, .int c4_11), (5, .int a5_12)] [] μ_13 := by
  intro n
  induction n with
  | zero =>
    intro a5_12 μ_13 x h
    simp [f_X8_outer_L76] at h
  | succ n ih =>
    intro a5_12 μ_13 x h
    rw [f_X8_outer_L76] at h
    refine V_iload C dX8_outer_76 4 rfl ?_
    refine V_iload_n C 3 dX8_outer_78 rfl 2 rfl ?_
    refine V_icmp_ge C (tgt := 132) dX8_outer_79 (by decide) (fun hc => ?_) (fun hc => ?_)
    · replace h := (if_pos hc).symm.trans h
      refine V_sub (LP := [(0, .ref (E.1 30 0))]) [0] rfl ?_
      exact hκ _ _ h
    · replace h := (if_neg hc).symm.trans h
      refine V_aload_n C 0 dX8_outer_82 rfl 0 rfl ?_
      refine V_getf (v := .int (μ_13 30 0 16)) C 30 0 m_30 fl_RX8_92 rfl rfl dX8_outer_83 ?_
      refine V_if_ne C (tgt := 132) dX8_outer_86 (by decide) (fun hc => ?_) (fun hc => ?_)
      · replace h := (if_neg hc).symm.trans h
        refine V_sub (LP := [(0, .ref (E.1 30 0))]) [0] rfl ?_
        exact hκ _ _ h
      · replace h := (if_pos hc).symm.trans h
        refine V_aload_n C 0 dX8_outer_89 rfl 0 rfl ?_
        refine V_bipush C (8 : Int32) dX8_outer_90 (by decide) ?_
        refine V_iload C dX8_outer_92 4 rfl ?_
        refine V_aload_n C 0 dX8_outer_94 rfl 0 rfl ?_
        refine V_iload_n C 1 dX8_outer_95 rfl 1 rfl ?_
        refine V_aload_n C 0 dX8_outer_96 rfl 0 rfl ?_
        refine V_bipush C (18 : Int32) dX8_outer_97 (by decide) ?_
        refine V_iload C dX8_outer_99 4 rfl ?_
        refine V_iload C dX8_outer_101 3 rfl ?_
        obtain ⟨hz9, h⟩ := gd_inv h
        refine V_idiv C dX8_outer_103 (nz_ne hz9) ?_
        obtain ⟨v_14, hv, h⟩ := bP_inv h
        refine V_callVo C 30 0 m_30 (some (.int v_14)) (con_X8_get hl (18 : Int32) (a5_12 / c4_11) hv) tb_X8_get lk_RX8_119 rfl rfl rfl (by decide) (by decide) rfl (Nat.le_of_ble_eq_true rfl) rfl dX8_outer_104 rfl ?_
        clear hv
        refine V_i2l C dX8_outer_107 ?_
        refine V_aload_n C 0 dX8_outer_108 rfl 0 rfl ?_
        refine V_bipush C (19 : Int32) dX8_outer_109 (by decide) ?_
        refine V_iload C dX8_outer_111 4 rfl ?_
        refine V_iload C dX8_outer_113 3 rfl ?_
        obtain ⟨hz9, h⟩ := gd_inv h
        refine V_irem C dX8_outer_115 (nz_ne hz9) ?_
        obtain ⟨v_15, hv, h⟩ := bP_inv h
        refine V_callVo C 30 0 m_30 (some (.int v_15)) (con_X8_get hl (19 : Int32) (a5_12 - a5_12 / c4_11 * c4_11) hv) tb_X8_get lk_RX8_119 rfl rfl rfl (by decide) (by decide) rfl (Nat.le_of_ble_eq_true rfl) rfl dX8_outer_116 rfl ?_
        clear hv
        refine V_i2l C dX8_outer_119 ?_
        obtain ⟨v_16, μ_17, hv, h⟩ := bW_inv h
        refine V_callVo C 30 0 m_30 (some (.int v_16)) (con_X8_number hl c1_9 (v_14).toInt64 (v_15).toInt64 hv) tb_X8_number lk_RX8_105 rfl rfl rfl (by decide) (by decide) rfl (Nat.le_of_ble_eq_true rfl) rfl dX8_outer_120 rfl ?_
        clear hv
        obtain ⟨u_18, μ_19, hv, h⟩ := bW_inv h
        refine V_callVo C 30 0 m_30 none (con_X8_set hl (8 : Int32) a5_12 v_16 hv) tb_X8_set lk_RX8_122 rfl rfl rfl (by decide) (by decide) rfl (Nat.le_of_ble_eq_true rfl) rfl dX8_outer_123 rfl ?_
        clear hv
        obtain ⟨x_20, hn9⟩ : ∃ z : Int32, z = a5_12 + (1 : Int32) := ⟨_, rfl⟩
        replace h := lt_eq hn9 h
        refine V_iinc (L' := [(0, .ref (E.1 30 0)), (1, .int c1_9), (3, .int c3_10), (4, .int c4_11), (5, .int x_20)]) C x_20 dX8_outer_126 4 rfl (by rw [hn9]; exact congrArg (a5_12 + ·) (by decide)) (by decide) [1, 2, 3, 4, 0] rfl ?_
        clear hn9
        refine V_goto C (tgt := 76) dX8_outer_129 (by decide) ?_
        refine V_sub (LP := [(0, .ref (E.1 30 0)), (1, .int c1_9), (3, .int c3_10), (4, .int c4_11), (5, .int x_20)]) [0, 1, 2, 3, 4] rfl ?_
        exact ih _ _ h
set_option maxHeartbeats 4000000 in
set_option maxRecDepth 100000 in
theorem con_X8_outer {l : Launch} {E : WE} (hl : l.stackTraces = false) (a1 : Int32)  {μ : Mem} {x} (h : f_X8_outer a1 μ = some x) : Con l E lvM yX8_outer cX8_outer 6 (some .boolean) 3 [.ref (E.1 30 0), .int a1] μ (rWi x) := by
  refine Con.of (by decide) hl (Nat.le_of_ble_eq_true rfl) (fun Y C => ?_)
  replace C : Ok Y l E lvM 6 RX8 cX8_outer (some .boolean) 3 := C
  show V Y l E lvM 6 (rWi x) 0 [(0, .ref (E.1 30 0)), (1, .int a1)] [] μ
  unfold f_X8_outer at h
  refine V_aload_n C 0 dX8_outer_0 rfl 0 rfl ?_
  refine V_getf (v := .ref (E.1 32 0)) C 30 0 m_30 fl_RX8_13 rfl rfl dX8_outer_1 ?_
  refine V_bipush C (18 : Int32) dX8_outer_4 (by decide) ?_
  obtain ⟨hi9, h⟩ := gd_inv h
  refine V_iald C 32 0 m_32 (fun _ => rfl) (inb_in hi9) dX8_outer_6 ?_
  refine V_aload_n C 0 dX8_outer_7 rfl 0 rfl ?_
  refine V_getf (v := .ref (E.1 32 0)) C 30 0 m_30 fl_RX8_13 rfl rfl dX8_outer_8 ?_
  refine V_bipush C (19 : Int32) dX8_outer_11 (by decide) ?_
  obtain ⟨hi9, h⟩ := gd_inv h
  refine V_iald C 32 0 m_32 (fun _ => rfl) (inb_in hi9) dX8_outer_13 ?_
  refine V_iadd C dX8_outer_14 ?_
  refine V_topi (fun x_1 hn9 => ?_)
  replace h := lt_eq hn9 h; clear hn9
  refine V_istore_n (L' := [(0, .ref (E.1 30 0)), (1, .int a1), (2, .int x_1)]) C 2 dX8_outer_15 rfl (by decide) [1, 2, 0] rfl ?_
  refine V_iload_n C 2 dX8_outer_16 rfl 2 rfl ?_
  refine V_iconst C (3 : Int32) dX8_outer_17 (by decide) ?_
  refine V_icmp_le C (tgt := 27) dX8_outer_18 (by decide) (fun hc => ?_) (fun hc => ?_)
  · replace h := (if_pos hc).symm.trans h
    refine V_aload_n C 0 dX8_outer_27 rfl 0 rfl ?_
    refine V_iload_n C 2 dX8_outer_28 rfl 2 rfl ?_
    refine V_aload_n C 0 dX8_outer_29 rfl 0 rfl ?_
    refine V_iconst C (0 : Int32) dX8_outer_30 (by decide) ?_
    refine V_iconst C (0 : Int32) dX8_outer_31 (by decide) ?_
    refine V_iconst C (0 : Int32) dX8_outer_32 (by decide) ?_
    obtain ⟨v_2, hv, h⟩ := bP_inv h
    refine V_callVo C 30 0 m_30 (some (.int v_2)) (con_X8_joined hl (0 : Int32) (0 : Int32) (0 : Int32) hv) tb_X8_joined lk_RX8_166 rfl rfl rfl (by decide) (by decide) rfl (Nat.le_of_ble_eq_true rfl) rfl dX8_outer_33 rfl ?_
    clear hv
    refine V_aload_n C 0 dX8_outer_36 rfl 0 rfl ?_
    refine V_iconst C (1 : Int32) dX8_outer_37 (by decide) ?_
    refine V_iconst C (0 : Int32) dX8_outer_38 (by decide) ?_
    refine V_iconst C (0 : Int32) dX8_outer_39 (by decide) ?_
    obtain ⟨v_3, hv, h⟩ := bP_inv h
    refine V_callVo C 30 0 m_30 (some (.int v_3)) (con_X8_joined hl (1 : Int32) (0 : Int32) (0 : Int32) hv) tb_X8_joined lk_RX8_166 rfl rfl rfl (by decide) (by decide) rfl (Nat.le_of_ble_eq_true rfl) rfl dX8_outer_40 rfl ?_
    clear hv
    refine V_aload_n C 0 dX8_outer_43 rfl 0 rfl ?_
    refine V_iconst C (2 : Int32) dX8_outer_44 (by decide) ?_
    refine V_iconst C (0 : Int32) dX8_outer_45 (by decide) ?_
    refine V_iconst C (0 : Int32) dX8_outer_46 (by decide) ?_
    obtain ⟨v_4, hv, h⟩ := bP_inv h
    refine V_callVo C 30 0 m_30 (some (.int v_4)) (con_X8_joined hl (2 : Int32) (0 : Int32) (0 : Int32) hv) tb_X8_joined lk_RX8_166 rfl rfl rfl (by decide) (by decide) rfl (Nat.le_of_ble_eq_true rfl) rfl dX8_outer_47 rfl ?_
    clear hv
    obtain ⟨v_5, μ_6, hv, h⟩ := bW_inv h
    refine V_callVo C 30 0 m_30 (some (.int v_5)) (con_X8_shape hl x_1 v_2 v_3 v_4 hv) tb_X8_shape lk_RX8_128 rfl rfl rfl (by decide) (by decide) rfl (Nat.le_of_ble_eq_true rfl) rfl dX8_outer_50 rfl ?_
    clear hv
    refine V_if_ne C (tgt := 58) dX8_outer_53 (by decide) (fun hc => ?_) (fun hc => ?_)
    · replace h := (if_neg hc).symm.trans h
      refine V_aload_n C 0 dX8_outer_58 rfl 0 rfl ?_
      refine V_bipush C (8 : Int32) dX8_outer_59 (by decide) ?_
      obtain ⟨v_7, hv, h⟩ := bP_inv h
      refine V_callVo C 30 0 m_30 (some (.int v_7)) (con_X8_sizeOf hl (8 : Int32) hv) tb_X8_sizeOf lk_RX8_98 rfl rfl rfl (by decide) (by decide) rfl (Nat.le_of_ble_eq_true rfl) rfl dX8_outer_61 rfl ?_
      clear hv
      refine V_istore_n (L' := [(0, .ref (E.1 30 0)), (1, .int a1), (2, .int x_1), (3, .int v_7)]) C 3 dX8_outer_64 rfl (by decide) [1, 2, 3, 0] rfl ?_
      refine V_aload_n C 0 dX8_outer_65 rfl 0 rfl ?_
      refine V_bipush C (19 : Int32) dX8_outer_66 (by decide) ?_
      obtain ⟨v_8, hv, h⟩ := bP_inv h
      refine V_callVo C 30 0 m_30 (some (.int v_8)) (con_X8_sizeOf hl (19 : Int32) hv) tb_X8_sizeOf lk_RX8_98 rfl rfl rfl (by decide) (by decide) rfl (Nat.le_of_ble_eq_true rfl) rfl dX8_outer_68 rfl ?_
      clear hv
      refine V_istore (L' := [(0, .ref (E.1 30 0)), (1, .int a1), (2, .int x_1), (3, .int v_7), (4, .int v_8)]) C dX8_outer_71 (by decide) [1, 2, 3, 4, 0] rfl ?_
      refine V_iconst C (0 : Int32) dX8_outer_73 (by decide) ?_
      refine V_istore (L' := [(0, .ref (E.1 30 0)), (1, .int a1), (2, .int x_1), (3, .int v_7), (4, .int v_8), (5, .int (0 : Int32))]) C dX8_outer_74 (by decide) [1, 2, 3, 4, 5, 0] rfl ?_
      refine V_sub (LP := [(0, .ref (E.1 30 0)), (1, .int a1), (3, .int v_7), (4, .int v_8), (5, .int (0 : Int32))]) [0, 1, 3, 4, 5] rfl ?_
      refine lp_X8_outer_76 hl C a1 v_7 v_8 (fun μ_22 x h => ?_) 1000 _ _ h
      refine V_aload_n C 0 dX8_outer_132 rfl 0 rfl ?_
      refine V_getf (v := .int (μ_22 30 0 16)) C 30 0 m_30 fl_RX8_92 rfl rfl dX8_outer_133 ?_
      refine V_if_ne C (tgt := 143) dX8_outer_136 (by decide) (fun hc => ?_) (fun hc => ?_)
      · replace h := (if_neg hc).symm.trans h
        refine V_iconst C (0 : Int32) dX8_outer_143 (by decide) ?_
        cases h
        exact V_ireturn C rfl rfl rfl dX8_outer_144
      · replace h := (if_pos hc).symm.trans h
        refine V_iconst C (1 : Int32) dX8_outer_139 (by decide) ?_
        refine V_goto C (tgt := 144) dX8_outer_140 (by decide) ?_
        cases h
        exact V_ireturn C rfl rfl rfl dX8_outer_144
    · replace h := (if_pos hc).symm.trans h
      refine V_iconst C (0 : Int32) dX8_outer_56 (by decide) ?_
      cases h
      exact V_ireturn C rfl rfl rfl dX8_outer_57
  · replace h := (if_neg hc).symm.trans h
    refine V_aload_n C 0 dX8_outer_21 rfl 0 rfl ?_
    refine V_iconst C (4 : Int32) dX8_outer_22 (by decide) ?_
    obtain ⟨v_23, μ_24, hv, h⟩ := bW_inv h
    refine V_callVo C 30 0 m_30 (some (.int v_23)) (con_X8_stop hl (4 : Int32) hv) tb_X8_stop lk_RX8_95 rfl rfl rfl (by decide) (by decide) rfl (Nat.le_of_ble_eq_true rfl) rfl dX8_outer_23 rfl ?_
    clear hv
    obtain ⟨hr9, h⟩ := gd_inv h
    cases h
    exact V_ireturn C rfl (isb_nar hr9) rfl dX8_outer_26
set_option maxHeartbeats 4000000 in
set_option maxRecDepth 100000 in
theorem lp_X8_reshape_31 {Y : Mc} {l : Launch} {E : WE} (hl : l.stackTraces = false) (C : Ok Y l E lvM 5 RX8 cX8_reshape (some .boolean) 3) {κ : Unit → Option (Int32 × Mem)} (c1_5 : Int32) (μ_7 : Mem)  (hκ : ∀ (_ : Unit) x, κ () = some x → V Y l E lvM 5 (rWi x) 58 [(0, .ref (E.1 30 0)), (1, .int c1_5)] [] μ_7) : ∀ (n : Nat) (a2_6 : Int32) {x}, f_X8_reshape_L31 κ c1_5 μ_7 n a2_6 = some x → V Y l E lvM 5 (rWi x) 31 [(0, .ref (E.1 30 0)), (1, .int c1_5), (2, .int a2_6)] [] μ_7 := by
  intro n
  induction n with
  | zero =>
    intro a2_6 x h
    simp [f_X8_reshape_L31] at h
  | succ n ih =>
    intro a2_6 x h
    rw [f_X8_reshape_L31] at h
    refine V_iload_n C 2 dX8_reshape_31 rfl 2 rfl ?_
    refine V_iload_n C 1 dX8_reshape_32 rfl 1 rfl ?_
    refine V_icmp_ge C (tgt := 58) dX8_reshape_33 (by decide) (fun hc => ?_) (fun hc => ?_)
    · replace h := (if_pos hc).symm.trans h
      refine V_sub (LP := [(0, .ref (E.1 30 0)), (1, .int c1_5)]) [0, 1] rfl ?_
      exact hκ () _ h
    · replace h := (if_neg hc).symm.trans h
      refine V_aload_n C 0 dX8_reshape_36 rfl 0 rfl ?_
      refine V_bipush C (18 : Int32) dX8_reshape_37 (by decide) ?_
      refine V_iload_n C 2 dX8_reshape_39 rfl 2 rfl ?_
      obtain ⟨v_8, hv, h⟩ := bP_inv h
      refine V_callVo C 30 0 m_30 (some (.int v_8)) (con_X8_get hl (18 : Int32) a2_6 hv) tb_X8_get lk_RX8_119 rfl rfl rfl (by decide) (by decide) rfl (Nat.le_of_ble_eq_true rfl) rfl dX8_reshape_40 rfl ?_
      clear hv
      refine V_if_ge C (tgt := 52) dX8_reshape_43 (by decide) (fun hc => ?_) (fun hc => ?_)
      · replace h := (if_pos hc).symm.trans h
        obtain ⟨x_9, hn9⟩ : ∃ z : Int32, z = a2_6 + (1 : Int32) := ⟨_, rfl⟩
        replace h := lt_eq hn9 h
        refine V_iinc (L' := [(0, .ref (E.1 30 0)), (1, .int c1_5), (2, .int x_9)]) C x_9 dX8_reshape_52 2 rfl (by rw [hn9]; exact congrArg (a2_6 + ·) (by decide)) (by decide) [1, 2, 0] rfl ?_
        clear hn9
        refine V_goto C (tgt := 31) dX8_reshape_55 (by decide) ?_
        refine V_sub (LP := [(0, .ref (E.1 30 0)), (1, .int c1_5), (2, .int x_9)]) [0, 1, 2] rfl ?_
        exact ih _ h
      · replace h := (if_neg hc).symm.trans h
        refine V_aload_n C 0 dX8_reshape_46 rfl 0 rfl ?_
        refine V_iconst C (2 : Int32) dX8_reshape_47 (by decide) ?_
        obtain ⟨v_10, μ_11, hv, h⟩ := bW_inv h
        refine V_callVo C 30 0 m_30 (some (.int v_10)) (con_X8_stop hl (2 : Int32) hv) tb_X8_stop lk_RX8_95 rfl rfl rfl (by decide) (by decide) rfl (Nat.le_of_ble_eq_true rfl) rfl dX8_reshape_48 rfl ?_
        clear hv
        obtain ⟨hr9, h⟩ := gd_inv h
        cases h
        exact V_ireturn C rfl (isb_nar hr9) rfl dX8_reshape_51
set_option maxHeartbeats 4000000 in
set_option maxRecDepth 100000 in
theorem lp_X8_reshape_146 {Y : Mc} {l : Launch} {E : WE} (hl : l.stackTraces = false) (C : Ok Y l E lvM 5 RX8 cX8_reshape (some .boolean) 3) {κ : Mem → Option (Int32 × Mem)} (c2_24 : Int32) (c3_25 : Int32)  (hκ : ∀  (μ_32 : Mem) x, κ  μ_32 = some x → V Y l E lvM 5 (rWi x) 176 [] [] μ_32) : ∀ (n : Nat) (a4_26 : Int32) (μ_27 : Mem) {x}, f_X8_reshape_L146 κ c2_24 c3_25 n a4_26 μ_27 = some x → V Y l E lvM 5 (rWi x) 146 [(0, .ref (E.1 30 0)), (2, .int c2_24), (3, .int c3_25), (4, .int a4_26)] [] μ_27 := by
  intro n
  induction n with
  | zero =>
    intro a4_26 μ_27 x h
    simp [f_X8_reshape_L146] at h
  | succ n ih =>
    intro a4_26 μ_27 x h
    rw [f_X8_reshape_L146] at h
    refine V_iload C dX8_reshape_146 3 rfl ?_
    refine V_iload_n C 2 dX8_reshape_148 rfl 1 rfl ?_
    refine V_icmp_ge C (tgt := 176) dX8_reshape_149 (by decide) (fun hc => ?_) (fun hc => ?_)
    · replace h := (if_pos hc).symm.trans h
      refine V_sub (LP := []) [] rfl ?_
      exact hκ _ _ h
    · replace h := (if_neg hc).symm.trans h
      refine V_aload_n C 0 dX8_reshape_152 rfl 0 rfl ?_
      refine V_bipush C (8 : Int32) dX8_reshape_153 (by decide) ?_
      refine V_iload C dX8_reshape_155 3 rfl ?_
      refine V_aload_n C 0 dX8_reshape_157 rfl 0 rfl ?_
      refine V_bipush C (19 : Int32) dX8_reshape_158 (by decide) ?_
      refine V_iload C dX8_reshape_160 3 rfl ?_
      refine V_iload_n C 3 dX8_reshape_162 rfl 2 rfl ?_
      obtain ⟨hz9, h⟩ := gd_inv h
      refine V_irem C dX8_reshape_163 (nz_ne hz9) ?_
      obtain ⟨v_28, hv, h⟩ := bP_inv h
      refine V_callVo C 30 0 m_30 (some (.int v_28)) (con_X8_get hl (19 : Int32) (a4_26 - a4_26 / c3_25 * c3_25) hv) tb_X8_get lk_RX8_119 rfl rfl rfl (by decide) (by decide) rfl (Nat.le_of_ble_eq_true rfl) rfl dX8_reshape_164 rfl ?_
      clear hv
      obtain ⟨u_29, μ_30, hv, h⟩ := bW_inv h
      refine V_callVo C 30 0 m_30 none (con_X8_set hl (8 : Int32) a4_26 v_28 hv) tb_X8_set lk_RX8_122 rfl rfl rfl (by decide) (by decide) rfl (Nat.le_of_ble_eq_true rfl) rfl dX8_reshape_167 rfl ?_
      clear hv
      obtain ⟨x_31, hn9⟩ : ∃ z : Int32, z = a4_26 + (1 : Int32) := ⟨_, rfl⟩
      replace h := lt_eq hn9 h
      refine V_iinc (L' := [(0, .ref (E.1 30 0)), (2, .int c2_24), (3, .int c3_25), (4, .int x_31)]) C x_31 dX8_reshape_170 3 rfl (by rw [hn9]; exact congrArg (a4_26 + ·) (by decide)) (by decide) [1, 2, 3, 0] rfl ?_
      clear hn9
      refine V_goto C (tgt := 146) dX8_reshape_173 (by decide) ?_
      refine V_sub (LP := [(0, .ref (E.1 30 0)), (2, .int c2_24), (3, .int c3_25), (4, .int x_31)]) [0, 1, 2, 3] rfl ?_
      exact ih _ _ h
set_option maxHeartbeats 4000000 in
set_option maxRecDepth 100000 in
theorem con_X8_reshape {l : Launch} {E : WE} (hl : l.stackTraces = false)   {μ : Mem} {x} (h : f_X8_reshape  μ = some x) : Con l E lvM yX8_reshape cX8_reshape 5 (some .boolean) 3 [.ref (E.1 30 0)] μ (rWi x) := by
  refine Con.of (by decide) hl (Nat.le_of_ble_eq_true rfl) (fun Y C => ?_)
  replace C : Ok Y l E lvM 5 RX8 cX8_reshape (some .boolean) 3 := C
  show V Y l E lvM 5 (rWi x) 0 [(0, .ref (E.1 30 0))] [] μ
  unfold f_X8_reshape at h
  refine V_aload_n C 0 dX8_reshape_0 rfl 0 rfl ?_
  refine V_bipush C (18 : Int32) dX8_reshape_1 (by decide) ?_
  obtain ⟨v_1, hv, h⟩ := bP_inv h
  refine V_callVo C 30 0 m_30 (some (.int v_1)) (con_X8_sizeOf hl (18 : Int32) hv) tb_X8_sizeOf lk_RX8_98 rfl rfl rfl (by decide) (by decide) rfl (Nat.le_of_ble_eq_true rfl) rfl dX8_reshape_3 rfl ?_
  clear hv
  refine V_istore_n (L' := [(0, .ref (E.1 30 0)), (1, .int v_1)]) C 1 dX8_reshape_6 rfl (by decide) [1, 0] rfl ?_
  refine V_aload_n C 0 dX8_reshape_7 rfl 0 rfl ?_
  refine V_getf (v := .ref (E.1 32 0)) C 30 0 m_30 fl_RX8_13 rfl rfl dX8_reshape_8 ?_
  refine V_bipush C (18 : Int32) dX8_reshape_11 (by decide) ?_
  obtain ⟨hi9, h⟩ := gd_inv h
  refine V_iald C 32 0 m_32 (fun _ => rfl) (inb_in hi9) dX8_reshape_13 ?_
  refine V_iconst C (1 : Int32) dX8_reshape_14 (by decide) ?_
  obtain ⟨j_2, hj_2, h⟩ := jn_ex h
  have J_2 : ∀ (_ : Unit) x, j_2 () = some x → V Y l E lvM 5 (rWi x) 23 [(0, .ref (E.1 30 0))] [] μ := by
    intro _  x h
    rw [hj_2] at h; clear hj_2
    refine V_aload_n C 0 dX8_reshape_23 rfl 0 rfl ?_
    refine V_iconst C (4 : Int32) dX8_reshape_24 (by decide) ?_
    obtain ⟨v_3, μ_4, hv, h⟩ := bW_inv h
    refine V_callVo C 30 0 m_30 (some (.int v_3)) (con_X8_stop hl (4 : Int32) hv) tb_X8_stop lk_RX8_95 rfl rfl rfl (by decide) (by decide) rfl (Nat.le_of_ble_eq_true rfl) rfl dX8_reshape_25 rfl ?_
    clear hv
    obtain ⟨hr9, h⟩ := gd_inv h
    cases h
    exact V_ireturn C rfl (isb_nar hr9) rfl dX8_reshape_28
  clear hj_2
  refine V_icmp_gt C (tgt := 23) dX8_reshape_15 (by decide) (fun hc => ?_) (fun hc => ?_)
  · replace h := (if_pos hc).symm.trans h
    refine V_sub (LP := [(0, .ref (E.1 30 0))]) [0] rfl ?_
    exact J_2 () _ h
  · replace h := (if_neg hc).symm.trans h
    refine V_iload_n C 1 dX8_reshape_18 rfl 1 rfl ?_
    refine V_iconst C (3 : Int32) dX8_reshape_19 (by decide) ?_
    refine V_icmp_le C (tgt := 29) dX8_reshape_20 (by decide) (fun hc => ?_) (fun hc => ?_)
    · replace h := (if_pos hc).symm.trans h
      refine V_iconst C (0 : Int32) dX8_reshape_29 (by decide) ?_
      refine V_istore_n (L' := [(0, .ref (E.1 30 0)), (1, .int v_1), (2, .int (0 : Int32))]) C 2 dX8_reshape_30 rfl (by decide) [1, 2, 0] rfl ?_
      refine V_sub (LP := [(0, .ref (E.1 30 0)), (1, .int v_1), (2, .int (0 : Int32))]) [0, 1, 2] rfl ?_
      refine lp_X8_reshape_31 hl C v_1 μ (fun _ x h => ?_) 1000 _ h
      refine V_aload_n C 0 dX8_reshape_58 rfl 0 rfl ?_
      refine V_iload_n C 1 dX8_reshape_59 rfl 1 rfl ?_
      refine V_iload_n C 1 dX8_reshape_60 rfl 1 rfl ?_
      obtain ⟨j_13, hj_13, h⟩ := jn_ex h
      have J_13 : ∀ (s_12 : Int32) x, j_13 s_12 = some x → V Y l E lvM 5 (rWi x) 75 [(0, .ref (E.1 30 0)), (1, .int v_1)] [.int s_12, .int v_1, .ref (E.1 30 0)] μ := by
        intro s_12  x h
        rw [hj_13] at h; clear hj_13
        refine V_iload_n C 1 dX8_reshape_75 rfl 1 rfl ?_
        refine V_iconst C (1 : Int32) dX8_reshape_76 (by decide) ?_
        obtain ⟨j_15, hj_15, h⟩ := jn_ex h
        have J_15 : ∀ (s_14 : Int32) x, j_15 s_14 = some x → V Y l E lvM 5 (rWi x) 91 [(0, .ref (E.1 30 0)), (1, .int v_1)] [.int s_14, .int s_12, .int v_1, .ref (E.1 30 0)] μ := by
          intro s_14  x h
          rw [hj_15] at h; clear hj_15
          refine V_iload_n C 1 dX8_reshape_91 rfl 1 rfl ?_
          refine V_iconst C (2 : Int32) dX8_reshape_92 (by decide) ?_
          obtain ⟨j_17, hj_17, h⟩ := jn_ex h
          have J_17 : ∀ (s_16 : Int32) x, j_17 s_16 = some x → V Y l E lvM 5 (rWi x) 107 [(0, .ref (E.1 30 0))] [.int s_16, .int s_14, .int s_12, .int v_1, .ref (E.1 30 0)] μ := by
            intro s_16  x h
            rw [hj_17] at h; clear hj_17
            obtain ⟨v_18, μ_19, hv, h⟩ := bW_inv h
            refine V_callVo C 30 0 m_30 (some (.int v_18)) (con_X8_shape hl v_1 s_12 s_14 s_16 hv) tb_X8_shape lk_RX8_128 rfl rfl rfl (by decide) (by decide) rfl (Nat.le_of_ble_eq_true rfl) rfl dX8_reshape_107 rfl ?_
            clear hv
            refine V_if_ne C (tgt := 115) dX8_reshape_110 (by decide) (fun hc => ?_) (fun hc => ?_)
            · replace h := (if_neg hc).symm.trans h
              refine V_aload_n C 0 dX8_reshape_115 rfl 0 rfl ?_
              refine V_bipush C (8 : Int32) dX8_reshape_116 (by decide) ?_
              obtain ⟨v_20, hv, h⟩ := bP_inv h
              refine V_callVo C 30 0 m_30 (some (.int v_20)) (con_X8_sizeOf hl (8 : Int32) hv) tb_X8_sizeOf lk_RX8_98 rfl rfl rfl (by decide) (by decide) rfl (Nat.le_of_ble_eq_true rfl) rfl dX8_reshape_118 rfl ?_
              clear hv
              refine V_istore_n (L' := [(0, .ref (E.1 30 0)), (2, .int v_20)]) C 2 dX8_reshape_121 rfl (by decide) [1, 0] rfl ?_
              refine V_aload_n C 0 dX8_reshape_122 rfl 0 rfl ?_
              refine V_bipush C (19 : Int32) dX8_reshape_123 (by decide) ?_
              obtain ⟨v_21, hv, h⟩ := bP_inv h
              refine V_callVo C 30 0 m_30 (some (.int v_21)) (con_X8_sizeOf hl (19 : Int32) hv) tb_X8_sizeOf lk_RX8_98 rfl rfl rfl (by decide) (by decide) rfl (Nat.le_of_ble_eq_true rfl) rfl dX8_reshape_125 rfl ?_
              clear hv
              refine V_istore_n (L' := [(0, .ref (E.1 30 0)), (2, .int v_20), (3, .int v_21)]) C 3 dX8_reshape_128 rfl (by decide) [1, 2, 0] rfl ?_
              refine V_iload_n C 2 dX8_reshape_129 rfl 1 rfl ?_
              obtain ⟨j_23, hj_23, h⟩ := jn_ex h
              have J_23 : ∀ (μ_22 : Mem) x, j_23 μ_22 = some x → V Y l E lvM 5 (rWi x) 143 [(0, .ref (E.1 30 0)), (2, .int v_20), (3, .int v_21)] [] μ_22 := by
                intro μ_22  x h
                rw [hj_23] at h; clear hj_23
                refine V_iconst C (0 : Int32) dX8_reshape_143 (by decide) ?_
                refine V_istore (L' := [(0, .ref (E.1 30 0)), (2, .int v_20), (3, .int v_21), (4, .int (0 : Int32))]) C dX8_reshape_144 (by decide) [1, 2, 3, 0] rfl ?_
                refine V_sub (LP := [(0, .ref (E.1 30 0)), (2, .int v_20), (3, .int v_21), (4, .int (0 : Int32))]) [0, 1, 2, 3] rfl ?_
                refine lp_X8_reshape_146 hl C v_20 v_21 (fun μ_33 x h => ?_) 1000 _ _ h
                refine V_iconst C (1 : Int32) dX8_reshape_176 (by decide) ?_
                cases h
                exact V_ireturn C rfl rfl rfl dX8_reshape_177
              clear hj_23
              refine V_if_le C (tgt := 143) dX8_reshape_130 (by decide) (fun hc => ?_) (fun hc => ?_)
              · replace h := (if_pos hc).symm.trans h
                refine V_sub (LP := [(0, .ref (E.1 30 0)), (2, .int v_20), (3, .int v_21)]) [0, 1, 2] rfl ?_
                exact J_23 _ _ h
              · replace h := (if_neg hc).symm.trans h
                refine V_iload_n C 3 dX8_reshape_133 rfl 2 rfl ?_
                refine V_if_ne C (tgt := 143) dX8_reshape_134 (by decide) (fun hc => ?_) (fun hc => ?_)
                · replace h := (if_neg hc).symm.trans h
                  refine V_sub (LP := [(0, .ref (E.1 30 0)), (2, .int v_20), (3, .int v_21)]) [0, 1, 2] rfl ?_
                  exact J_23 _ _ h
                · replace h := (if_pos hc).symm.trans h
                  refine V_aload_n C 0 dX8_reshape_137 rfl 0 rfl ?_
                  refine V_iconst C (3 : Int32) dX8_reshape_138 (by decide) ?_
                  obtain ⟨v_34, μ_35, hv, h⟩ := bW_inv h
                  refine V_callVo C 30 0 m_30 (some (.int v_34)) (con_X8_stop hl (3 : Int32) hv) tb_X8_stop lk_RX8_95 rfl rfl rfl (by decide) (by decide) rfl (Nat.le_of_ble_eq_true rfl) rfl dX8_reshape_139 rfl ?_
                  clear hv
                  obtain ⟨hr9, h⟩ := gd_inv h
                  cases h
                  exact V_ireturn C rfl (isb_nar hr9) rfl dX8_reshape_142
            · replace h := (if_pos hc).symm.trans h
              refine V_iconst C (0 : Int32) dX8_reshape_113 (by decide) ?_
              cases h
              exact V_ireturn C rfl rfl rfl dX8_reshape_114
          clear hj_17
          refine V_icmp_le C (tgt := 106) dX8_reshape_93 (by decide) (fun hc => ?_) (fun hc => ?_)
          · replace h := (if_pos hc).symm.trans h
            refine V_iconst C (0 : Int32) dX8_reshape_106 (by decide) ?_
            refine V_sub (LP := [(0, .ref (E.1 30 0))]) [0] rfl ?_
            exact J_17 _ _ h
          · replace h := (if_neg hc).symm.trans h
            refine V_aload_n C 0 dX8_reshape_96 rfl 0 rfl ?_
            refine V_bipush C (18 : Int32) dX8_reshape_97 (by decide) ?_
            refine V_iconst C (2 : Int32) dX8_reshape_99 (by decide) ?_
            obtain ⟨v_36, hv, h⟩ := bP_inv h
            refine V_callVo C 30 0 m_30 (some (.int v_36)) (con_X8_get hl (18 : Int32) (2 : Int32) hv) tb_X8_get lk_RX8_119 rfl rfl rfl (by decide) (by decide) rfl (Nat.le_of_ble_eq_true rfl) rfl dX8_reshape_100 rfl ?_
            clear hv
            refine V_goto C (tgt := 107) dX8_reshape_103 (by decide) ?_
            refine V_sub (LP := [(0, .ref (E.1 30 0))]) [0] rfl ?_
            exact J_17 _ _ h
        clear hj_15
        refine V_icmp_le C (tgt := 90) dX8_reshape_77 (by decide) (fun hc => ?_) (fun hc => ?_)
        · replace h := (if_pos hc).symm.trans h
          refine V_iconst C (0 : Int32) dX8_reshape_90 (by decide) ?_
          refine V_sub (LP := [(0, .ref (E.1 30 0)), (1, .int v_1)]) [0, 1] rfl ?_
          exact J_15 _ _ h
        · replace h := (if_neg hc).symm.trans h
          refine V_aload_n C 0 dX8_reshape_80 rfl 0 rfl ?_
          refine V_bipush C (18 : Int32) dX8_reshape_81 (by decide) ?_
          refine V_iconst C (1 : Int32) dX8_reshape_83 (by decide) ?_
          obtain ⟨v_37, hv, h⟩ := bP_inv h
          refine V_callVo C 30 0 m_30 (some (.int v_37)) (con_X8_get hl (18 : Int32) (1 : Int32) hv) tb_X8_get lk_RX8_119 rfl rfl rfl (by decide) (by decide) rfl (Nat.le_of_ble_eq_true rfl) rfl dX8_reshape_84 rfl ?_
          clear hv
          refine V_goto C (tgt := 91) dX8_reshape_87 (by decide) ?_
          refine V_sub (LP := [(0, .ref (E.1 30 0)), (1, .int v_1)]) [0, 1] rfl ?_
          exact J_15 _ _ h
      clear hj_13
      refine V_if_le C (tgt := 74) dX8_reshape_61 (by decide) (fun hc => ?_) (fun hc => ?_)
      · replace h := (if_pos hc).symm.trans h
        refine V_iconst C (0 : Int32) dX8_reshape_74 (by decide) ?_
        refine V_sub (LP := [(0, .ref (E.1 30 0)), (1, .int v_1)]) [0, 1] rfl ?_
        exact J_13 _ _ h
      · replace h := (if_neg hc).symm.trans h
        refine V_aload_n C 0 dX8_reshape_64 rfl 0 rfl ?_
        refine V_bipush C (18 : Int32) dX8_reshape_65 (by decide) ?_
        refine V_iconst C (0 : Int32) dX8_reshape_67 (by decide) ?_
        obtain ⟨v_38, hv, h⟩ := bP_inv h
        refine V_callVo C 30 0 m_30 (some (.int v_38)) (con_X8_get hl (18 : Int32) (0 : Int32) hv) tb_X8_get lk_RX8_119 rfl rfl rfl (by decide) (by decide) rfl (Nat.le_of_ble_eq_true rfl) rfl dX8_reshape_68 rfl ?_
        clear hv
        refine V_goto C (tgt := 75) dX8_reshape_71 (by decide) ?_
        refine V_sub (LP := [(0, .ref (E.1 30 0)), (1, .int v_1)]) [0, 1] rfl ?_
        exact J_13 _ _ h
    · replace h := (if_neg hc).symm.trans h
      refine V_sub (LP := [(0, .ref (E.1 30 0))]) [0] rfl ?_
      exact J_2 () _ h
