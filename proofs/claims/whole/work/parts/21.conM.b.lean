set_option maxHeartbeats 4000000 in
set_option maxRecDepth 100000 in
theorem lp_X8_read_6 {Y : Mc} {l : Launch} {E : WE} (hl : l.stackTraces = false) (C : Ok Y l E lvM 6 RX8 cX8_read (some .boolean) 2) {κ : Mem → Option (Int32 × Mem)}   (hκ : ∀  (μ_38 : Mem) x, κ  μ_38 = some x → V Y l E lvM 6 (rWi x) 240 [] [] μ_38) : ∀ (n : Nat) (a1_1 : Int32) (a2_2 : Int32) (a3_3 : Int32) (μ_4 : Mem) {x}, f_X8_read_L6 κ  n a1_1 a2_2 a3_3 μ_4 = some x → V Y l E lvM 6 (rWi x) 6 [(0, .ref (E.1 30 0)), (1, .int a1_1), (2, .int a2_2), (3, .int a3_3)] [] μ_4 := by
  intro n
  induction n with
  | zero =>
    intro a1_1 a2_2 a3_3 μ_4 x h
    simp [f_X8_read_L6] at h
  | succ n ih =>
    intro a1_1 a2_2 a3_3 μ_4 x h
    rw [f_X8_read_L6] at h
    refine V_iload_n C 3 dX8_read_6 rfl 3 rfl ?_
    refine V_sipush C (201 : Int32) dX8_read_7 (by decide) ?_
    refine V_icmp_ge C (tgt := 240) dX8_read_10 (by decide) (fun hc => ?_) (fun hc => ?_)
    · replace h := (if_pos hc).symm.trans h
      refine V_sub (LP := []) [] rfl ?_
      exact hκ _ _ h
    · replace h := (if_neg hc).symm.trans h
      refine V_aload_n C 0 dX8_read_13 rfl 0 rfl ?_
      obtain ⟨v_5, μ_6, hv, h⟩ := bW_inv h
      refine V_callVo C 30 0 m_30 (some (.int v_5)) (con_X8_ahead hl hv) tb_X8_ahead lk_RX8_63 rfl rfl rfl (by decide) (by decide) rfl (Nat.le_of_ble_eq_true rfl) rfl dX8_read_14 rfl ?_
      clear hv
      refine V_istore (L' := [(0, .ref (E.1 30 0)), (1, .int a1_1), (2, .int a2_2), (3, .int a3_3), (4, .int v_5)]) C dX8_read_17 (by decide) [1, 2, 3, 4, 0] rfl ?_
      refine V_iload C dX8_read_19 4 rfl ?_
      refine V_if_ne C (tgt := 38) dX8_read_21 (by decide) (fun hc => ?_) (fun hc => ?_)
      · replace h := (if_neg hc).symm.trans h
        refine V_iload_n C 2 dX8_read_38 rfl 2 rfl ?_
        obtain ⟨j_10, hj_10, h⟩ := jn_ex h
        have J_10 : ∀ (a1_7 : Int32) (a2_8 : Int32) (μ_9 : Mem) x, j_10 a1_7 a2_8 μ_9 = some x → V Y l E lvM 6 (rWi x) 234 [(0, .ref (E.1 30 0)), (1, .int a1_7), (2, .int a2_8), (3, .int a3_3)] [] μ_9 := by
          intro a1_7 a2_8 μ_9  x h
          rw [hj_10] at h; clear hj_10
          obtain ⟨x_11, hn9⟩ : ∃ z : Int32, z = a3_3 + (1 : Int32) := ⟨_, rfl⟩
          replace h := lt_eq hn9 h
          refine V_iinc (L' := [(0, .ref (E.1 30 0)), (1, .int a1_7), (2, .int a2_8), (3, .int x_11)]) C x_11 dX8_read_234 3 rfl (by rw [hn9]; exact congrArg (a3_3 + ·) (by decide)) (by decide) [1, 2, 3, 0] rfl ?_
          clear hn9
          refine V_goto C (tgt := 6) dX8_read_237 (by decide) ?_
          refine V_sub (LP := [(0, .ref (E.1 30 0)), (1, .int a1_7), (2, .int a2_8), (3, .int x_11)]) [0, 1, 2, 3] rfl ?_
          exact ih _ _ _ _ h
        clear hj_10
        refine V_if_eq C (tgt := 174) dX8_read_39 (by decide) (fun hc => ?_) (fun hc => ?_)
        · replace h := (if_pos hc).symm.trans h
          refine V_iload C dX8_read_174 4 rfl ?_
          refine V_bipush C (41 : Int32) dX8_read_176 (by decide) ?_
          refine V_icmp_ne C (tgt := 211) dX8_read_178 (by decide) (fun hc => ?_) (fun hc => ?_)
          · replace h := (if_neg hc).symm.trans h
            refine V_aload_n C 0 dX8_read_211 rfl 0 rfl ?_
            obtain ⟨v_12, μ_13, hv, h⟩ := bW_inv h
            refine V_callVo C 30 0 m_30 (some (.int v_12)) (con_X8_two hl hv) tb_X8_two lk_RX8_85 rfl rfl rfl (by decide) (by decide) rfl (Nat.le_of_ble_eq_true rfl) rfl dX8_read_212 rfl ?_
            clear hv
            refine V_istore (L' := [(0, .ref (E.1 30 0)), (1, .int a1_1), (2, .int a2_2), (3, .int a3_3), (4, .int v_5), (5, .int v_12)]) C dX8_read_215 (by decide) [1, 2, 3, 4, 5, 0] rfl ?_
            refine V_iload C dX8_read_217 5 rfl ?_
            refine V_if_ge C (tgt := 224) dX8_read_219 (by decide) (fun hc => ?_) (fun hc => ?_)
            · replace h := (if_pos hc).symm.trans h
              refine V_aload_n C 0 dX8_read_224 rfl 0 rfl ?_
              refine V_iconst C (4 : Int32) dX8_read_225 (by decide) ?_
              refine V_iload C dX8_read_226 5 rfl ?_
              refine V_iconst C (0 : Int32) dX8_read_228 (by decide) ?_
              obtain ⟨u_14, μ_15, hv, h⟩ := bW_inv h
              refine V_callVo C 30 0 m_30 none (con_X8_add hl (4 : Int32) v_12 (0 : Int32) hv) tb_X8_add lk_RX8_71 rfl rfl rfl (by decide) (by decide) rfl (Nat.le_of_ble_eq_true rfl) rfl dX8_read_229 rfl ?_
              clear hv
              refine V_iconst C (1 : Int32) dX8_read_232 (by decide) ?_
              refine V_istore_n (L' := [(0, .ref (E.1 30 0)), (1, .int a1_1), (2, .int (1 : Int32)), (3, .int a3_3), (4, .int v_5), (5, .int v_12)]) C 2 dX8_read_233 rfl (by decide) [1, 2, 0, 3, 4, 5] rfl ?_
              refine V_sub (LP := [(0, .ref (E.1 30 0)), (1, .int a1_1), (2, .int (1 : Int32)), (3, .int a3_3)]) [0, 1, 2, 3] rfl ?_
              exact J_10 _ _ _ _ h
            · replace h := (if_neg hc).symm.trans h
              refine V_iconst C (0 : Int32) dX8_read_222 (by decide) ?_
              cases h
              exact V_ireturn C rfl rfl rfl dX8_read_223
          · replace h := (if_pos hc).symm.trans h
            refine V_aload_n C 0 dX8_read_181 rfl 0 rfl ?_
            refine V_aload_n C 0 dX8_read_182 rfl 0 rfl ?_
            refine V_getf (v := .int (μ_6 30 0 11)) C 30 0 m_30 fl_RX8_54 rfl rfl dX8_read_183 ?_
            refine V_iconst C (1 : Int32) dX8_read_186 (by decide) ?_
            refine V_iadd C dX8_read_187 ?_
            refine V_putI C 30 0 m_30 fp_RX8_54 rfl rfl rfl rfl (Nat.le_of_ble_eq_true rfl) dX8_read_188 ?_
            refine V_memn (fun μ_16 hn9 => ?_)
            replace h := lt_eq hn9 h; clear hn9
            refine V_iload_n C 1 dX8_read_191 rfl 1 rfl ?_
            refine V_iconst C (1 : Int32) dX8_read_192 (by decide) ?_
            refine V_isub C dX8_read_193 ?_
            refine V_topi (fun x_17 hn9 => ?_)
            replace h := lt_eq hn9 h; clear hn9
            refine V_istore_n (L' := [(0, .ref (E.1 30 0)), (1, .int x_17), (2, .int a2_2), (3, .int a3_3), (4, .int v_5)]) C 1 dX8_read_194 rfl (by decide) [1, 0, 2, 3, 4] rfl ?_
            refine V_iload_n C 1 dX8_read_195 rfl 1 rfl ?_
            refine V_if_ge C (tgt := 201) dX8_read_196 (by decide) (fun hc => ?_) (fun hc => ?_)
            · replace h := (if_pos hc).symm.trans h
              refine V_aload_n C 0 dX8_read_201 rfl 0 rfl ?_
              refine V_iconst C (3 : Int32) dX8_read_202 (by decide) ?_
              refine V_iconst C (0 : Int32) dX8_read_203 (by decide) ?_
              refine V_iconst C (0 : Int32) dX8_read_204 (by decide) ?_
              obtain ⟨u_18, μ_19, hv, h⟩ := bW_inv h
              refine V_callVo C 30 0 m_30 none (con_X8_add hl (3 : Int32) (0 : Int32) (0 : Int32) hv) tb_X8_add lk_RX8_71 rfl rfl rfl (by decide) (by decide) rfl (Nat.le_of_ble_eq_true rfl) rfl dX8_read_205 rfl ?_
              clear hv
              refine V_goto C (tgt := 234) dX8_read_208 (by decide) ?_
              refine V_sub (LP := [(0, .ref (E.1 30 0)), (1, .int x_17), (2, .int a2_2), (3, .int a3_3)]) [0, 1, 2, 3] rfl ?_
              exact J_10 _ _ _ _ h
            · replace h := (if_neg hc).symm.trans h
              refine V_iconst C (0 : Int32) dX8_read_199 (by decide) ?_
              cases h
              exact V_ireturn C rfl rfl rfl dX8_read_200
        · replace h := (if_neg hc).symm.trans h
          refine V_iload C dX8_read_42 4 rfl ?_
          obtain ⟨v_20, hv, h⟩ := bP_inv h
          refine V_callSo C (some (.int v_20)) (con_X8_digit hl v_5 hv) tb_X8_digit lk_RX8_67 (by decide) (by decide) rfl (Nat.le_of_ble_eq_true rfl) rfl dX8_read_44 rfl ?_
          clear hv
          obtain ⟨j_21, hj_21, h⟩ := jn_ex h
          have J_21 : ∀ (_ : Unit) x, j_21 () = some x → V Y l E lvM 6 (rWi x) 57 [(0, .ref (E.1 30 0)), (1, .int a1_1), (3, .int a3_3)] [] μ_6 := by
            intro _  x h
            rw [hj_21] at h; clear hj_21
            refine V_aload_n C 0 dX8_read_57 rfl 0 rfl ?_
            obtain ⟨v_22, μ_23, hv, h⟩ := bW_inv h
            refine V_callVo C 30 0 m_30 (some (.int v_22)) (con_X8_row hl hv) tb_X8_row lk_RX8_79 rfl rfl rfl (by decide) (by decide) rfl (Nat.le_of_ble_eq_true rfl) rfl dX8_read_58 rfl ?_
            clear hv
            refine V_if_ne C (tgt := 66) dX8_read_61 (by decide) (fun hc => ?_) (fun hc => ?_)
            · replace h := (if_neg hc).symm.trans h
              refine V_iconst C (0 : Int32) dX8_read_66 (by decide) ?_
              refine V_istore_n (L' := [(0, .ref (E.1 30 0)), (1, .int a1_1), (2, .int (0 : Int32)), (3, .int a3_3)]) C 2 dX8_read_67 rfl (by decide) [1, 2, 0, 3] rfl ?_
              refine V_goto C (tgt := 234) dX8_read_68 (by decide) ?_
              refine V_sub (LP := [(0, .ref (E.1 30 0)), (1, .int a1_1), (2, .int (0 : Int32)), (3, .int a3_3)]) [0, 1, 2, 3] rfl ?_
              exact J_10 _ _ _ _ h
            · replace h := (if_pos hc).symm.trans h
              refine V_iconst C (0 : Int32) dX8_read_64 (by decide) ?_
              cases h
              exact V_ireturn C rfl rfl rfl dX8_read_65
          clear hj_21
          refine V_if_ne C (tgt := 57) dX8_read_47 (by decide) (fun hc => ?_) (fun hc => ?_)
          · replace h := (if_neg hc).symm.trans h
            refine V_sub (LP := [(0, .ref (E.1 30 0)), (1, .int a1_1), (3, .int a3_3)]) [0, 1, 3] rfl ?_
            exact J_21 () _ h
          · replace h := (if_pos hc).symm.trans h
            refine V_iload C dX8_read_50 4 rfl ?_
            refine V_bipush C (95 : Int32) dX8_read_52 (by decide) ?_
            refine V_icmp_ne C (tgt := 71) dX8_read_54 (by decide) (fun hc => ?_) (fun hc => ?_)
            · replace h := (if_neg hc).symm.trans h
              refine V_iload C dX8_read_71 4 rfl ?_
              refine V_bipush C (65 : Int32) dX8_read_73 (by decide) ?_
              obtain ⟨j_26, hj_26, h⟩ := jn_ex h
              have J_26 : ∀ (a2_24 : Int32) (μ_25 : Mem) x, j_26 a2_24 μ_25 = some x → V Y l E lvM 6 (rWi x) 111 [(0, .ref (E.1 30 0)), (1, .int a1_1), (2, .int a2_24), (3, .int a3_3), (4, .int v_5)] [] μ_25 := by
                intro a2_24 μ_25  x h
                rw [hj_26] at h; clear hj_26
                refine V_iload C dX8_read_111 4 rfl ?_
                refine V_bipush C (40 : Int32) dX8_read_113 (by decide) ?_
                refine V_icmp_ne C (tgt := 150) dX8_read_115 (by decide) (fun hc => ?_) (fun hc => ?_)
                · replace h := (if_neg hc).symm.trans h
                  refine V_aload_n C 0 dX8_read_150 rfl 0 rfl ?_
                  obtain ⟨v_27, μ_28, hv, h⟩ := bW_inv h
                  refine V_callVo C 30 0 m_30 (some (.int v_27)) (con_X8_one hl hv) tb_X8_one lk_RX8_82 rfl rfl rfl (by decide) (by decide) rfl (Nat.le_of_ble_eq_true rfl) rfl dX8_read_151 rfl ?_
                  clear hv
                  refine V_istore (L' := [(0, .ref (E.1 30 0)), (1, .int a1_1), (2, .int a2_24), (3, .int a3_3), (4, .int v_5), (5, .int v_27)]) C dX8_read_154 (by decide) [1, 2, 3, 4, 5, 0] rfl ?_
                  refine V_iload C dX8_read_156 5 rfl ?_
                  refine V_if_ge C (tgt := 163) dX8_read_158 (by decide) (fun hc => ?_) (fun hc => ?_)
                  · replace h := (if_pos hc).symm.trans h
                    refine V_aload_n C 0 dX8_read_163 rfl 0 rfl ?_
                    refine V_iconst C (5 : Int32) dX8_read_164 (by decide) ?_
                    refine V_iload C dX8_read_165 5 rfl ?_
                    refine V_iconst C (0 : Int32) dX8_read_167 (by decide) ?_
                    obtain ⟨u_29, μ_30, hv, h⟩ := bW_inv h
                    refine V_callVo C 30 0 m_30 none (con_X8_add hl (5 : Int32) v_27 (0 : Int32) hv) tb_X8_add lk_RX8_71 rfl rfl rfl (by decide) (by decide) rfl (Nat.le_of_ble_eq_true rfl) rfl dX8_read_168 rfl ?_
                    clear hv
                    refine V_goto C (tgt := 234) dX8_read_171 (by decide) ?_
                    refine V_sub (LP := [(0, .ref (E.1 30 0)), (1, .int a1_1), (2, .int a2_24), (3, .int a3_3)]) [0, 1, 2, 3] rfl ?_
                    exact J_10 _ _ _ _ h
                  · replace h := (if_neg hc).symm.trans h
                    refine V_iconst C (0 : Int32) dX8_read_161 (by decide) ?_
                    cases h
                    exact V_ireturn C rfl rfl rfl dX8_read_162
                · replace h := (if_pos hc).symm.trans h
                  refine V_aload_n C 0 dX8_read_118 rfl 0 rfl ?_
                  refine V_aload_n C 0 dX8_read_119 rfl 0 rfl ?_
                  refine V_getf (v := .int (μ_25 30 0 11)) C 30 0 m_30 fl_RX8_54 rfl rfl dX8_read_120 ?_
                  refine V_iconst C (1 : Int32) dX8_read_123 (by decide) ?_
                  refine V_iadd C dX8_read_124 ?_
                  refine V_putI C 30 0 m_30 fp_RX8_54 rfl rfl rfl rfl (Nat.le_of_ble_eq_true rfl) dX8_read_125 ?_
                  refine V_memn (fun μ_31 hn9 => ?_)
                  replace h := lt_eq hn9 h; clear hn9
                  refine V_iload_n C 1 dX8_read_128 rfl 1 rfl ?_
                  refine V_iconst C (1 : Int32) dX8_read_129 (by decide) ?_
                  refine V_iadd C dX8_read_130 ?_
                  refine V_topi (fun x_32 hn9 => ?_)
                  replace h := lt_eq hn9 h; clear hn9
                  refine V_istore_n (L' := [(0, .ref (E.1 30 0)), (1, .int x_32), (2, .int a2_24), (3, .int a3_3), (4, .int v_5)]) C 1 dX8_read_131 rfl (by decide) [1, 0, 2, 3, 4] rfl ?_
                  refine V_iload_n C 1 dX8_read_132 rfl 1 rfl ?_
                  refine V_bipush C (6 : Int32) dX8_read_133 (by decide) ?_
                  refine V_icmp_le C (tgt := 140) dX8_read_135 (by decide) (fun hc => ?_) (fun hc => ?_)
                  · replace h := (if_pos hc).symm.trans h
                    refine V_aload_n C 0 dX8_read_140 rfl 0 rfl ?_
                    refine V_iconst C (2 : Int32) dX8_read_141 (by decide) ?_
                    refine V_iconst C (0 : Int32) dX8_read_142 (by decide) ?_
                    refine V_iconst C (0 : Int32) dX8_read_143 (by decide) ?_
                    obtain ⟨u_33, μ_34, hv, h⟩ := bW_inv h
                    refine V_callVo C 30 0 m_30 none (con_X8_add hl (2 : Int32) (0 : Int32) (0 : Int32) hv) tb_X8_add lk_RX8_71 rfl rfl rfl (by decide) (by decide) rfl (Nat.le_of_ble_eq_true rfl) rfl dX8_read_144 rfl ?_
                    clear hv
                    refine V_goto C (tgt := 234) dX8_read_147 (by decide) ?_
                    refine V_sub (LP := [(0, .ref (E.1 30 0)), (1, .int x_32), (2, .int a2_24), (3, .int a3_3)]) [0, 1, 2, 3] rfl ?_
                    exact J_10 _ _ _ _ h
                  · replace h := (if_neg hc).symm.trans h
                    refine V_iconst C (0 : Int32) dX8_read_138 (by decide) ?_
                    cases h
                    exact V_ireturn C rfl rfl rfl dX8_read_139
              clear hj_26
              refine V_icmp_lt C (tgt := 111) dX8_read_75 (by decide) (fun hc => ?_) (fun hc => ?_)
              · replace h := (if_pos hc).symm.trans h
                refine V_sub (LP := [(0, .ref (E.1 30 0)), (1, .int a1_1), (2, .int a2_2), (3, .int a3_3), (4, .int v_5)]) [0, 1, 2, 3, 4] rfl ?_
                exact J_26 _ _ _ h
              · replace h := (if_neg hc).symm.trans h
                refine V_iload C dX8_read_78 4 rfl ?_
                refine V_bipush C (72 : Int32) dX8_read_80 (by decide) ?_
                refine V_icmp_gt C (tgt := 111) dX8_read_82 (by decide) (fun hc => ?_) (fun hc => ?_)
                · replace h := (if_pos hc).symm.trans h
                  refine V_sub (LP := [(0, .ref (E.1 30 0)), (1, .int a1_1), (2, .int a2_2), (3, .int a3_3), (4, .int v_5)]) [0, 1, 2, 3, 4] rfl ?_
                  exact J_26 _ _ _ h
                · replace h := (if_neg hc).symm.trans h
                  refine V_aload_n C 0 dX8_read_85 rfl 0 rfl ?_
                  refine V_aload_n C 0 dX8_read_86 rfl 0 rfl ?_
                  refine V_getf (v := .int (μ_6 30 0 11)) C 30 0 m_30 fl_RX8_54 rfl rfl dX8_read_87 ?_
                  refine V_iconst C (1 : Int32) dX8_read_90 (by decide) ?_
                  refine V_iadd C dX8_read_91 ?_
                  refine V_putI C 30 0 m_30 fp_RX8_54 rfl rfl rfl rfl (Nat.le_of_ble_eq_true rfl) dX8_read_92 ?_
                  refine V_memn (fun μ_35 hn9 => ?_)
                  replace h := lt_eq hn9 h; clear hn9
                  refine V_aload_n C 0 dX8_read_95 rfl 0 rfl ?_
                  refine V_iconst C (1 : Int32) dX8_read_96 (by decide) ?_
                  refine V_iload C dX8_read_97 4 rfl ?_
                  refine V_bipush C (65 : Int32) dX8_read_99 (by decide) ?_
                  refine V_isub C dX8_read_101 ?_
                  refine V_iconst C (0 : Int32) dX8_read_102 (by decide) ?_
                  obtain ⟨u_36, μ_37, hv, h⟩ := bW_inv h
                  refine V_callVo C 30 0 m_30 none (con_X8_add hl (1 : Int32) (v_5 - (65 : Int32)) (0 : Int32) hv) tb_X8_add lk_RX8_71 rfl rfl rfl (by decide) (by decide) rfl (Nat.le_of_ble_eq_true rfl) rfl dX8_read_103 rfl ?_
                  clear hv
                  refine V_iconst C (0 : Int32) dX8_read_106 (by decide) ?_
                  refine V_istore_n (L' := [(0, .ref (E.1 30 0)), (1, .int a1_1), (2, .int (0 : Int32)), (3, .int a3_3), (4, .int v_5)]) C 2 dX8_read_107 rfl (by decide) [1, 2, 0, 3, 4] rfl ?_
                  refine V_goto C (tgt := 234) dX8_read_108 (by decide) ?_
                  refine V_sub (LP := [(0, .ref (E.1 30 0)), (1, .int a1_1), (2, .int (0 : Int32)), (3, .int a3_3)]) [0, 1, 2, 3] rfl ?_
                  exact J_10 _ _ _ _ h
            · replace h := (if_pos hc).symm.trans h
              refine V_sub (LP := [(0, .ref (E.1 30 0)), (1, .int a1_1), (3, .int a3_3)]) [0, 1, 3] rfl ?_
              exact J_21 () _ h
      · replace h := (if_pos hc).symm.trans h
        refine V_iload_n C 2 dX8_read_24 rfl 2 rfl ?_
        refine V_if_ne C (tgt := 36) dX8_read_25 (by decide) (fun hc => ?_) (fun hc => ?_)
        · replace h := (if_neg hc).symm.trans h
          refine V_iconst C (0 : Int32) dX8_read_36 (by decide) ?_
          cases h
          exact V_ireturn C rfl rfl rfl dX8_read_37
        · replace h := (if_pos hc).symm.trans h
          refine V_iload_n C 1 dX8_read_28 rfl 1 rfl ?_
          refine V_if_ne C (tgt := 36) dX8_read_29 (by decide) (fun hc => ?_) (fun hc => ?_)
          · replace h := (if_neg hc).symm.trans h
            refine V_iconst C (0 : Int32) dX8_read_36 (by decide) ?_
            cases h
            exact V_ireturn C rfl rfl rfl dX8_read_37
          · replace h := (if_pos hc).symm.trans h
            refine V_iconst C (1 : Int32) dX8_read_32 (by decide) ?_
            refine V_goto C (tgt := 37) dX8_read_33 (by decide) ?_
            cases h
            exact V_ireturn C rfl rfl rfl dX8_read_37
set_option maxHeartbeats 4000000 in
set_option maxRecDepth 100000 in
theorem con_X8_read {l : Launch} {E : WE} (hl : l.stackTraces = false)   {μ : Mem} {x} (h : f_X8_read  μ = some x) : Con l E lvM yX8_read cX8_read 6 (some .boolean) 2 [.ref (E.1 30 0)] μ (rWi x) := by
  refine Con.of (by decide) hl (Nat.le_of_ble_eq_true rfl) (fun Y C => ?_)
  replace C : Ok Y l E lvM 6 RX8 cX8_read (some .boolean) 2 := C
  show V Y l E lvM 6 (rWi x) 0 [(0, .ref (E.1 30 0))] [] μ
  unfold f_X8_read at h
  refine V_iconst C (0 : Int32) dX8_read_0 (by decide) ?_
  refine V_istore_n (L' := [(0, .ref (E.1 30 0)), (1, .int (0 : Int32))]) C 1 dX8_read_1 rfl (by decide) [1, 0] rfl ?_
  refine V_iconst C (1 : Int32) dX8_read_2 (by decide) ?_
  refine V_istore_n (L' := [(0, .ref (E.1 30 0)), (1, .int (0 : Int32)), (2, .int (1 : Int32))]) C 2 dX8_read_3 rfl (by decide) [1, 2, 0] rfl ?_
  refine V_iconst C (0 : Int32) dX8_read_4 (by decide) ?_
  refine V_istore_n (L' := [(0, .ref (E.1 30 0)), (1, .int (0 : Int32)), (2, .int (1 : Int32)), (3, .int (0 : Int32))]) C 3 dX8_read_5 rfl (by decide) [1, 2, 3, 0] rfl ?_
  refine V_sub (LP := [(0, .ref (E.1 30 0)), (1, .int (0 : Int32)), (2, .int (1 : Int32)), (3, .int (0 : Int32))]) [0, 1, 2, 3] rfl ?_
  refine lp_X8_read_6 hl C (fun μ_39 x h => ?_) 1000 _ _ _ _ h
  refine V_iconst C (0 : Int32) dX8_read_240 (by decide) ?_
  cases h
  exact V_ireturn C rfl rfl rfl dX8_read_241
set_option maxHeartbeats 4000000 in
set_option maxRecDepth 100000 in
theorem con_X8_axisOf {l : Launch} {E : WE} (hl : l.stackTraces = false) (a1 : Int32) (a2 : Int32)  {μ : Mem} {x} (h : f_X8_axisOf a1 a2 μ = some x) : Con l E lvM yX8_axisOf cX8_axisOf 3 (some .int) 0 [.ref (E.1 30 0), .int a1, .int a2] μ (rPi x μ) := by
  refine Con.of (by decide) hl (Nat.le_of_ble_eq_true rfl) (fun Y C => ?_)
  replace C : Ok Y l E lvM 3 RX8 cX8_axisOf (some .int) 0 := C
  show V Y l E lvM 3 (rPi x μ) 0 [(0, .ref (E.1 30 0)), (1, .int a1), (2, .int a2)] [] μ
  unfold f_X8_axisOf at h
  refine V_aload_n C 0 dX8_axisOf_0 rfl 0 rfl ?_
  refine V_getf (v := .ref (E.1 33 0)) C 30 0 m_30 fl_RX8_16 rfl rfl dX8_axisOf_1 ?_
  refine V_iconst C (3 : Int32) dX8_axisOf_4 (by decide) ?_
  refine V_iload_n C 1 dX8_axisOf_5 rfl 1 rfl ?_
  refine V_imul C dX8_axisOf_6 ?_
  refine V_iload_n C 2 dX8_axisOf_7 rfl 2 rfl ?_
  refine V_iadd C dX8_axisOf_8 ?_
  obtain ⟨hi9, h⟩ := gd_inv h
  refine V_iald C 33 0 m_33 (fun _ => rfl) (inb_in hi9) dX8_axisOf_9 ?_
  cases h
  exact V_ireturn C rfl rfl rfl dX8_axisOf_10
set_option maxHeartbeats 4000000 in
set_option maxRecDepth 100000 in
theorem lp_X8_sizeOf_4 {Y : Mc} {l : Launch} {E : WE} (hl : l.stackTraces = false) (C : Ok Y l E lvM 4 RX8 cX8_sizeOf (some .int) 1) {κ : Int32 → Option (Int32)} (c1_1 : Int32) (μ_4 : Mem)  (hκ : ∀ (a2_8 : Int32) x, κ a2_8 = some x → V Y l E lvM 4 (rPi x μ_4) 29 [(2, .int a2_8)] [] μ_4) : ∀ (n : Nat) (a2_2 : Int32) (a3_3 : Int32) {x}, f_X8_sizeOf_L4 κ c1_1 μ_4 n a2_2 a3_3 = some x → V Y l E lvM 4 (rPi x μ_4) 4 [(0, .ref (E.1 30 0)), (1, .int c1_1), (2, .int a2_2), (3, .int a3_3)] [] μ_4 := by
  intro n
  induction n with
  | zero =>
    intro a2_2 a3_3 x h
    simp [f_X8_sizeOf_L4] at h
  | succ n ih =>
    intro a2_2 a3_3 x h
    rw [f_X8_sizeOf_L4] at h
    refine V_iload_n C 3 dX8_sizeOf_4 rfl 3 rfl ?_
    refine V_aload_n C 0 dX8_sizeOf_5 rfl 0 rfl ?_
    refine V_getf (v := .ref (E.1 32 0)) C 30 0 m_30 fl_RX8_13 rfl rfl dX8_sizeOf_6 ?_
    refine V_iload_n C 1 dX8_sizeOf_9 rfl 1 rfl ?_
    obtain ⟨hi9, h⟩ := gd_inv h
    refine V_iald C 32 0 m_32 (fun _ => rfl) (inb_in hi9) dX8_sizeOf_10 ?_
    refine V_icmp_ge C (tgt := 29) dX8_sizeOf_11 (by decide) (fun hc => ?_) (fun hc => ?_)
    · replace h := (if_pos hc).symm.trans h
      refine V_sub (LP := [(2, .int a2_2)]) [2] rfl ?_
      exact hκ _ _ h
    · replace h := (if_neg hc).symm.trans h
      refine V_iload_n C 2 dX8_sizeOf_14 rfl 2 rfl ?_
      refine V_aload_n C 0 dX8_sizeOf_15 rfl 0 rfl ?_
      refine V_iload_n C 1 dX8_sizeOf_16 rfl 1 rfl ?_
      refine V_iload_n C 3 dX8_sizeOf_17 rfl 3 rfl ?_
      obtain ⟨v_5, hv, h⟩ := bP_inv h
      refine V_callVo C 30 0 m_30 (some (.int v_5)) (con_X8_axisOf hl c1_1 a3_3 hv) tb_X8_axisOf lk_RX8_88 rfl rfl rfl (by decide) (by decide) rfl (Nat.le_of_ble_eq_true rfl) rfl dX8_sizeOf_18 rfl ?_
      clear hv
      refine V_imul C dX8_sizeOf_21 ?_
      refine V_topi (fun x_6 hn9 => ?_)
      replace h := lt_eq hn9 h; clear hn9
      refine V_istore_n (L' := [(0, .ref (E.1 30 0)), (1, .int c1_1), (2, .int x_6), (3, .int a3_3)]) C 2 dX8_sizeOf_22 rfl (by decide) [1, 2, 0, 3] rfl ?_
      obtain ⟨x_7, hn9⟩ : ∃ z : Int32, z = a3_3 + (1 : Int32) := ⟨_, rfl⟩
      replace h := lt_eq hn9 h
      refine V_iinc (L' := [(0, .ref (E.1 30 0)), (1, .int c1_1), (2, .int x_6), (3, .int x_7)]) C x_7 dX8_sizeOf_23 3 rfl (by rw [hn9]; exact congrArg (a3_3 + ·) (by decide)) (by decide) [1, 2, 3, 0] rfl ?_
      clear hn9
      refine V_goto C (tgt := 4) dX8_sizeOf_26 (by decide) ?_
      refine V_sub (LP := [(0, .ref (E.1 30 0)), (1, .int c1_1), (2, .int x_6), (3, .int x_7)]) [0, 1, 2, 3] rfl ?_
      exact ih _ _ h
set_option maxHeartbeats 4000000 in
set_option maxRecDepth 100000 in
theorem con_X8_sizeOf {l : Launch} {E : WE} (hl : l.stackTraces = false) (a1 : Int32)  {μ : Mem} {x} (h : f_X8_sizeOf a1 μ = some x) : Con l E lvM yX8_sizeOf cX8_sizeOf 4 (some .int) 1 [.ref (E.1 30 0), .int a1] μ (rPi x μ) := by
  refine Con.of (by decide) hl (Nat.le_of_ble_eq_true rfl) (fun Y C => ?_)
  replace C : Ok Y l E lvM 4 RX8 cX8_sizeOf (some .int) 1 := C
  show V Y l E lvM 4 (rPi x μ) 0 [(0, .ref (E.1 30 0)), (1, .int a1)] [] μ
  unfold f_X8_sizeOf at h
  refine V_iconst C (1 : Int32) dX8_sizeOf_0 (by decide) ?_
  refine V_istore_n (L' := [(0, .ref (E.1 30 0)), (1, .int a1), (2, .int (1 : Int32))]) C 2 dX8_sizeOf_1 rfl (by decide) [1, 2, 0] rfl ?_
  refine V_iconst C (0 : Int32) dX8_sizeOf_2 (by decide) ?_
  refine V_istore_n (L' := [(0, .ref (E.1 30 0)), (1, .int a1), (2, .int (1 : Int32)), (3, .int (0 : Int32))]) C 3 dX8_sizeOf_3 rfl (by decide) [1, 2, 3, 0] rfl ?_
  refine V_sub (LP := [(0, .ref (E.1 30 0)), (1, .int a1), (2, .int (1 : Int32)), (3, .int (0 : Int32))]) [0, 1, 2, 3] rfl ?_
  refine lp_X8_sizeOf_4 hl C a1 μ (fun a2_9 x h => ?_) 1000 _ _ h
  refine V_iload_n C 2 dX8_sizeOf_29 rfl 0 rfl ?_
  cases h
  exact V_ireturn C rfl rfl rfl dX8_sizeOf_30
set_option maxHeartbeats 4000000 in
set_option maxRecDepth 100000 in
theorem lp_X8_copy_14 {Y : Mc} {l : Launch} {E : WE} (hl : l.stackTraces = false) (C : Ok Y l E lvM 4 RX8 cX8_copy none 0) {κ : Mem → Option (Unit × Mem)} (c1_2 : Int32) (c2_3 : Int32)  (hκ : ∀  (μ_8 : Mem) x, κ  μ_8 = some x → V Y l E lvM 4 (rWu x) 45 [(0, .ref (E.1 30 0)), (1, .int c1_2), (2, .int c2_3)] [] μ_8) : ∀ (n : Nat) (a3_4 : Int32) (μ_5 : Mem) {x}, f_X8_copy_L14 κ c1_2 c2_3 n a3_4 μ_5 = some x → V Y l E lvM 4 (rWu x) 14 [(0, .ref (E.1 30 0)), (1, .int c1_2), (2, .int c2_3), (3, .int a3_4)] [] μ_5 := by
  intro n
  induction n with
  | zero =>
    intro a3_4 μ_5 x h
    simp [f_X8_copy_L14] at h
  | succ n ih =>
    intro a3_4 μ_5 x h
    rw [f_X8_copy_L14] at h
    refine V_iload_n C 3 dX8_copy_14 rfl 3 rfl ?_
    refine V_iconst C (3 : Int32) dX8_copy_15 (by decide) ?_
    refine V_icmp_ge C (tgt := 45) dX8_copy_16 (by decide) (fun hc => ?_) (fun hc => ?_)
    · replace h := (if_pos hc).symm.trans h
      refine V_sub (LP := [(0, .ref (E.1 30 0)), (1, .int c1_2), (2, .int c2_3)]) [0, 1, 2] rfl ?_
      exact hκ _ _ h
    · replace h := (if_neg hc).symm.trans h
      refine V_aload_n C 0 dX8_copy_19 rfl 0 rfl ?_
      refine V_getf (v := .ref (E.1 33 0)) C 30 0 m_30 fl_RX8_16 rfl rfl dX8_copy_20 ?_
      refine V_iconst C (3 : Int32) dX8_copy_23 (by decide) ?_
      refine V_iload_n C 2 dX8_copy_24 rfl 2 rfl ?_
      refine V_imul C dX8_copy_25 ?_
      refine V_iload_n C 3 dX8_copy_26 rfl 3 rfl ?_
      refine V_iadd C dX8_copy_27 ?_
      refine V_aload_n C 0 dX8_copy_28 rfl 0 rfl ?_
      refine V_getf (v := .ref (E.1 33 0)) C 30 0 m_30 fl_RX8_16 rfl rfl dX8_copy_29 ?_
      refine V_iconst C (3 : Int32) dX8_copy_32 (by decide) ?_
      refine V_iload_n C 1 dX8_copy_33 rfl 1 rfl ?_
      refine V_imul C dX8_copy_34 ?_
      refine V_iload_n C 3 dX8_copy_35 rfl 3 rfl ?_
      refine V_iadd C dX8_copy_36 ?_
      obtain ⟨hi9, h⟩ := gd_inv h
      refine V_iald C 33 0 m_33 (fun _ => rfl) (inb_in hi9) dX8_copy_37 ?_
      obtain ⟨hi9, h⟩ := gd_inv h
      refine V_iast C 33 0 m_33 (fun _ => rfl) (inb_in hi9) dX8_copy_38 ?_
      refine V_memn (fun μ_6 hn9 => ?_)
      replace h := lt_eq hn9 h; clear hn9
      obtain ⟨x_7, hn9⟩ : ∃ z : Int32, z = a3_4 + (1 : Int32) := ⟨_, rfl⟩
      replace h := lt_eq hn9 h
      refine V_iinc (L' := [(0, .ref (E.1 30 0)), (1, .int c1_2), (2, .int c2_3), (3, .int x_7)]) C x_7 dX8_copy_39 3 rfl (by rw [hn9]; exact congrArg (a3_4 + ·) (by decide)) (by decide) [1, 2, 3, 0] rfl ?_
      clear hn9
      refine V_goto C (tgt := 14) dX8_copy_42 (by decide) ?_
      refine V_sub (LP := [(0, .ref (E.1 30 0)), (1, .int c1_2), (2, .int c2_3), (3, .int x_7)]) [0, 1, 2, 3] rfl ?_
      exact ih _ _ h
set_option maxHeartbeats 4000000 in
set_option maxRecDepth 100000 in
theorem lp_X8_copy_47 {Y : Mc} {l : Launch} {E : WE} (hl : l.stackTraces = false) (C : Ok Y l E lvM 4 RX8 cX8_copy none 0) {κ : Mem → Option (Unit × Mem)} (c1_10 : Int32) (c2_11 : Int32)  (hκ : ∀  (μ_16 : Mem) x, κ  μ_16 = some x → V Y l E lvM 4 (rWu x) 81 [] [] μ_16) : ∀ (n : Nat) (a3_12 : Int32) (μ_13 : Mem) {x}, f_X8_copy_L47 κ c1_10 c2_11 n a3_12 μ_13 = some x → V Y l E lvM 4 (rWu x) 47 [(0, .ref (E.1 30 0)), (1, .int c1_10), (2, .int c2_11), (3, .int a3_12)] [] μ_13 := by
  intro n
  induction n with
  | zero =>
    intro a3_12 μ_13 x h
    simp [f_X8_copy_L47] at h
  | succ n ih =>
    intro a3_12 μ_13 x h
    rw [f_X8_copy_L47] at h
    refine V_iload_n C 3 dX8_copy_47 rfl 3 rfl ?_
    refine V_bipush C (48 : Int32) dX8_copy_48 (by decide) ?_
    refine V_icmp_ge C (tgt := 81) dX8_copy_50 (by decide) (fun hc => ?_) (fun hc => ?_)
    · replace h := (if_pos hc).symm.trans h
      refine V_sub (LP := []) [] rfl ?_
      exact hκ _ _ h
    · replace h := (if_neg hc).symm.trans h
      refine V_aload_n C 0 dX8_copy_53 rfl 0 rfl ?_
      refine V_getf (v := .ref (E.1 34 0)) C 30 0 m_30 fl_RX8_19 rfl rfl dX8_copy_54 ?_
      refine V_bipush C (48 : Int32) dX8_copy_57 (by decide) ?_
      refine V_iload_n C 2 dX8_copy_59 rfl 2 rfl ?_
      refine V_imul C dX8_copy_60 ?_
      refine V_iload_n C 3 dX8_copy_61 rfl 3 rfl ?_
      refine V_iadd C dX8_copy_62 ?_
      refine V_aload_n C 0 dX8_copy_63 rfl 0 rfl ?_
      refine V_getf (v := .ref (E.1 34 0)) C 30 0 m_30 fl_RX8_19 rfl rfl dX8_copy_64 ?_
      refine V_bipush C (48 : Int32) dX8_copy_67 (by decide) ?_
      refine V_iload_n C 1 dX8_copy_69 rfl 1 rfl ?_
      refine V_imul C dX8_copy_70 ?_
      refine V_iload_n C 3 dX8_copy_71 rfl 3 rfl ?_
      refine V_iadd C dX8_copy_72 ?_
      obtain ⟨hi9, h⟩ := gd_inv h
      refine V_iald C 34 0 m_34 (fun _ => rfl) (inb_in hi9) dX8_copy_73 ?_
      obtain ⟨hi9, h⟩ := gd_inv h
      refine V_iast C 34 0 m_34 (fun _ => rfl) (inb_in hi9) dX8_copy_74 ?_
      refine V_memn (fun μ_14 hn9 => ?_)
      replace h := lt_eq hn9 h; clear hn9
      obtain ⟨x_15, hn9⟩ : ∃ z : Int32, z = a3_12 + (1 : Int32) := ⟨_, rfl⟩
      replace h := lt_eq hn9 h
      refine V_iinc (L' := [(0, .ref (E.1 30 0)), (1, .int c1_10), (2, .int c2_11), (3, .int x_15)]) C x_15 dX8_copy_75 3 rfl (by rw [hn9]; exact congrArg (a3_12 + ·) (by decide)) (by decide) [1, 2, 3, 0] rfl ?_
      clear hn9
      refine V_goto C (tgt := 47) dX8_copy_78 (by decide) ?_
      refine V_sub (LP := [(0, .ref (E.1 30 0)), (1, .int c1_10), (2, .int c2_11), (3, .int x_15)]) [0, 1, 2, 3] rfl ?_
      exact ih _ _ h
set_option maxHeartbeats 4000000 in
set_option maxRecDepth 100000 in
theorem con_X8_copy {l : Launch} {E : WE} (hl : l.stackTraces = false) (a1 : Int32) (a2 : Int32)  {μ : Mem} {x} (h : f_X8_copy a1 a2 μ = some x) : Con l E lvM yX8_copy cX8_copy 4 none 0 [.ref (E.1 30 0), .int a1, .int a2] μ (rWu x) := by
  refine Con.of (by decide) hl (Nat.le_of_ble_eq_true rfl) (fun Y C => ?_)
  replace C : Ok Y l E lvM 4 RX8 cX8_copy none 0 := C
  show V Y l E lvM 4 (rWu x) 0 [(0, .ref (E.1 30 0)), (1, .int a1), (2, .int a2)] [] μ
  unfold f_X8_copy at h
  refine V_aload_n C 0 dX8_copy_0 rfl 0 rfl ?_
  refine V_getf (v := .ref (E.1 32 0)) C 30 0 m_30 fl_RX8_13 rfl rfl dX8_copy_1 ?_
  refine V_iload_n C 2 dX8_copy_4 rfl 2 rfl ?_
  refine V_aload_n C 0 dX8_copy_5 rfl 0 rfl ?_
  refine V_getf (v := .ref (E.1 32 0)) C 30 0 m_30 fl_RX8_13 rfl rfl dX8_copy_6 ?_
  refine V_iload_n C 1 dX8_copy_9 rfl 1 rfl ?_
  obtain ⟨hi9, h⟩ := gd_inv h
  refine V_iald C 32 0 m_32 (fun _ => rfl) (inb_in hi9) dX8_copy_10 ?_
  obtain ⟨hi9, h⟩ := gd_inv h
  refine V_iast C 32 0 m_32 (fun _ => rfl) (inb_in hi9) dX8_copy_11 ?_
  refine V_memn (fun μ_1 hn9 => ?_)
  replace h := lt_eq hn9 h; clear hn9
  refine V_iconst C (0 : Int32) dX8_copy_12 (by decide) ?_
  refine V_istore_n (L' := [(0, .ref (E.1 30 0)), (1, .int a1), (2, .int a2), (3, .int (0 : Int32))]) C 3 dX8_copy_13 rfl (by decide) [1, 2, 3, 0] rfl ?_
  refine V_sub (LP := [(0, .ref (E.1 30 0)), (1, .int a1), (2, .int a2), (3, .int (0 : Int32))]) [0, 1, 2, 3] rfl ?_
  refine lp_X8_copy_14 hl C a1 a2 (fun μ_9 x h => ?_) 1000 _ _ h
  refine V_iconst C (0 : Int32) dX8_copy_45 (by decide) ?_
  refine V_istore_n (L' := [(0, .ref (E.1 30 0)), (1, .int a1), (2, .int a2), (3, .int (0 : Int32))]) C 3 dX8_copy_46 rfl (by decide) [1, 2, 3, 0] rfl ?_
  refine V_sub (LP := [(0, .ref (E.1 30 0)), (1, .int a1), (2, .int a2), (3, .int (0 : Int32))]) [0, 1, 2, 3] rfl ?_
  refine lp_X8_copy_47 hl C a1 a2 (fun μ_17 x h => ?_) 1000 _ _ h
  cases h
  exact V_return C rfl rfl dX8_copy_81
set_option maxHeartbeats 4000000 in
set_option maxRecDepth 100000 in
theorem con_X8_get {l : Launch} {E : WE} (hl : l.stackTraces = false) (a1 : Int32) (a2 : Int32)  {μ : Mem} {x} (h : f_X8_get a1 a2 μ = some x) : Con l E lvM yX8_get cX8_get 3 (some .int) 0 [.ref (E.1 30 0), .int a1, .int a2] μ (rPi x μ) := by
  refine Con.of (by decide) hl (Nat.le_of_ble_eq_true rfl) (fun Y C => ?_)
  replace C : Ok Y l E lvM 3 RX8 cX8_get (some .int) 0 := C
  show V Y l E lvM 3 (rPi x μ) 0 [(0, .ref (E.1 30 0)), (1, .int a1), (2, .int a2)] [] μ
  unfold f_X8_get at h
  refine V_aload_n C 0 dX8_get_0 rfl 0 rfl ?_
  refine V_getf (v := .ref (E.1 34 0)) C 30 0 m_30 fl_RX8_19 rfl rfl dX8_get_1 ?_
  refine V_bipush C (48 : Int32) dX8_get_4 (by decide) ?_
  refine V_iload_n C 1 dX8_get_6 rfl 1 rfl ?_
  refine V_imul C dX8_get_7 ?_
  refine V_iload_n C 2 dX8_get_8 rfl 2 rfl ?_
  refine V_iadd C dX8_get_9 ?_
  obtain ⟨hi9, h⟩ := gd_inv h
  refine V_iald C 34 0 m_34 (fun _ => rfl) (inb_in hi9) dX8_get_10 ?_
  cases h
  exact V_ireturn C rfl rfl rfl dX8_get_11
set_option maxHeartbeats 4000000 in
set_option maxRecDepth 100000 in
theorem con_X8_set {l : Launch} {E : WE} (hl : l.stackTraces = false) (a1 : Int32) (a2 : Int32) (a3 : Int32)  {μ : Mem} {x} (h : f_X8_set a1 a2 a3 μ = some x) : Con l E lvM yX8_set cX8_set 4 none 0 [.ref (E.1 30 0), .int a1, .int a2, .int a3] μ (rWu x) := by
  refine Con.of (by decide) hl (Nat.le_of_ble_eq_true rfl) (fun Y C => ?_)
  replace C : Ok Y l E lvM 4 RX8 cX8_set none 0 := C
  show V Y l E lvM 4 (rWu x) 0 [(0, .ref (E.1 30 0)), (1, .int a1), (2, .int a2), (3, .int a3)] [] μ
  unfold f_X8_set at h
  refine V_aload_n C 0 dX8_set_0 rfl 0 rfl ?_
  refine V_getf (v := .ref (E.1 34 0)) C 30 0 m_30 fl_RX8_19 rfl rfl dX8_set_1 ?_
  refine V_bipush C (48 : Int32) dX8_set_4 (by decide) ?_
  refine V_iload_n C 1 dX8_set_6 rfl 1 rfl ?_
  refine V_imul C dX8_set_7 ?_
  refine V_iload_n C 2 dX8_set_8 rfl 2 rfl ?_
  refine V_iadd C dX8_set_9 ?_
  refine V_iload_n C 3 dX8_set_10 rfl 3 rfl ?_
  obtain ⟨hi9, h⟩ := gd_inv h
  refine V_iast C 34 0 m_34 (fun _ => rfl) (inb_in hi9) dX8_set_11 ?_
  refine V_memn (fun μ_1 hn9 => ?_)
  replace h := lt_eq hn9 h; clear hn9
  cases h
  exact V_return C rfl rfl dX8_set_12
set_option maxHeartbeats 4000000 in
set_option maxRecDepth 100000 in
theorem con_X8_stop {l : Launch} {E : WE} (hl : l.stackTraces = false) (a1 : Int32)  {μ : Mem} {x} (h : f_X8_stop a1 μ = some x) : Con l E lvM yX8_stop cX8_stop 2 (some .boolean) 0 [.ref (E.1 30 0), .int a1] μ (rWi x) := by
  refine Con.of (by decide) hl (Nat.le_of_ble_eq_true rfl) (fun Y C => ?_)
  replace C : Ok Y l E lvM 2 RX8 cX8_stop (some .boolean) 0 := C
  show V Y l E lvM 2 (rWi x) 0 [(0, .ref (E.1 30 0)), (1, .int a1)] [] μ
  unfold f_X8_stop at h
  refine V_aload_n C 0 dX8_stop_0 rfl 0 rfl ?_
  refine V_iload_n C 1 dX8_stop_1 rfl 1 rfl ?_
  refine V_putI C 30 0 m_30 fp_RX8_92 rfl rfl rfl rfl (Nat.le_of_ble_eq_true rfl) dX8_stop_2 ?_
  refine V_memn (fun μ_1 hn9 => ?_)
  replace h := lt_eq hn9 h; clear hn9
  refine V_iconst C (0 : Int32) dX8_stop_5 (by decide) ?_
  cases h
  exact V_ireturn C rfl rfl rfl dX8_stop_6
set_option maxHeartbeats 4000000 in
set_option maxRecDepth 100000 in
theorem lp_X8_shape_36 {Y : Mc} {l : Launch} {E : WE} (hl : l.stackTraces = false) (C : Ok Y l E lvM 6 RX8 cX8_shape (some .boolean) 2) {κ : Unit → Option (Int32 × Mem)} (c1_5 : Int32) (μ_7 : Mem)  (hκ : ∀ (_ : Unit) x, κ () = some x → V Y l E lvM 6 (rWi x) 67 [(0, .ref (E.1 30 0))] [] μ_7) : ∀ (n : Nat) (a5_6 : Int32) {x}, f_X8_shape_L36 κ c1_5 μ_7 n a5_6 = some x → V Y l E lvM 6 (rWi x) 36 [(0, .ref (E.1 30 0)), (1, .int c1_5), (5, .int a5_6)] [] μ_7 := by
  intro n
  induction n with
  | zero =>
    intro a5_6 x h
    simp [f_X8_shape_L36] at h
  | succ n ih =>
    intro a5_6 x h
    rw [f_X8_shape_L36] at h
    refine V_iload C dX8_shape_36 2 rfl ?_
    refine V_iload_n C 1 dX8_shape_38 rfl 1 rfl ?_
    refine V_icmp_ge C (tgt := 67) dX8_shape_39 (by decide) (fun hc => ?_) (fun hc => ?_)
    · replace h := (if_pos hc).symm.trans h
      refine V_sub (LP := [(0, .ref (E.1 30 0))]) [0] rfl ?_
      exact hκ () _ h
    · replace h := (if_neg hc).symm.trans h
      refine V_aload_n C 0 dX8_shape_42 rfl 0 rfl ?_
      refine V_bipush C (8 : Int32) dX8_shape_43 (by decide) ?_
      refine V_iload C dX8_shape_45 2 rfl ?_
      obtain ⟨v_8, hv, h⟩ := bP_inv h
      refine V_callVo C 30 0 m_30 (some (.int v_8)) (con_X8_axisOf hl (8 : Int32) a5_6 hv) tb_X8_axisOf lk_RX8_88 rfl rfl rfl (by decide) (by decide) rfl (Nat.le_of_ble_eq_true rfl) rfl dX8_shape_47 rfl ?_
      clear hv
      refine V_bipush C (48 : Int32) dX8_shape_50 (by decide) ?_
      refine V_icmp_le C (tgt := 61) dX8_shape_52 (by decide) (fun hc => ?_) (fun hc => ?_)
      · replace h := (if_pos hc).symm.trans h
        obtain ⟨x_9, hn9⟩ : ∃ z : Int32, z = a5_6 + (1 : Int32) := ⟨_, rfl⟩
        replace h := lt_eq hn9 h
        refine V_iinc (L' := [(0, .ref (E.1 30 0)), (1, .int c1_5), (5, .int x_9)]) C x_9 dX8_shape_61 2 rfl (by rw [hn9]; exact congrArg (a5_6 + ·) (by decide)) (by decide) [1, 2, 0] rfl ?_
        clear hn9
        refine V_goto C (tgt := 36) dX8_shape_64 (by decide) ?_
        refine V_sub (LP := [(0, .ref (E.1 30 0)), (1, .int c1_5), (5, .int x_9)]) [0, 1, 2] rfl ?_
        exact ih _ h
      · replace h := (if_neg hc).symm.trans h
        refine V_aload_n C 0 dX8_shape_55 rfl 0 rfl ?_
        refine V_iconst C (1 : Int32) dX8_shape_56 (by decide) ?_
        obtain ⟨v_10, μ_11, hv, h⟩ := bW_inv h
        refine V_callVo C 30 0 m_30 (some (.int v_10)) (con_X8_stop hl (1 : Int32) hv) tb_X8_stop lk_RX8_95 rfl rfl rfl (by decide) (by decide) rfl (Nat.le_of_ble_eq_true rfl) rfl dX8_shape_57 rfl ?_
        clear hv
        obtain ⟨hr9, h⟩ := gd_inv h
        cases h
        exact V_ireturn C rfl (isb_nar hr9) rfl dX8_shape_60
set_option maxHeartbeats 4000000 in
set_option maxRecDepth 100000 in
theorem con_X8_shape {l : Launch} {E : WE} (hl : l.stackTraces = false) (a1 : Int32) (a2 : Int32) (a3 : Int32) (a4 : Int32)  {μ : Mem} {x} (h : f_X8_shape a1 a2 a3 a4 μ = some x) : Con l E lvM yX8_shape cX8_shape 6 (some .boolean) 2 [.ref (E.1 30 0), .int a1, .int a2, .int a3, .int a4] μ (rWi x) := by
  refine Con.of (by decide) hl (Nat.le_of_ble_eq_true rfl) (fun Y C => ?_)
  replace C : Ok Y l E lvM 6 RX8 cX8_shape (some .boolean) 2 := C
  show V Y l E lvM 6 (rWi x) 0 [(0, .ref (E.1 30 0)), (1, .int a1), (2, .int a2), (3, .int a3), (4, .int a4)] [] μ
  unfold f_X8_shape at h
  refine V_aload_n C 0 dX8_shape_0 rfl 0 rfl ?_
  refine V_getf (v := .ref (E.1 32 0)) C 30 0 m_30 fl_RX8_13 rfl rfl dX8_shape_1 ?_
  refine V_bipush C (8 : Int32) dX8_shape_4 (by decide) ?_
  refine V_iload_n C 1 dX8_shape_6 rfl 1 rfl ?_
  obtain ⟨hi9, h⟩ := gd_inv h
  refine V_iast C 32 0 m_32 (fun _ => rfl) (inb_in hi9) dX8_shape_7 ?_
  refine V_memn (fun μ_1 hn9 => ?_)
  replace h := lt_eq hn9 h; clear hn9
  refine V_aload_n C 0 dX8_shape_8 rfl 0 rfl ?_
  refine V_getf (v := .ref (E.1 33 0)) C 30 0 m_30 fl_RX8_16 rfl rfl dX8_shape_9 ?_
  refine V_bipush C (24 : Int32) dX8_shape_12 (by decide) ?_
  refine V_iload_n C 2 dX8_shape_14 rfl 2 rfl ?_
  obtain ⟨hi9, h⟩ := gd_inv h
  refine V_iast C 33 0 m_33 (fun _ => rfl) (inb_in hi9) dX8_shape_15 ?_
  refine V_memn (fun μ_2 hn9 => ?_)
  replace h := lt_eq hn9 h; clear hn9
  refine V_aload_n C 0 dX8_shape_16 rfl 0 rfl ?_
  refine V_getf (v := .ref (E.1 33 0)) C 30 0 m_30 fl_RX8_16 rfl rfl dX8_shape_17 ?_
  refine V_bipush C (25 : Int32) dX8_shape_20 (by decide) ?_
  refine V_iload_n C 3 dX8_shape_22 rfl 3 rfl ?_
  obtain ⟨hi9, h⟩ := gd_inv h
  refine V_iast C 33 0 m_33 (fun _ => rfl) (inb_in hi9) dX8_shape_23 ?_
  refine V_memn (fun μ_3 hn9 => ?_)
  replace h := lt_eq hn9 h; clear hn9
  refine V_aload_n C 0 dX8_shape_24 rfl 0 rfl ?_
  refine V_getf (v := .ref (E.1 33 0)) C 30 0 m_30 fl_RX8_16 rfl rfl dX8_shape_25 ?_
  refine V_bipush C (26 : Int32) dX8_shape_28 (by decide) ?_
  refine V_iload C dX8_shape_30 4 rfl ?_
  obtain ⟨hi9, h⟩ := gd_inv h
  refine V_iast C 33 0 m_33 (fun _ => rfl) (inb_in hi9) dX8_shape_32 ?_
  refine V_memn (fun μ_4 hn9 => ?_)
  replace h := lt_eq hn9 h; clear hn9
  refine V_iconst C (0 : Int32) dX8_shape_33 (by decide) ?_
  refine V_istore (L' := [(0, .ref (E.1 30 0)), (1, .int a1), (2, .int a2), (3, .int a3), (4, .int a4), (5, .int (0 : Int32))]) C dX8_shape_34 (by decide) [1, 2, 3, 4, 5, 0] rfl ?_
  refine V_sub (LP := [(0, .ref (E.1 30 0)), (1, .int a1), (5, .int (0 : Int32))]) [0, 1, 5] rfl ?_
  refine lp_X8_shape_36 hl C a1 μ_4 (fun _ x h => ?_) 1000 _ h
  refine V_aload_n C 0 dX8_shape_67 rfl 0 rfl ?_
  refine V_bipush C (8 : Int32) dX8_shape_68 (by decide) ?_
  obtain ⟨v_12, hv, h⟩ := bP_inv h
  refine V_callVo C 30 0 m_30 (some (.int v_12)) (con_X8_sizeOf hl (8 : Int32) hv) tb_X8_sizeOf lk_RX8_98 rfl rfl rfl (by decide) (by decide) rfl (Nat.le_of_ble_eq_true rfl) rfl dX8_shape_70 rfl ?_
  clear hv
  refine V_bipush C (48 : Int32) dX8_shape_73 (by decide) ?_
  obtain ⟨j_14, hj_14, h⟩ := jn_ex h
  have J_14 : ∀ (μ_13 : Mem) x, j_14 μ_13 = some x → V Y l E lvM 6 (rWi x) 86 [] [] μ_13 := by
    intro μ_13  x h
    rw [hj_14] at h; clear hj_14
    refine V_iconst C (1 : Int32) dX8_shape_86 (by decide) ?_
    refine V_goto C (tgt := 91) dX8_shape_87 (by decide) ?_
    cases h
    exact V_ireturn C rfl rfl rfl dX8_shape_91
  clear hj_14
  refine V_icmp_le C (tgt := 86) dX8_shape_75 (by decide) (fun hc => ?_) (fun hc => ?_)
  · replace h := (if_pos hc).symm.trans h
    refine V_sub (LP := []) [] rfl ?_
    exact J_14 _ _ h
  · replace h := (if_neg hc).symm.trans h
    refine V_aload_n C 0 dX8_shape_78 rfl 0 rfl ?_
    refine V_iconst C (1 : Int32) dX8_shape_79 (by decide) ?_
    obtain ⟨v_15, μ_16, hv, h⟩ := bW_inv h
    refine V_callVo C 30 0 m_30 (some (.int v_15)) (con_X8_stop hl (1 : Int32) hv) tb_X8_stop lk_RX8_95 rfl rfl rfl (by decide) (by decide) rfl (Nat.le_of_ble_eq_true rfl) rfl dX8_shape_80 rfl ?_
    clear hv
    refine V_if_eq C (tgt := 90) dX8_shape_83 (by decide) (fun hc => ?_) (fun hc => ?_)
    · replace h := (if_pos hc).symm.trans h
      refine V_iconst C (0 : Int32) dX8_shape_90 (by decide) ?_
      cases h
      exact V_ireturn C rfl rfl rfl dX8_shape_91
    · replace h := (if_neg hc).symm.trans h
      refine V_sub (LP := []) [] rfl ?_
      exact J_14 _ _ h
set_option maxHeartbeats 4000000 in
set_option maxRecDepth 100000 in
theorem con_X8_ofInt {l : Launch} {E : WE} (hl : l.stackTraces = false) (b1 : Int64)  {μ : Mem} {x} (h : f_X8_ofInt b1 μ = some x) : Con l E lvM yX8_ofInt cX8_ofInt 3 (some .int) 0 [.ref (E.1 30 0), .long b1] μ (rWi x) := by
  refine Con.of (by decide) hl (Nat.le_of_ble_eq_true rfl) (fun Y C => ?_)
  replace C : Ok Y l E lvM 3 RX8 cX8_ofInt (some .int) 0 := C
  show V Y l E lvM 3 (rWi x) 0 [(0, .ref (E.1 30 0)), (1, .long b1)] [] μ
  unfold f_X8_ofInt at h
  refine V_lload_n C 1 dX8_ofInt_0 rfl 1 rfl ?_
  refine V_lload_n C 1 dX8_ofInt_1 rfl 1 rfl ?_
  refine V_l2i C dX8_ofInt_2 ?_
  refine V_i2l C dX8_ofInt_3 ?_
  refine V_lcmp C dX8_ofInt_4 ?_
  refine V_if_eq C (tgt := 13) dX8_ofInt_5 (by decide) (fun hc => ?_) (fun hc => ?_)
  · replace h := (if_pos hc).symm.trans h
    refine V_lload_n C 1 dX8_ofInt_13 rfl 1 rfl ?_
    refine V_l2i C dX8_ofInt_14 ?_
    cases h
    exact V_ireturn C rfl rfl rfl dX8_ofInt_15
  · replace h := (if_neg hc).symm.trans h
    refine V_aload_n C 0 dX8_ofInt_8 rfl 0 rfl ?_
    refine V_iconst C (1 : Int32) dX8_ofInt_9 (by decide) ?_
    refine V_putI C 30 0 m_30 fp_RX8_92 rfl rfl rfl rfl (Nat.le_of_ble_eq_true rfl) dX8_ofInt_10 ?_
    refine V_memn (fun μ_1 hn9 => ?_)
    replace h := lt_eq hn9 h; clear hn9
    refine V_lload_n C 1 dX8_ofInt_13 rfl 1 rfl ?_
    refine V_l2i C dX8_ofInt_14 ?_
    cases h
    exact V_ireturn C rfl rfl rfl dX8_ofInt_15
set_option maxHeartbeats 4000000 in
set_option maxRecDepth 100000 in
theorem con_X8_number {l : Launch} {E : WE} (hl : l.stackTraces = false) (a1 : Int32) (b2 : Int64) (b4 : Int64)  {μ : Mem} {x} (h : f_X8_number a1 b2 b4 μ = some x) : Con l E lvM yX8_number cX8_number 8 (some .int) 1 [.ref (E.1 30 0), .int a1, .long b2, .long b4] μ (rWi x) := by
  refine Con.of (by decide) hl (Nat.le_of_ble_eq_true rfl) (fun Y C => ?_)
  replace C : Ok Y l E lvM 8 RX8 cX8_number (some .int) 1 := C
  show V Y l E lvM 8 (rWi x) 0 [(0, .ref (E.1 30 0)), (1, .int a1), (2, .long b2), (4, .long b4)] [] μ
  unfold f_X8_number at h
  refine V_iload_n C 1 dX8_number_0 rfl 1 rfl ?_
  by_cases hk0 : a1 = (0 : Int32)
  · replace h := (if_pos hk0).symm.trans h
    refine V_tableIn C (51) 52 dX8_number_1 (by rw [hk0]; decide +kernel) (by rw [hk0]; decide +kernel) (by rw [hk0]; decide +kernel) (by decide) ?_
    refine V_aload_n C 0 dX8_number_52 rfl 0 rfl ?_
    refine V_lload_n C 2 dX8_number_53 rfl 2 rfl ?_
    refine V_lload C dX8_number_54 3 rfl ?_
    refine V_ladd C dX8_number_56 ?_
    obtain ⟨v_1, μ_2, hv, h⟩ := bW_inv h
    refine V_callVo C 30 0 m_30 (some (.int v_1)) (con_X8_ofInt hl (b2 + b4) hv) tb_X8_ofInt lk_RX8_101 rfl rfl rfl (by decide) (by decide) rfl (Nat.le_of_ble_eq_true rfl) rfl dX8_number_57 rfl ?_
    clear hv
    cases h
    exact V_ireturn C rfl rfl rfl dX8_number_60
  replace h := (if_neg hk0).symm.trans h
  by_cases hk1 : a1 = (1 : Int32)
  · replace h := (if_pos hk1).symm.trans h
    refine V_tableIn C (60) 61 dX8_number_1 (by rw [hk1]; decide +kernel) (by rw [hk1]; decide +kernel) (by rw [hk1]; decide +kernel) (by decide) ?_
    refine V_aload_n C 0 dX8_number_61 rfl 0 rfl ?_
    refine V_lload_n C 2 dX8_number_62 rfl 2 rfl ?_
    refine V_lload C dX8_number_63 3 rfl ?_
    refine V_lsub C dX8_number_65 ?_
    obtain ⟨v_3, μ_4, hv, h⟩ := bW_inv h
    refine V_callVo C 30 0 m_30 (some (.int v_3)) (con_X8_ofInt hl (b2 - b4) hv) tb_X8_ofInt lk_RX8_101 rfl rfl rfl (by decide) (by decide) rfl (Nat.le_of_ble_eq_true rfl) rfl dX8_number_66 rfl ?_
    clear hv
    cases h
    exact V_ireturn C rfl rfl rfl dX8_number_69
  replace h := (if_neg hk1).symm.trans h
  by_cases hk2 : a1 = (2 : Int32)
  · replace h := (if_pos hk2).symm.trans h
    refine V_tableIn C (69) 70 dX8_number_1 (by rw [hk2]; decide +kernel) (by rw [hk2]; decide +kernel) (by rw [hk2]; decide +kernel) (by decide) ?_
    refine V_aload_n C 0 dX8_number_70 rfl 0 rfl ?_
    refine V_lload_n C 2 dX8_number_71 rfl 2 rfl ?_
    refine V_lload C dX8_number_72 3 rfl ?_
    refine V_lmul C dX8_number_74 ?_
    obtain ⟨v_5, μ_6, hv, h⟩ := bW_inv h
    refine V_callVo C 30 0 m_30 (some (.int v_5)) (con_X8_ofInt hl (b2 * b4) hv) tb_X8_ofInt lk_RX8_101 rfl rfl rfl (by decide) (by decide) rfl (Nat.le_of_ble_eq_true rfl) rfl dX8_number_75 rfl ?_
    clear hv
    cases h
    exact V_ireturn C rfl rfl rfl dX8_number_78
  replace h := (if_neg hk2).symm.trans h
  by_cases hk3 : a1 = (3 : Int32)
  · replace h := (if_pos hk3).symm.trans h
    refine V_tableIn C (78) 79 dX8_number_1 (by rw [hk3]; decide +kernel) (by rw [hk3]; decide +kernel) (by rw [hk3]; decide +kernel) (by decide) ?_
    refine V_lload C dX8_number_79 3 rfl ?_
    refine V_lconst C (0 : Int64) dX8_number_81 (by decide) ?_
    refine V_lcmp C dX8_number_82 ?_
    obtain ⟨j_7, hj_7, h⟩ := jn_ex h
    have J_7 : ∀ (_ : Unit) x, j_7 () = some x → V Y l E lvM 8 (rWi x) 95 [(0, .ref (E.1 30 0))] [] μ := by
      intro _  x h
      rw [hj_7] at h; clear hj_7
      refine V_aload_n C 0 dX8_number_95 rfl 0 rfl ?_
      refine V_iconst C (2 : Int32) dX8_number_96 (by decide) ?_
      refine V_putI C 30 0 m_30 fp_RX8_92 rfl rfl rfl rfl (Nat.le_of_ble_eq_true rfl) dX8_number_97 ?_
      refine V_memn (fun μ_8 hn9 => ?_)
      replace h := lt_eq hn9 h; clear hn9
      refine V_iconst C (0 : Int32) dX8_number_100 (by decide) ?_
      cases h
      exact V_ireturn C rfl rfl rfl dX8_number_101
    clear hj_7
    refine V_if_eq C (tgt := 95) dX8_number_83 (by decide) (fun hc => ?_) (fun hc => ?_)
    · replace h := (if_pos hc).symm.trans h
      refine V_sub (LP := [(0, .ref (E.1 30 0))]) [0] rfl ?_
      exact J_7 () _ h
    · replace h := (if_neg hc).symm.trans h
      refine V_lload_n C 2 dX8_number_86 rfl 2 rfl ?_
      refine V_lload C dX8_number_87 3 rfl ?_
      obtain ⟨hz9, h⟩ := gd_inv h
      refine V_lrem C dX8_number_89 (nzl_ne hz9) ?_
      refine V_lconst C (0 : Int64) dX8_number_90 (by decide) ?_
      refine V_lcmp C dX8_number_91 ?_
      refine V_if_eq C (tgt := 102) dX8_number_92 (by decide) (fun hc => ?_) (fun hc => ?_)
      · replace h := (if_pos hc).symm.trans h
        refine V_aload_n C 0 dX8_number_102 rfl 0 rfl ?_
        refine V_lload_n C 2 dX8_number_103 rfl 2 rfl ?_
        refine V_lload C dX8_number_104 3 rfl ?_
        obtain ⟨hz9, h⟩ := gd_inv h
        refine V_ldiv C dX8_number_106 (nzl_ne hz9) ?_
        obtain ⟨v_9, μ_10, hv, h⟩ := bW_inv h
        refine V_callVo C 30 0 m_30 (some (.int v_9)) (con_X8_ofInt hl (b2 / b4) hv) tb_X8_ofInt lk_RX8_101 rfl rfl rfl (by decide) (by decide) rfl (Nat.le_of_ble_eq_true rfl) rfl dX8_number_107 rfl ?_
        clear hv
        cases h
        exact V_ireturn C rfl rfl rfl dX8_number_110
      · replace h := (if_neg hc).symm.trans h
        refine V_sub (LP := [(0, .ref (E.1 30 0))]) [0] rfl ?_
        exact J_7 () _ h
  replace h := (if_neg hk3).symm.trans h
  by_cases hk4 : a1 = (4 : Int32)
  · replace h := (if_pos hk4).symm.trans h
    refine V_tableIn C (110) 111 dX8_number_1 (by rw [hk4]; decide +kernel) (by rw [hk4]; decide +kernel) (by rw [hk4]; decide +kernel) (by decide) ?_
    refine V_lload_n C 2 dX8_number_111 rfl 2 rfl ?_
    refine V_lconst C (0 : Int64) dX8_number_112 (by decide) ?_
    refine V_lcmp C dX8_number_113 ?_
    refine V_if_ne C (tgt := 121) dX8_number_114 (by decide) (fun hc => ?_) (fun hc => ?_)
    · replace h := (if_neg hc).symm.trans h
      refine V_lload C dX8_number_121 3 rfl ?_
      refine V_lload_n C 2 dX8_number_123 rfl 2 rfl ?_
      obtain ⟨hz9, h⟩ := gd_inv h
      refine V_lrem C dX8_number_124 (nzl_ne hz9) ?_
      refine V_topl (fun x_11 hn9 => ?_)
      replace h := lt_eq hn9 h; clear hn9
      refine V_lstore (L' := [(0, .ref (E.1 30 0)), (1, .int a1), (2, .long b2), (4, .long b4), (6, .long x_11)]) C dX8_number_125 (by decide) [1, 2, 3, 4, 0] rfl ?_
      refine V_lload C dX8_number_127 4 rfl ?_
      refine V_lconst C (0 : Int64) dX8_number_129 (by decide) ?_
      refine V_lcmp C dX8_number_130 ?_
      obtain ⟨j_12, hj_12, h⟩ := jn_ex h
      have J_12 : ∀ (_ : Unit) x, j_12 () = some x → V Y l E lvM 8 (rWi x) 167 [(6, .long x_11)] [] μ := by
        intro _  x h
        rw [hj_12] at h; clear hj_12
        refine V_lload C dX8_number_167 0 rfl ?_
        refine V_l2i C dX8_number_169 ?_
        cases h
        exact V_ireturn C rfl rfl rfl dX8_number_170
      clear hj_12
      refine V_if_eq C (tgt := 167) dX8_number_131 (by decide) (fun hc => ?_) (fun hc => ?_)
      · replace h := (if_pos hc).symm.trans h
        refine V_sub (LP := [(6, .long x_11)]) [4] rfl ?_
        exact J_12 () _ h
      · replace h := (if_neg hc).symm.trans h
        refine V_lload C dX8_number_134 4 rfl ?_
        refine V_lconst C (0 : Int64) dX8_number_136 (by decide) ?_
        refine V_lcmp C dX8_number_137 ?_
        obtain ⟨j_14, hj_14, h⟩ := jn_ex h
        have J_14 : ∀ (s_13 : Int32) x, j_14 s_13 = some x → V Y l E lvM 8 (rWi x) 146 [(2, .long b2), (6, .long x_11)] [.int s_13] μ := by
          intro s_13  x h
          rw [hj_14] at h; clear hj_14
          refine V_lload_n C 2 dX8_number_146 rfl 0 rfl ?_
          refine V_lconst C (0 : Int64) dX8_number_147 (by decide) ?_
          refine V_lcmp C dX8_number_148 ?_
          obtain ⟨j_16, hj_16, h⟩ := jn_ex h
          have J_16 : ∀ (s_15 : Int32) x, j_16 s_15 = some x → V Y l E lvM 8 (rWi x) 157 [(2, .long b2), (6, .long x_11)] [.int s_15, .int s_13] μ := by
            intro s_15  x h
            rw [hj_16] at h; clear hj_16
            refine V_icmp_eq C (tgt := 167) dX8_number_157 (by decide) (fun hc => ?_) (fun hc => ?_)
            · replace h := (if_pos hc).symm.trans h
              refine V_sub (LP := [(6, .long x_11)]) [1] rfl ?_
              exact J_12 () _ h
            · replace h := (if_neg hc).symm.trans h
              refine V_lload C dX8_number_160 1 rfl ?_
              refine V_lload_n C 2 dX8_number_162 rfl 0 rfl ?_
              refine V_ladd C dX8_number_163 ?_
              refine V_goto C (tgt := 169) dX8_number_164 (by decide) ?_
              refine V_l2i C dX8_number_169 ?_
              cases h
              exact V_ireturn C rfl rfl rfl dX8_number_170
          clear hj_16
          refine V_if_ge C (tgt := 156) dX8_number_149 (by decide) (fun hc => ?_) (fun hc => ?_)
          · replace h := (if_pos hc).symm.trans h
            refine V_iconst C (0 : Int32) dX8_number_156 (by decide) ?_
            refine V_sub (LP := [(2, .long b2), (6, .long x_11)]) [0, 1] rfl ?_
            exact J_16 _ _ h
          · replace h := (if_neg hc).symm.trans h
            refine V_iconst C (1 : Int32) dX8_number_152 (by decide) ?_
            refine V_goto C (tgt := 157) dX8_number_153 (by decide) ?_
            refine V_sub (LP := [(2, .long b2), (6, .long x_11)]) [0, 1] rfl ?_
            exact J_16 _ _ h
        clear hj_14
        refine V_if_ge C (tgt := 145) dX8_number_138 (by decide) (fun hc => ?_) (fun hc => ?_)
        · replace h := (if_pos hc).symm.trans h
          refine V_iconst C (0 : Int32) dX8_number_145 (by decide) ?_
          refine V_sub (LP := [(2, .long b2), (6, .long x_11)]) [2, 4] rfl ?_
          exact J_14 _ _ h
        · replace h := (if_neg hc).symm.trans h
          refine V_iconst C (1 : Int32) dX8_number_141 (by decide) ?_
          refine V_goto C (tgt := 146) dX8_number_142 (by decide) ?_
          refine V_sub (LP := [(2, .long b2), (6, .long x_11)]) [2, 4] rfl ?_
          exact J_14 _ _ h
    · replace h := (if_pos hc).symm.trans h
      refine V_lload C dX8_number_117 3 rfl ?_
      refine V_l2i C dX8_number_119 ?_
      cases h
      exact V_ireturn C rfl rfl rfl dX8_number_120
  replace h := (if_neg hk4).symm.trans h
  by_cases hk5 : a1 = (5 : Int32)
  · replace h := (if_pos hk5).symm.trans h
    refine V_tableIn C (170) 171 dX8_number_1 (by rw [hk5]; decide +kernel) (by rw [hk5]; decide +kernel) (by rw [hk5]; decide +kernel) (by decide) ?_
    refine V_lload_n C 2 dX8_number_171 rfl 2 rfl ?_
    refine V_lload C dX8_number_172 3 rfl ?_
    refine V_lcmp C dX8_number_174 ?_
    refine V_if_ge C (tgt := 182) dX8_number_175 (by decide) (fun hc => ?_) (fun hc => ?_)
    · replace h := (if_pos hc).symm.trans h
      refine V_iconst C (0 : Int32) dX8_number_182 (by decide) ?_
      cases h
      exact V_ireturn C rfl rfl rfl dX8_number_183
    · replace h := (if_neg hc).symm.trans h
      refine V_iconst C (1 : Int32) dX8_number_178 (by decide) ?_
      refine V_goto C (tgt := 183) dX8_number_179 (by decide) ?_
      cases h
      exact V_ireturn C rfl rfl rfl dX8_number_183
  replace h := (if_neg hk5).symm.trans h
  by_cases hk6 : a1 = (6 : Int32)
  · replace h := (if_pos hk6).symm.trans h
    refine V_tableIn C (183) 184 dX8_number_1 (by rw [hk6]; decide +kernel) (by rw [hk6]; decide +kernel) (by rw [hk6]; decide +kernel) (by decide) ?_
    refine V_lload_n C 2 dX8_number_184 rfl 2 rfl ?_
    refine V_lload C dX8_number_185 3 rfl ?_
    refine V_lcmp C dX8_number_187 ?_
    refine V_if_le C (tgt := 195) dX8_number_188 (by decide) (fun hc => ?_) (fun hc => ?_)
    · replace h := (if_pos hc).symm.trans h
      refine V_iconst C (0 : Int32) dX8_number_195 (by decide) ?_
      cases h
      exact V_ireturn C rfl rfl rfl dX8_number_196
    · replace h := (if_neg hc).symm.trans h
      refine V_iconst C (1 : Int32) dX8_number_191 (by decide) ?_
      refine V_goto C (tgt := 196) dX8_number_192 (by decide) ?_
      cases h
      exact V_ireturn C rfl rfl rfl dX8_number_196
  replace h := (if_neg hk6).symm.trans h
  by_cases hk7 : a1 = (7 : Int32)
  · replace h := (if_pos hk7).symm.trans h
    refine V_tableIn C (196) 197 dX8_number_1 (by rw [hk7]; decide +kernel) (by rw [hk7]; decide +kernel) (by rw [hk7]; decide +kernel) (by decide) ?_
    refine V_lload_n C 2 dX8_number_197 rfl 2 rfl ?_
    refine V_lload C dX8_number_198 3 rfl ?_
    refine V_lcmp C dX8_number_200 ?_
    refine V_if_ne C (tgt := 208) dX8_number_201 (by decide) (fun hc => ?_) (fun hc => ?_)
    · replace h := (if_neg hc).symm.trans h
      refine V_iconst C (0 : Int32) dX8_number_208 (by decide) ?_
      cases h
      exact V_ireturn C rfl rfl rfl dX8_number_209
    · replace h := (if_pos hc).symm.trans h
      refine V_iconst C (1 : Int32) dX8_number_204 (by decide) ?_
      refine V_goto C (tgt := 209) dX8_number_205 (by decide) ?_
      cases h
      exact V_ireturn C rfl rfl rfl dX8_number_209
  replace h := (if_neg hk7).symm.trans h
  by_cases hk8 : a1 = (8 : Int32)
  · replace h := (if_pos hk8).symm.trans h
    refine V_tableIn C (209) 210 dX8_number_1 (by rw [hk8]; decide +kernel) (by rw [hk8]; decide +kernel) (by rw [hk8]; decide +kernel) (by decide) ?_
    refine V_lload_n C 2 dX8_number_210 rfl 2 rfl ?_
    refine V_lload C dX8_number_211 3 rfl ?_
    refine V_lcmp C dX8_number_213 ?_
    refine V_if_ge C (tgt := 221) dX8_number_214 (by decide) (fun hc => ?_) (fun hc => ?_)
    · replace h := (if_pos hc).symm.trans h
      refine V_lload C dX8_number_221 3 rfl ?_
      refine V_l2i C dX8_number_223 ?_
      cases h
      exact V_ireturn C rfl rfl rfl dX8_number_224
    · replace h := (if_neg hc).symm.trans h
      refine V_lload_n C 2 dX8_number_217 rfl 2 rfl ?_
      refine V_goto C (tgt := 223) dX8_number_218 (by decide) ?_
      refine V_l2i C dX8_number_223 ?_
      cases h
      exact V_ireturn C rfl rfl rfl dX8_number_224
  replace h := (if_neg hk8).symm.trans h
  have ne0 := lv_neT (a := 0) hk0 (by decide +kernel)
  have ne1 := lv_neT (a := 1) hk1 (by decide +kernel)
  have ne2 := lv_neT (a := 2) hk2 (by decide +kernel)
  have ne3 := lv_neT (a := 3) hk3 (by decide +kernel)
  have ne4 := lv_neT (a := 4) hk4 (by decide +kernel)
  have ne5 := lv_neT (a := 5) hk5 (by decide +kernel)
  have ne6 := lv_neT (a := 6) hk6 (by decide +kernel)
  have ne7 := lv_neT (a := 7) hk7 (by decide +kernel)
  have ne8 := lv_neT (a := 8) hk8 (by decide +kernel)
  refine V_tableOut C 225 dX8_number_1 (by omega) (by decide) ?_
  refine V_lload_n C 2 dX8_number_225 rfl 2 rfl ?_
  refine V_lload C dX8_number_226 3 rfl ?_
  refine V_lcmp C dX8_number_228 ?_
  refine V_if_le C (tgt := 236) dX8_number_229 (by decide) (fun hc => ?_) (fun hc => ?_)
  · replace h := (if_pos hc).symm.trans h
    refine V_lload C dX8_number_236 3 rfl ?_
    refine V_l2i C dX8_number_238 ?_
    cases h
    exact V_ireturn C rfl rfl rfl dX8_number_239
  · replace h := (if_neg hc).symm.trans h
    refine V_lload_n C 2 dX8_number_232 rfl 2 rfl ?_
    refine V_goto C (tgt := 238) dX8_number_233 (by decide) ?_
    refine V_l2i C dX8_number_238 ?_
    cases h
    exact V_ireturn C rfl rfl rfl dX8_number_239
