set_option maxHeartbeats 4000000 in
set_option maxRecDepth 100000 in
theorem con_X1_cellFor {l : Launch} {E : WE} (hl : l.stackTraces = false) (g0 : Nat) (a1 : Int32) (hg0 : g0 < 18) {μ : Mem} {x} (h : f_X1_cellFor g0 a1 μ = some x) : Con l E lvC yX1_cellFor cX1_cellFor 2 (some .int) 0 [.ref (E.1 20 g0), .int a1] μ (rPi x μ) := by
  refine Con.of (by decide) hl (Nat.le_of_ble_eq_true rfl) (fun Y C => ?_)
  replace C : Ok Y l E lvC 2 RX1 cX1_cellFor (some .int) 0 := C
  show V Y l E lvC 2 (rPi x μ) 0 [(0, .ref (E.1 20 g0)), (1, .int a1)] [] μ
  unfold f_X1_cellFor at h
  refine V_aload_n C 0 dX1_cellFor_0 rfl 0 rfl ?_
  refine V_getf (v := .int (μ 20 g0 2)) C 20 g0 (gr_0in g0 hg0) fl_RX1_18 rfl rfl dX1_cellFor_1 ?_
  refine V_if_ne C (tgt := 16) dX1_cellFor_4 (by decide) (fun hc => ?_) (fun hc => ?_)
  · replace h := (if_neg hc).symm.trans h
    refine V_aload_n C 0 dX1_cellFor_16 rfl 0 rfl ?_
    refine V_getf (v := .ref (E.1 22 g0)) C 20 g0 (gr_0in g0 hg0) fl_RX1_15 rfl rfl dX1_cellFor_17 ?_
    refine V_iload_n C 1 dX1_cellFor_20 rfl 1 rfl ?_
    obtain ⟨hi9, h⟩ := gd_inv h
    refine V_iald C 22 g0 (gr_2in g0 hg0) (fun _ => rfl) (inb_in hi9) dX1_cellFor_21 ?_
    cases h
    exact V_ireturn C rfl rfl rfl dX1_cellFor_22
  · replace h := (if_pos hc).symm.trans h
    refine V_aload_n C 0 dX1_cellFor_7 rfl 0 rfl ?_
    refine V_getf (v := .ref (E.1 22 g0)) C 20 g0 (gr_0in g0 hg0) fl_RX1_15 rfl rfl dX1_cellFor_8 ?_
    refine V_iconst C (0 : Int32) dX1_cellFor_11 (by decide) ?_
    obtain ⟨hi9, h⟩ := gd_inv h
    refine V_iald C 22 g0 (gr_2in g0 hg0) (fun _ => rfl) (inb_in hi9) dX1_cellFor_12 ?_
    refine V_goto C (tgt := 22) dX1_cellFor_13 (by decide) ?_
    cases h
    exact V_ireturn C rfl rfl rfl dX1_cellFor_22
set_option maxHeartbeats 4000000 in
set_option maxRecDepth 100000 in
theorem lp_X4_join_108 {Y : Mc} {l : Launch} {E : WE} (hl : l.stackTraces = false) (C : Ok Y l E lvC 11 RX4 cX4_join none 2) {κ : Mem → Option (Except Nat Unit × Mem)} (g_18 : Nat) (g_19 : Nat) (g_20 : Nat) (c5_21 : Int32) (c6_22 : Int32) (hg_18 : g_18 < 18) (hg_19 : g_19 < 18) (hg_20 : g_20 < 18) (hκ : ∀  (μ_41 : Mem) x, κ  μ_41 = some x → V Y l E lvC 11 (rBu x) 187 [] [] μ_41) : ∀ (n : Nat) (a7_23 : Int32) (a8_24 : Int32) (a9_25 : Int32) (a10_26 : Int32) (μ_27 : Mem) {x}, f_X4_join_L108 κ g_18 g_19 g_20 c5_21 c6_22 n a7_23 a8_24 a9_25 a10_26 μ_27 = some x → V Y l E lvC 11 (rBu x) 108 [(0, .ref (E.1 20 g_18)), (1, .ref (E.1 20 g_19)), (2, .ref (E.1 20 g_20)), (5, .int c5_21), (6, .int c6_22), (7, .int a7_23), (8, .int a8_24), (9, .int a9_25), (10, .int a10_26)] [] μ_27 := by
  intro n
  induction n with
  | zero =>
    intro a7_23 a8_24 a9_25 a10_26 μ_27 x h
    simp [f_X4_join_L108] at h
  | succ n ih =>
    intro a7_23 a8_24 a9_25 a10_26 μ_27 x h
    rw [f_X4_join_L108] at h
    refine V_iload C dX4_join_108 8 rfl ?_
    refine V_aload_n C 2 dX4_join_110 rfl 2 rfl ?_
    refine V_getf (v := .int (μ_27 20 g_20 3)) C 20 g_20 (gr_0in g_20 hg_20) fl_RX4_18 rfl rfl dX4_join_111 ?_
    refine V_icmp_ge C (tgt := 187) dX4_join_114 (by decide) (fun hc => ?_) (fun hc => ?_)
    · replace h := (if_pos hc).symm.trans h
      refine V_sub (LP := []) [] rfl ?_
      exact hκ _ _ h
    · replace h := (if_neg hc).symm.trans h
      refine V_iload C dX4_join_117 7 rfl ?_
      refine V_iload C dX4_join_119 3 rfl ?_
      obtain ⟨j_31, hj_31, h⟩ := jn_ex h
      have J_31 : ∀ (a7_28 : Int32) (a8_29 : Int32) (μ_30 : Mem) x, j_31 a7_28 a8_29 μ_30 = some x → V Y l E lvC 11 (rBu x) 159 [(0, .ref (E.1 20 g_18)), (1, .ref (E.1 20 g_19)), (2, .ref (E.1 20 g_20)), (5, .int c5_21), (6, .int c6_22), (7, .int a7_28), (8, .int a8_29), (9, .int a9_25), (10, .int a10_26)] [] μ_30 := by
        intro a7_28 a8_29 μ_30  x h
        rw [hj_31] at h; clear hj_31
        refine V_iload C dX4_join_159 7 rfl ?_
        refine V_iconst C (1 : Int32) dX4_join_161 (by decide) ?_
        refine V_iadd C dX4_join_162 ?_
        refine V_iload C dX4_join_163 3 rfl ?_
        refine V_iload C dX4_join_165 4 rfl ?_
        refine V_iadd C dX4_join_167 ?_
        obtain ⟨j_33, hj_33, h⟩ := jn_ex h
        have J_33 : ∀ (s_32 : Int32) x, j_33 s_32 = some x → V Y l E lvC 11 (rBu x) 179 [(0, .ref (E.1 20 g_18)), (1, .ref (E.1 20 g_19)), (2, .ref (E.1 20 g_20)), (5, .int c5_21), (6, .int c6_22), (7, .int a7_28), (8, .int a8_29), (10, .int a10_26)] [.int s_32] μ_30 := by
          intro s_32  x h
          rw [hj_33] at h; clear hj_33
          refine V_istore (L' := [(0, .ref (E.1 20 g_18)), (1, .ref (E.1 20 g_19)), (2, .ref (E.1 20 g_20)), (5, .int c5_21), (6, .int c6_22), (7, .int a7_28), (8, .int a8_29), (9, .int s_32), (10, .int a10_26)]) C dX4_join_179 (by decide) [1, 2, 3, 4, 5, 6, 7, 0, 8] rfl ?_
          obtain ⟨x_34, hn9⟩ : ∃ z : Int32, z = a10_26 + (1 : Int32) := ⟨_, rfl⟩
          replace h := lt_eq hn9 h
          refine V_iinc (L' := [(0, .ref (E.1 20 g_18)), (1, .ref (E.1 20 g_19)), (2, .ref (E.1 20 g_20)), (5, .int c5_21), (6, .int c6_22), (7, .int a7_28), (8, .int a8_29), (9, .int s_32), (10, .int x_34)]) C x_34 dX4_join_181 8 rfl (by rw [hn9]; exact congrArg (a10_26 + ·) (by decide)) (by decide) [1, 2, 3, 4, 5, 6, 7, 8, 0] rfl ?_
          clear hn9
          refine V_goto C (tgt := 108) dX4_join_184 (by decide) ?_
          refine V_sub (LP := [(0, .ref (E.1 20 g_18)), (1, .ref (E.1 20 g_19)), (2, .ref (E.1 20 g_20)), (5, .int c5_21), (6, .int c6_22), (7, .int a7_28), (8, .int a8_29), (9, .int s_32), (10, .int x_34)]) [0, 1, 2, 3, 4, 5, 6, 7, 8] rfl ?_
          exact ih _ _ _ _ _ h
        clear hj_33
        refine V_icmp_ne C (tgt := 175) dX4_join_168 (by decide) (fun hc => ?_) (fun hc => ?_)
        · replace h := (if_neg hc).symm.trans h
          refine V_iload C dX4_join_175 7 rfl ?_
          refine V_iconst C (1 : Int32) dX4_join_177 (by decide) ?_
          refine V_iadd C dX4_join_178 ?_
          refine V_sub (LP := [(0, .ref (E.1 20 g_18)), (1, .ref (E.1 20 g_19)), (2, .ref (E.1 20 g_20)), (5, .int c5_21), (6, .int c6_22), (7, .int a7_28), (8, .int a8_29), (10, .int a10_26)]) [0, 1, 2, 3, 4, 5, 6, 8] rfl ?_
          exact J_33 _ _ h
        · replace h := (if_pos hc).symm.trans h
          refine V_iconst C (0 : Int32) dX4_join_171 (by decide) ?_
          refine V_goto C (tgt := 179) dX4_join_172 (by decide) ?_
          refine V_sub (LP := [(0, .ref (E.1 20 g_18)), (1, .ref (E.1 20 g_19)), (2, .ref (E.1 20 g_20)), (5, .int c5_21), (6, .int c6_22), (7, .int a7_28), (8, .int a8_29), (10, .int a10_26)]) [0, 1, 2, 3, 4, 5, 6, 8] rfl ?_
          exact J_33 _ _ h
      clear hj_31
      refine V_icmp_ge C (tgt := 143) dX4_join_121 (by decide) (fun hc => ?_) (fun hc => ?_)
      · replace h := (if_pos hc).symm.trans h
        refine V_aload_n C 2 dX4_join_143 rfl 2 rfl ?_
        refine V_getf (v := .ref (E.1 22 g_20)) C 20 g_20 (gr_0in g_20 hg_20) fl_RX4_28 rfl rfl dX4_join_144 ?_
        refine V_iload C dX4_join_147 8 rfl ?_
        refine V_aload_n C 1 dX4_join_149 rfl 1 rfl ?_
        refine V_iload C dX4_join_150 6 rfl ?_
        obtain ⟨v_35, hv, h⟩ := bP_inv h
        refine V_callVo C 20 g_19 (gr_0in g_19 hg_19) (some (.int v_35)) (con_X1_cellFor hl g_19 a8_24 hg_19 hv) tb_X1_cellFor lk_RX4_94 rfl rfl rfl (by decide) (by decide) rfl (Nat.le_of_ble_eq_true rfl) rfl dX4_join_152 rfl ?_
        clear hv
        obtain ⟨hi9, h⟩ := gd_inv h
        refine V_iast C 22 g_20 (gr_2in g_20 hg_20) (fun _ => rfl) (inb_in hi9) dX4_join_155 ?_
        refine V_memn (fun μ_36 hn9 => ?_)
        replace h := lt_eq hn9 h; clear hn9
        obtain ⟨x_37, hn9⟩ : ∃ z : Int32, z = a8_24 + (1 : Int32) := ⟨_, rfl⟩
        replace h := lt_eq hn9 h
        refine V_iinc (L' := [(0, .ref (E.1 20 g_18)), (1, .ref (E.1 20 g_19)), (2, .ref (E.1 20 g_20)), (5, .int c5_21), (6, .int c6_22), (7, .int a7_23), (8, .int x_37), (9, .int a9_25), (10, .int a10_26)]) C x_37 dX4_join_156 6 rfl (by rw [hn9]; exact congrArg (a8_24 + ·) (by decide)) (by decide) [1, 2, 3, 4, 5, 6, 0, 7, 8] rfl ?_
        clear hn9
        refine V_sub (LP := [(0, .ref (E.1 20 g_18)), (1, .ref (E.1 20 g_19)), (2, .ref (E.1 20 g_20)), (5, .int c5_21), (6, .int c6_22), (7, .int a7_23), (8, .int x_37), (9, .int a9_25), (10, .int a10_26)]) [0, 1, 2, 3, 4, 5, 6, 7, 8] rfl ?_
        exact J_31 _ _ _ _ h
      · replace h := (if_neg hc).symm.trans h
        refine V_aload_n C 2 dX4_join_124 rfl 2 rfl ?_
        refine V_getf (v := .ref (E.1 22 g_20)) C 20 g_20 (gr_0in g_20 hg_20) fl_RX4_28 rfl rfl dX4_join_125 ?_
        refine V_iload C dX4_join_128 8 rfl ?_
        refine V_aload_n C 0 dX4_join_130 rfl 0 rfl ?_
        refine V_iload C dX4_join_131 5 rfl ?_
        obtain ⟨v_38, hv, h⟩ := bP_inv h
        refine V_callVo C 20 g_18 (gr_0in g_18 hg_18) (some (.int v_38)) (con_X1_cellFor hl g_18 a7_23 hg_18 hv) tb_X1_cellFor lk_RX4_94 rfl rfl rfl (by decide) (by decide) rfl (Nat.le_of_ble_eq_true rfl) rfl dX4_join_133 rfl ?_
        clear hv
        obtain ⟨hi9, h⟩ := gd_inv h
        refine V_iast C 22 g_20 (gr_2in g_20 hg_20) (fun _ => rfl) (inb_in hi9) dX4_join_136 ?_
        refine V_memn (fun μ_39 hn9 => ?_)
        replace h := lt_eq hn9 h; clear hn9
        obtain ⟨x_40, hn9⟩ : ∃ z : Int32, z = a7_23 + (1 : Int32) := ⟨_, rfl⟩
        replace h := lt_eq hn9 h
        refine V_iinc (L' := [(0, .ref (E.1 20 g_18)), (1, .ref (E.1 20 g_19)), (2, .ref (E.1 20 g_20)), (5, .int c5_21), (6, .int c6_22), (7, .int x_40), (8, .int a8_24), (9, .int a9_25), (10, .int a10_26)]) C x_40 dX4_join_137 5 rfl (by rw [hn9]; exact congrArg (a7_23 + ·) (by decide)) (by decide) [1, 2, 3, 4, 5, 0, 6, 7, 8] rfl ?_
        clear hn9
        refine V_goto C (tgt := 159) dX4_join_140 (by decide) ?_
        refine V_sub (LP := [(0, .ref (E.1 20 g_18)), (1, .ref (E.1 20 g_19)), (2, .ref (E.1 20 g_20)), (5, .int c5_21), (6, .int c6_22), (7, .int x_40), (8, .int a8_24), (9, .int a9_25), (10, .int a10_26)]) [0, 1, 2, 3, 4, 5, 6, 7, 8] rfl ?_
        exact J_31 _ _ _ _ h
set_option maxHeartbeats 4000000 in
set_option maxRecDepth 100000 in
theorem con_X4_join {l : Launch} {E : WE} (hl : l.stackTraces = false) (g0 : Nat) (g1 : Nat) (g2 : Nat) (hg0 : g0 < 18) (hg1 : g1 < 18) (hg2 : g2 < 18) {μ : Mem} {x} (h : f_X4_join g0 g1 g2 μ = some x) : Con l E lvC yX4_join cX4_join 11 none 2 [.ref (E.1 20 g0), .ref (E.1 20 g1), .ref (E.1 20 g2)] μ (rBu x) := by
  refine Con.of (by decide) hl (Nat.le_of_ble_eq_true rfl) (fun Y C => ?_)
  replace C : Ok Y l E lvC 11 RX4 cX4_join none 2 := C
  show V Y l E lvC 11 (rBu x) 0 [(0, .ref (E.1 20 g0)), (1, .ref (E.1 20 g1)), (2, .ref (E.1 20 g2))] [] μ
  unfold f_X4_join at h
  refine V_iconst C (1 : Int32) dX4_join_0 (by decide) ?_
  refine V_aload_n C 0 dX4_join_1 rfl 0 rfl ?_
  refine V_getf (v := .int (μ 20 g0 2)) C 20 g0 (gr_0in g0 hg0) fl_RX4_54 rfl rfl dX4_join_2 ?_
  refine V_aload_n C 1 dX4_join_5 rfl 1 rfl ?_
  refine V_getf (v := .int (μ 20 g1 2)) C 20 g1 (gr_0in g1 hg1) fl_RX4_54 rfl rfl dX4_join_6 ?_
  refine V_mmax C lk_RX4_80 w_max1 w_math w_max2 (Nat.le_of_ble_eq_true rfl) dX4_join_9 ?_
  refine V_mmax C lk_RX4_80 w_max1 w_math w_max2 (Nat.le_of_ble_eq_true rfl) dX4_join_12 ?_
  refine V_topi (fun x_1 hn9 => ?_)
  replace h := lt_eq hn9 h; clear hn9
  refine V_istore_n (L' := [(0, .ref (E.1 20 g0)), (1, .ref (E.1 20 g1)), (2, .ref (E.1 20 g2)), (3, .int x_1)]) C 3 dX4_join_15 rfl (by decide) [1, 2, 3, 0] rfl ?_
  refine V_aload_n C 0 dX4_join_16 rfl 0 rfl ?_
  refine V_getf (v := .int (μ 20 g0 2)) C 20 g0 (gr_0in g0 hg0) fl_RX4_54 rfl rfl dX4_join_17 ?_
  refine V_iload_n C 3 dX4_join_20 rfl 3 rfl ?_
  obtain ⟨j_3, hj_3, h⟩ := jn_ex h
  have J_3 : ∀ (g_2 : Nat) (_ : g_2 < 18) x, j_3 g_2 = some x → V Y l E lvC 11 (rBu x) 29 [(0, .ref (E.1 20 g0)), (1, .ref (E.1 20 g1)), (2, .ref (E.1 20 g2)), (3, .int x_1)] [.ref (E.1 20 g_2)] μ := by
    intro g_2 hg_2 x h
    rw [hj_3] at h; clear hj_3
    refine V_astore (L' := [(0, .ref (E.1 20 g0)), (1, .ref (E.1 20 g1)), (2, .ref (E.1 20 g2)), (3, .int x_1), (4, .ref (E.1 20 g_2))]) C dX4_join_29 (by decide) [1, 2, 3, 4, 0] rfl ?_
    refine V_aload_n C 0 dX4_join_31 rfl 0 rfl ?_
    refine V_aload_n C 1 dX4_join_32 rfl 1 rfl ?_
    refine V_iload_n C 3 dX4_join_33 rfl 3 rfl ?_
    rcases bT_inv h with ⟨e_5, hv, h⟩ | ⟨u_4, hv, h⟩
    · cases h; exact V_callSe C e_5 (con_X4_needJoinable hl g0 g1 x_1 hg0 hg1 hv) tb_X4_needJoinable lk_RX4_86 (by decide) (by decide) rfl (Nat.le_of_ble_eq_true rfl) rfl dX4_join_34 rfl
    refine V_callSo C none (con_X4_needJoinable hl g0 g1 x_1 hg0 hg1 hv) tb_X4_needJoinable lk_RX4_86 (by decide) (by decide) rfl (Nat.le_of_ble_eq_true rfl) rfl dX4_join_34 rfl ?_
    clear hv
    refine V_aload_n C 0 dX4_join_37 rfl 0 rfl ?_
    refine V_getf (v := .int (μ 20 g0 2)) C 20 g0 (gr_0in g0 hg0) fl_RX4_54 rfl rfl dX4_join_38 ?_
    refine V_iload_n C 3 dX4_join_41 rfl 3 rfl ?_
    obtain ⟨j_7, hj_7, h⟩ := jn_ex h
    have J_7 : ∀ (s_6 : Int32) x, j_7 s_6 = some x → V Y l E lvC 11 (rBu x) 53 [(0, .ref (E.1 20 g0)), (1, .ref (E.1 20 g1)), (2, .ref (E.1 20 g2)), (3, .int x_1), (4, .ref (E.1 20 g_2))] [.int s_6] μ := by
      intro s_6  x h
      rw [hj_7] at h; clear hj_7
      refine V_istore (L' := [(0, .ref (E.1 20 g0)), (1, .ref (E.1 20 g1)), (2, .ref (E.1 20 g2)), (3, .int x_1), (4, .ref (E.1 20 g_2)), (5, .int s_6)]) C dX4_join_53 (by decide) [1, 2, 3, 4, 5, 0] rfl ?_
      refine V_aload_n C 1 dX4_join_55 rfl 1 rfl ?_
      refine V_getf (v := .int (μ 20 g1 2)) C 20 g1 (gr_0in g1 hg1) fl_RX4_54 rfl rfl dX4_join_56 ?_
      refine V_iload_n C 3 dX4_join_59 rfl 3 rfl ?_
      obtain ⟨j_9, hj_9, h⟩ := jn_ex h
      have J_9 : ∀ (s_8 : Int32) x, j_9 s_8 = some x → V Y l E lvC 11 (rBu x) 71 [(0, .ref (E.1 20 g0)), (1, .ref (E.1 20 g1)), (2, .ref (E.1 20 g2)), (3, .int x_1), (4, .ref (E.1 20 g_2)), (5, .int s_6)] [.int s_8] μ := by
        intro s_8  x h
        rw [hj_9] at h; clear hj_9
        refine V_istore (L' := [(0, .ref (E.1 20 g0)), (1, .ref (E.1 20 g1)), (2, .ref (E.1 20 g2)), (3, .int x_1), (4, .ref (E.1 20 g_2)), (5, .int s_6), (6, .int s_8)]) C dX4_join_71 (by decide) [1, 2, 3, 4, 5, 6, 0] rfl ?_
        refine V_aload_n C 2 dX4_join_73 rfl 2 rfl ?_
        refine V_aload C dX4_join_74 4 rfl ?_
        refine V_iconst C (0 : Int32) dX4_join_76 (by decide) ?_
        refine V_iload_n C 3 dX4_join_77 rfl 3 rfl ?_
        refine V_iconst C (1 : Int32) dX4_join_78 (by decide) ?_
        refine V_isub C dX4_join_79 ?_
        rcases bB_inv h with ⟨e_12, μ_11, hv, h⟩ | ⟨u_10, μ_11, hv, h⟩
        · cases h; exact V_callVe C 20 g2 (gr_0in g2 hg2) e_12 (con_X1_addAxesOf hl g2 g_2 (0 : Int32) (x_1 - (1 : Int32)) hg2 hg_2 hv) tb_X1_addAxesOf lk_RX4_90 rfl rfl rfl (by decide) (by decide) rfl (Nat.le_of_ble_eq_true rfl) rfl dX4_join_80 rfl
        refine V_callVo C 20 g2 (gr_0in g2 hg2) none (con_X1_addAxesOf hl g2 g_2 (0 : Int32) (x_1 - (1 : Int32)) hg2 hg_2 hv) tb_X1_addAxesOf lk_RX4_90 rfl rfl rfl (by decide) (by decide) rfl (Nat.le_of_ble_eq_true rfl) rfl dX4_join_80 rfl ?_
        clear hv
        refine V_aload_n C 2 dX4_join_83 rfl 2 rfl ?_
        refine V_iload C dX4_join_84 5 rfl ?_
        refine V_iload C dX4_join_86 6 rfl ?_
        refine V_iadd C dX4_join_88 ?_
        rcases bB_inv h with ⟨e_15, μ_14, hv, h⟩ | ⟨u_13, μ_14, hv, h⟩
        · cases h; exact V_callVe C 20 g2 (gr_0in g2 hg2) e_15 (con_X1_addAxis hl g2 (s_6 + s_8) hg2 hv) tb_X1_addAxis lk_RX4_24 rfl rfl rfl (by decide) (by decide) rfl (Nat.le_of_ble_eq_true rfl) rfl dX4_join_89 rfl
        refine V_callVo C 20 g2 (gr_0in g2 hg2) none (con_X1_addAxis hl g2 (s_6 + s_8) hg2 hv) tb_X1_addAxis lk_RX4_24 rfl rfl rfl (by decide) (by decide) rfl (Nat.le_of_ble_eq_true rfl) rfl dX4_join_89 rfl ?_
        clear hv
        refine V_aload_n C 2 dX4_join_92 rfl 2 rfl ?_
        rcases bT_inv h with ⟨e_17, hv, h⟩ | ⟨u_16, hv, h⟩
        · cases h; exact V_callVe C 20 g2 (gr_0in g2 hg2) e_17 (con_X1_endAxes hl g2 hg2 hv) tb_X1_endAxes lk_RX4_77 rfl rfl rfl (by decide) (by decide) rfl (Nat.le_of_ble_eq_true rfl) rfl dX4_join_93 rfl
        refine V_callVo C 20 g2 (gr_0in g2 hg2) none (con_X1_endAxes hl g2 hg2 hv) tb_X1_endAxes lk_RX4_77 rfl rfl rfl (by decide) (by decide) rfl (Nat.le_of_ble_eq_true rfl) rfl dX4_join_93 rfl ?_
        clear hv
        refine V_iconst C (0 : Int32) dX4_join_96 (by decide) ?_
        refine V_istore (L' := [(0, .ref (E.1 20 g0)), (1, .ref (E.1 20 g1)), (2, .ref (E.1 20 g2)), (3, .int x_1), (4, .ref (E.1 20 g_2)), (5, .int s_6), (6, .int s_8), (7, .int (0 : Int32))]) C dX4_join_97 (by decide) [1, 2, 3, 4, 5, 6, 7, 0] rfl ?_
        refine V_iconst C (0 : Int32) dX4_join_99 (by decide) ?_
        refine V_istore (L' := [(0, .ref (E.1 20 g0)), (1, .ref (E.1 20 g1)), (2, .ref (E.1 20 g2)), (3, .int x_1), (4, .ref (E.1 20 g_2)), (5, .int s_6), (6, .int s_8), (7, .int (0 : Int32)), (8, .int (0 : Int32))]) C dX4_join_100 (by decide) [1, 2, 3, 4, 5, 6, 7, 8, 0] rfl ?_
        refine V_iconst C (0 : Int32) dX4_join_102 (by decide) ?_
        refine V_istore (L' := [(0, .ref (E.1 20 g0)), (1, .ref (E.1 20 g1)), (2, .ref (E.1 20 g2)), (3, .int x_1), (4, .ref (E.1 20 g_2)), (5, .int s_6), (6, .int s_8), (7, .int (0 : Int32)), (8, .int (0 : Int32)), (9, .int (0 : Int32))]) C dX4_join_103 (by decide) [1, 2, 3, 4, 5, 6, 7, 8, 9, 0] rfl ?_
        refine V_iconst C (0 : Int32) dX4_join_105 (by decide) ?_
        refine V_istore (L' := [(0, .ref (E.1 20 g0)), (1, .ref (E.1 20 g1)), (2, .ref (E.1 20 g2)), (3, .int x_1), (4, .ref (E.1 20 g_2)), (5, .int s_6), (6, .int s_8), (7, .int (0 : Int32)), (8, .int (0 : Int32)), (9, .int (0 : Int32)), (10, .int (0 : Int32))]) C dX4_join_106 (by decide) [1, 2, 3, 4, 5, 6, 7, 8, 9, 10, 0] rfl ?_
        refine V_sub (LP := [(0, .ref (E.1 20 g0)), (1, .ref (E.1 20 g1)), (2, .ref (E.1 20 g2)), (5, .int s_6), (6, .int s_8), (7, .int (0 : Int32)), (8, .int (0 : Int32)), (9, .int (0 : Int32)), (10, .int (0 : Int32))]) [0, 1, 2, 5, 6, 7, 8, 9, 10] rfl ?_
        refine lp_X4_join_108 hl C g0 g1 g2 s_6 s_8 hg0 hg1 hg2 (fun μ_42 x h => ?_) 1000 _ _ _ _ _ h
        cases h
        exact V_return C rfl rfl dX4_join_187
      clear hj_9
      refine V_icmp_ne C (tgt := 70) dX4_join_60 (by decide) (fun hc => ?_) (fun hc => ?_)
      · replace h := (if_neg hc).symm.trans h
        refine V_iconst C (1 : Int32) dX4_join_70 (by decide) ?_
        refine V_sub (LP := [(0, .ref (E.1 20 g0)), (1, .ref (E.1 20 g1)), (2, .ref (E.1 20 g2)), (3, .int x_1), (4, .ref (E.1 20 g_2)), (5, .int s_6)]) [0, 1, 2, 3, 4, 5] rfl ?_
        exact J_9 _ _ h
      · replace h := (if_pos hc).symm.trans h
        refine V_aload_n C 1 dX4_join_63 rfl 1 rfl ?_
        obtain ⟨v_43, hv, h⟩ := bP_inv h
        refine V_callVo C 20 g1 (gr_0in g1 hg1) (some (.int v_43)) (con_X1_rowLength hl g1 hg1 hv) tb_X1_rowLength lk_RX4_69 rfl rfl rfl (by decide) (by decide) rfl (Nat.le_of_ble_eq_true rfl) rfl dX4_join_64 rfl ?_
        clear hv
        refine V_goto C (tgt := 71) dX4_join_67 (by decide) ?_
        refine V_sub (LP := [(0, .ref (E.1 20 g0)), (1, .ref (E.1 20 g1)), (2, .ref (E.1 20 g2)), (3, .int x_1), (4, .ref (E.1 20 g_2)), (5, .int s_6)]) [0, 1, 2, 3, 4, 5] rfl ?_
        exact J_9 _ _ h
    clear hj_7
    refine V_icmp_ne C (tgt := 52) dX4_join_42 (by decide) (fun hc => ?_) (fun hc => ?_)
    · replace h := (if_neg hc).symm.trans h
      refine V_iconst C (1 : Int32) dX4_join_52 (by decide) ?_
      refine V_sub (LP := [(0, .ref (E.1 20 g0)), (1, .ref (E.1 20 g1)), (2, .ref (E.1 20 g2)), (3, .int x_1), (4, .ref (E.1 20 g_2))]) [0, 1, 2, 3, 4] rfl ?_
      exact J_7 _ _ h
    · replace h := (if_pos hc).symm.trans h
      refine V_aload_n C 0 dX4_join_45 rfl 0 rfl ?_
      obtain ⟨v_44, hv, h⟩ := bP_inv h
      refine V_callVo C 20 g0 (gr_0in g0 hg0) (some (.int v_44)) (con_X1_rowLength hl g0 hg0 hv) tb_X1_rowLength lk_RX4_69 rfl rfl rfl (by decide) (by decide) rfl (Nat.le_of_ble_eq_true rfl) rfl dX4_join_46 rfl ?_
      clear hv
      refine V_goto C (tgt := 53) dX4_join_49 (by decide) ?_
      refine V_sub (LP := [(0, .ref (E.1 20 g0)), (1, .ref (E.1 20 g1)), (2, .ref (E.1 20 g2)), (3, .int x_1), (4, .ref (E.1 20 g_2))]) [0, 1, 2, 3, 4] rfl ?_
      exact J_7 _ _ h
  clear hj_3
  refine V_icmp_ne C (tgt := 28) dX4_join_21 (by decide) (fun hc => ?_) (fun hc => ?_)
  · replace h := (if_neg hc).symm.trans h
    refine V_aload_n C 1 dX4_join_28 rfl 1 rfl ?_
    refine V_sub (LP := [(0, .ref (E.1 20 g0)), (1, .ref (E.1 20 g1)), (2, .ref (E.1 20 g2)), (3, .int x_1)]) [0, 1, 2, 3] rfl ?_
    exact J_3 _ hg1 _ h
  · replace h := (if_pos hc).symm.trans h
    refine V_aload_n C 0 dX4_join_24 rfl 0 rfl ?_
    refine V_goto C (tgt := 29) dX4_join_25 (by decide) ?_
    refine V_sub (LP := [(0, .ref (E.1 20 g0)), (1, .ref (E.1 20 g1)), (2, .ref (E.1 20 g2)), (3, .int x_1)]) [0, 1, 2, 3] rfl ?_
    exact J_3 _ hg0 _ h
set_option maxHeartbeats 4000000 in
set_option maxRecDepth 100000 in
theorem lp_X4_pick_65 {Y : Mc} {l : Launch} {E : WE} (hl : l.stackTraces = false) (C : Ok Y l E lvC 6 RX4 cX4_pick none 2) {κ : Mem → Option (Except Nat Unit × Mem)} (g_11 : Nat) (g_12 : Nat) (g_13 : Nat) (c3_14 : Int32) (hg_11 : g_11 < 18) (hg_12 : g_12 < 18) (hg_13 : g_13 < 18) (hκ : ∀  (μ_20 : Mem) x, κ  μ_20 = some x → V Y l E lvC 6 (rBu x) 133 [] [] μ_20) : ∀ (n : Nat) (a4_15 : Int32) (μ_16 : Mem) {x}, f_X4_pick_L65 κ g_11 g_12 g_13 c3_14 n a4_15 μ_16 = some x → V Y l E lvC 6 (rBu x) 65 [(0, .ref (E.1 20 g_11)), (1, .ref (E.1 20 g_12)), (2, .ref (E.1 20 g_13)), (3, .int c3_14), (4, .int a4_15)] [] μ_16 := by
  intro n
  induction n with
  | zero =>
    intro a4_15 μ_16 x h
    simp [f_X4_pick_L65] at h
  | succ n ih =>
    intro a4_15 μ_16 x h
    rw [f_X4_pick_L65] at h
    refine V_iload C dX4_pick_65 4 rfl ?_
    refine V_aload_n C 0 dX4_pick_67 rfl 0 rfl ?_
    refine V_getf (v := .int (μ_16 20 g_11 3)) C 20 g_11 (gr_0in g_11 hg_11) fl_RX4_18 rfl rfl dX4_pick_68 ?_
    refine V_icmp_ge C (tgt := 133) dX4_pick_71 (by decide) (fun hc => ?_) (fun hc => ?_)
    · replace h := (if_pos hc).symm.trans h
      refine V_sub (LP := []) [] rfl ?_
      exact hκ _ _ h
    · replace h := (if_neg hc).symm.trans h
      refine V_aload_n C 0 dX4_pick_74 rfl 0 rfl ?_
      refine V_getf (v := .ref (E.1 22 g_11)) C 20 g_11 (gr_0in g_11 hg_11) fl_RX4_28 rfl rfl dX4_pick_75 ?_
      refine V_iload C dX4_pick_78 4 rfl ?_
      obtain ⟨hi9, h⟩ := gd_inv h
      refine V_iald C 22 g_11 (gr_2in g_11 hg_11) (fun _ => rfl) (inb_in hi9) dX4_pick_80 ?_
      refine V_topi (fun x_17 hn9 => ?_)
      replace h := lt_eq hn9 h; clear hn9
      refine V_istore (L' := [(0, .ref (E.1 20 g_11)), (1, .ref (E.1 20 g_12)), (2, .ref (E.1 20 g_13)), (3, .int c3_14), (4, .int a4_15), (5, .int x_17)]) C dX4_pick_81 (by decide) [1, 2, 3, 4, 5, 0] rfl ?_
      refine V_iload C dX4_pick_83 5 rfl ?_
      refine V_if_lt C (tgt := 99) dX4_pick_85 (by decide) (fun hc => ?_) (fun hc => ?_)
      · replace h := (if_pos hc).symm.trans h
        cases h
        exact V_throw C 5 th_RX4_105 rfl (Nat.le_of_ble_eq_true rfl) dX4_pick_99 dX4_pick_102 dX4_pick_103 dX4_pick_106
      · replace h := (if_neg hc).symm.trans h
        refine V_iload C dX4_pick_88 5 rfl ?_
        refine V_aload_n C 1 dX4_pick_90 rfl 1 rfl ?_
        refine V_getf (v := .ref (E.1 21 g_12)) C 20 g_12 (gr_0in g_12 hg_12) fl_RX4_66 rfl rfl dX4_pick_91 ?_
        refine V_iconst C (0 : Int32) dX4_pick_94 (by decide) ?_
        obtain ⟨hi9, h⟩ := gd_inv h
        refine V_iald C 21 g_12 (gr_1in g_12 hg_12) (fun _ => rfl) (inb_in hi9) dX4_pick_95 ?_
        refine V_icmp_lt C (tgt := 107) dX4_pick_96 (by decide) (fun hc => ?_) (fun hc => ?_)
        · replace h := (if_pos hc).symm.trans h
          refine V_aload_n C 1 dX4_pick_107 rfl 1 rfl ?_
          refine V_getf (v := .ref (E.1 22 g_12)) C 20 g_12 (gr_0in g_12 hg_12) fl_RX4_28 rfl rfl dX4_pick_108 ?_
          refine V_iload C dX4_pick_111 5 rfl ?_
          refine V_iload_n C 3 dX4_pick_113 rfl 3 rfl ?_
          refine V_imul C dX4_pick_114 ?_
          refine V_aload_n C 2 dX4_pick_115 rfl 2 rfl ?_
          refine V_getf (v := .ref (E.1 22 g_13)) C 20 g_13 (gr_0in g_13 hg_13) fl_RX4_28 rfl rfl dX4_pick_116 ?_
          refine V_iload C dX4_pick_119 4 rfl ?_
          refine V_iload_n C 3 dX4_pick_121 rfl 3 rfl ?_
          refine V_imul C dX4_pick_122 ?_
          refine V_iload_n C 3 dX4_pick_123 rfl 3 rfl ?_
          obtain ⟨hq9, h⟩ := gd_inv h
          obtain ⟨q1, q2, q3, q4, q5⟩ := cpok_g hq9
          refine V_copyi C 22 g_12 22 g_13 (gr_2in g_12 hg_12) (gr_2in g_13 hg_13) (fun _ => rfl) (fun _ => rfl) lk_RX4_32 w_cp1 w_cp2 w_cp3 q1 q2 q3 q4 q5 (Nat.le_of_ble_eq_true rfl) dX4_pick_124 ?_
          refine V_memn (fun μ_18 hn9 => ?_)
          replace h := lt_eq hn9 h; clear hn9
          obtain ⟨x_19, hn9⟩ : ∃ z : Int32, z = a4_15 + (1 : Int32) := ⟨_, rfl⟩
          replace h := lt_eq hn9 h
          refine V_iinc (L' := [(0, .ref (E.1 20 g_11)), (1, .ref (E.1 20 g_12)), (2, .ref (E.1 20 g_13)), (3, .int c3_14), (4, .int x_19), (5, .int x_17)]) C x_19 dX4_pick_127 4 rfl (by rw [hn9]; exact congrArg (a4_15 + ·) (by decide)) (by decide) [1, 2, 3, 4, 0, 5] rfl ?_
          clear hn9
          refine V_goto C (tgt := 65) dX4_pick_130 (by decide) ?_
          refine V_sub (LP := [(0, .ref (E.1 20 g_11)), (1, .ref (E.1 20 g_12)), (2, .ref (E.1 20 g_13)), (3, .int c3_14), (4, .int x_19)]) [0, 1, 2, 3, 4] rfl ?_
          exact ih _ _ h
        · replace h := (if_neg hc).symm.trans h
          cases h
          exact V_throw C 5 th_RX4_105 rfl (Nat.le_of_ble_eq_true rfl) dX4_pick_99 dX4_pick_102 dX4_pick_103 dX4_pick_106
set_option maxHeartbeats 4000000 in
set_option maxRecDepth 100000 in
theorem con_X4_pick {l : Launch} {E : WE} (hl : l.stackTraces = false) (g0 : Nat) (g1 : Nat) (g2 : Nat) (hg0 : g0 < 18) (hg1 : g1 < 18) (hg2 : g2 < 18) {μ : Mem} {x} (h : f_X4_pick g0 g1 g2 μ = some x) : Con l E lvC yX4_pick cX4_pick 6 none 2 [.ref (E.1 20 g0), .ref (E.1 20 g1), .ref (E.1 20 g2)] μ (rBu x) := by
  refine Con.of (by decide) hl (Nat.le_of_ble_eq_true rfl) (fun Y C => ?_)
  replace C : Ok Y l E lvC 6 RX4 cX4_pick none 2 := C
  show V Y l E lvC 6 (rBu x) 0 [(0, .ref (E.1 20 g0)), (1, .ref (E.1 20 g1)), (2, .ref (E.1 20 g2))] [] μ
  unfold f_X4_pick at h
  refine V_aload_n C 1 dX4_pick_0 rfl 1 rfl ?_
  obtain ⟨v_1, hv, h⟩ := bP_inv h
  refine V_callVo C 20 g1 (gr_0in g1 hg1) (some (.int v_1)) (con_X1_isScalar hl g1 hg1 hv) tb_X1_isScalar lk_RX4_98 rfl rfl rfl (by decide) (by decide) rfl (Nat.le_of_ble_eq_true rfl) rfl dX4_pick_1 rfl ?_
  clear hv
  refine V_if_ne C (tgt := 20) dX4_pick_4 (by decide) (fun hc => ?_) (fun hc => ?_)
  · replace h := (if_neg hc).symm.trans h
    cases h
    exact V_throw C 4 th_RX4_57 rfl (Nat.le_of_ble_eq_true rfl) dX4_pick_20 dX4_pick_23 dX4_pick_24 dX4_pick_27
  · replace h := (if_pos hc).symm.trans h
    refine V_aload_n C 0 dX4_pick_7 rfl 0 rfl ?_
    refine V_getf (v := .int (μ 20 g0 2)) C 20 g0 (gr_0in g0 hg0) fl_RX4_54 rfl rfl dX4_pick_8 ?_
    refine V_aload_n C 1 dX4_pick_11 rfl 1 rfl ?_
    refine V_getf (v := .int (μ 20 g1 2)) C 20 g1 (gr_0in g1 hg1) fl_RX4_54 rfl rfl dX4_pick_12 ?_
    refine V_iadd C dX4_pick_15 ?_
    refine V_iconst C (4 : Int32) dX4_pick_16 (by decide) ?_
    refine V_icmp_le C (tgt := 28) dX4_pick_17 (by decide) (fun hc => ?_) (fun hc => ?_)
    · replace h := (if_pos hc).symm.trans h
      refine V_aload_n C 2 dX4_pick_28 rfl 2 rfl ?_
      refine V_aload_n C 0 dX4_pick_29 rfl 0 rfl ?_
      refine V_iconst C (0 : Int32) dX4_pick_30 (by decide) ?_
      refine V_aload_n C 0 dX4_pick_31 rfl 0 rfl ?_
      refine V_getf (v := .int (μ 20 g0 2)) C 20 g0 (gr_0in g0 hg0) fl_RX4_54 rfl rfl dX4_pick_32 ?_
      rcases bB_inv h with ⟨e_4, μ_3, hv, h⟩ | ⟨u_2, μ_3, hv, h⟩
      · cases h; exact V_callVe C 20 g2 (gr_0in g2 hg2) e_4 (con_X1_addAxesOf hl g2 g0 (0 : Int32) (μ 20 g0 2) hg2 hg0 hv) tb_X1_addAxesOf lk_RX4_90 rfl rfl rfl (by decide) (by decide) rfl (Nat.le_of_ble_eq_true rfl) rfl dX4_pick_35 rfl
      refine V_callVo C 20 g2 (gr_0in g2 hg2) none (con_X1_addAxesOf hl g2 g0 (0 : Int32) (μ 20 g0 2) hg2 hg0 hv) tb_X1_addAxesOf lk_RX4_90 rfl rfl rfl (by decide) (by decide) rfl (Nat.le_of_ble_eq_true rfl) rfl dX4_pick_35 rfl ?_
      clear hv
      refine V_aload_n C 2 dX4_pick_38 rfl 2 rfl ?_
      refine V_aload_n C 1 dX4_pick_39 rfl 1 rfl ?_
      refine V_iconst C (1 : Int32) dX4_pick_40 (by decide) ?_
      refine V_aload_n C 1 dX4_pick_41 rfl 1 rfl ?_
      refine V_getf (v := .int (μ_3 20 g1 2)) C 20 g1 (gr_0in g1 hg1) fl_RX4_54 rfl rfl dX4_pick_42 ?_
      rcases bB_inv h with ⟨e_7, μ_6, hv, h⟩ | ⟨u_5, μ_6, hv, h⟩
      · cases h; exact V_callVe C 20 g2 (gr_0in g2 hg2) e_7 (con_X1_addAxesOf hl g2 g1 (1 : Int32) (μ_3 20 g1 2) hg2 hg1 hv) tb_X1_addAxesOf lk_RX4_90 rfl rfl rfl (by decide) (by decide) rfl (Nat.le_of_ble_eq_true rfl) rfl dX4_pick_45 rfl
      refine V_callVo C 20 g2 (gr_0in g2 hg2) none (con_X1_addAxesOf hl g2 g1 (1 : Int32) (μ_3 20 g1 2) hg2 hg1 hv) tb_X1_addAxesOf lk_RX4_90 rfl rfl rfl (by decide) (by decide) rfl (Nat.le_of_ble_eq_true rfl) rfl dX4_pick_45 rfl ?_
      clear hv
      refine V_aload_n C 2 dX4_pick_48 rfl 2 rfl ?_
      rcases bT_inv h with ⟨e_9, hv, h⟩ | ⟨u_8, hv, h⟩
      · cases h; exact V_callVe C 20 g2 (gr_0in g2 hg2) e_9 (con_X1_endAxes hl g2 hg2 hv) tb_X1_endAxes lk_RX4_77 rfl rfl rfl (by decide) (by decide) rfl (Nat.le_of_ble_eq_true rfl) rfl dX4_pick_49 rfl
      refine V_callVo C 20 g2 (gr_0in g2 hg2) none (con_X1_endAxes hl g2 hg2 hv) tb_X1_endAxes lk_RX4_77 rfl rfl rfl (by decide) (by decide) rfl (Nat.le_of_ble_eq_true rfl) rfl dX4_pick_49 rfl ?_
      clear hv
      refine V_aload_n C 1 dX4_pick_52 rfl 1 rfl ?_
      refine V_iconst C (1 : Int32) dX4_pick_53 (by decide) ?_
      refine V_aload_n C 1 dX4_pick_54 rfl 1 rfl ?_
      refine V_getf (v := .int (μ_6 20 g1 2)) C 20 g1 (gr_0in g1 hg1) fl_RX4_54 rfl rfl dX4_pick_55 ?_
      obtain ⟨v_10, hv, h⟩ := bP_inv h
      refine V_callVo C 20 g1 (gr_0in g1 hg1) (some (.int v_10)) (con_X1_span hl g1 (1 : Int32) (μ_6 20 g1 2) hg1 hv) tb_X1_span lk_RX4_102 rfl rfl rfl (by decide) (by decide) rfl (Nat.le_of_ble_eq_true rfl) rfl dX4_pick_58 rfl ?_
      clear hv
      refine V_istore_n (L' := [(0, .ref (E.1 20 g0)), (1, .ref (E.1 20 g1)), (2, .ref (E.1 20 g2)), (3, .int v_10)]) C 3 dX4_pick_61 rfl (by decide) [1, 2, 3, 0] rfl ?_
      refine V_iconst C (0 : Int32) dX4_pick_62 (by decide) ?_
      refine V_istore (L' := [(0, .ref (E.1 20 g0)), (1, .ref (E.1 20 g1)), (2, .ref (E.1 20 g2)), (3, .int v_10), (4, .int (0 : Int32))]) C dX4_pick_63 (by decide) [1, 2, 3, 4, 0] rfl ?_
      refine V_sub (LP := [(0, .ref (E.1 20 g0)), (1, .ref (E.1 20 g1)), (2, .ref (E.1 20 g2)), (3, .int v_10), (4, .int (0 : Int32))]) [0, 1, 2, 3, 4] rfl ?_
      refine lp_X4_pick_65 hl C g0 g1 g2 v_10 hg0 hg1 hg2 (fun μ_21 x h => ?_) 1000 _ _ h
      cases h
      exact V_return C rfl rfl dX4_pick_133
    · replace h := (if_neg hc).symm.trans h
      cases h
      exact V_throw C 4 th_RX4_57 rfl (Nat.le_of_ble_eq_true rfl) dX4_pick_20 dX4_pick_23 dX4_pick_24 dX4_pick_27
set_option maxHeartbeats 4000000 in
set_option maxRecDepth 100000 in
theorem con_X4_ofTwo {l : Launch} {E : WE} (hl : l.stackTraces = false) (a0 : Int32) (g1 : Nat) (g2 : Nat) (g3 : Nat) (hg1 : g1 < 18) (hg2 : g2 < 18) (hg3 : g3 < 18) {μ : Mem} {x} (h : f_X4_ofTwo a0 g1 g2 g3 μ = some x) : Con l E lvC yX4_ofTwo cX4_ofTwo 4 none 3 [.int a0, .ref (E.1 20 g1), .ref (E.1 20 g2), .ref (E.1 20 g3)] μ (rBu x) := by
  refine Con.of (by decide) hl (Nat.le_of_ble_eq_true rfl) (fun Y C => ?_)
  replace C : Ok Y l E lvC 4 RX4 cX4_ofTwo none 3 := C
  show V Y l E lvC 4 (rBu x) 0 [(0, .int a0), (1, .ref (E.1 20 g1)), (2, .ref (E.1 20 g2)), (3, .ref (E.1 20 g3))] [] μ
  unfold f_X4_ofTwo at h
  refine V_iload_n C 0 dX4_ofTwo_0 rfl 0 rfl ?_
  by_cases hk0 : a0 = (44 : Int32)
  · replace h := (if_pos hk0).symm.trans h
    refine V_lookup C (36) 37 dX4_ofTwo_1 (by decide +kernel) (by rw [hk0]; decide +kernel) (by decide) ?_
    refine V_aload_n C 1 dX4_ofTwo_37 rfl 1 rfl ?_
    refine V_aload_n C 2 dX4_ofTwo_38 rfl 2 rfl ?_
    refine V_aload_n C 3 dX4_ofTwo_39 rfl 3 rfl ?_
    rcases bB_inv h with ⟨e_3, μ_2, hv, h⟩ | ⟨u_1, μ_2, hv, h⟩
    · cases h; exact V_callSe C e_3 (con_X4_join hl g1 g2 g3 hg1 hg2 hg3 hv) tb_X4_join lk_RX4_48 (by decide) (by decide) rfl (Nat.le_of_ble_eq_true rfl) rfl dX4_ofTwo_40 rfl
    refine V_callSo C none (con_X4_join hl g1 g2 g3 hg1 hg2 hg3 hv) tb_X4_join lk_RX4_48 (by decide) (by decide) rfl (Nat.le_of_ble_eq_true rfl) rfl dX4_ofTwo_40 rfl ?_
    clear hv
    refine V_goto C (tgt := 52) dX4_ofTwo_43 (by decide) ?_
    cases h
    exact V_return C rfl rfl dX4_ofTwo_52
  replace h := (if_neg hk0).symm.trans h
  by_cases hk1 : a0 = (114 : Int32)
  · replace h := (if_pos hk1).symm.trans h
    refine V_lookup C (27) 28 dX4_ofTwo_1 (by decide +kernel) (by rw [hk1]; decide +kernel) (by decide) ?_
    refine V_aload_n C 1 dX4_ofTwo_28 rfl 1 rfl ?_
    refine V_aload_n C 2 dX4_ofTwo_29 rfl 2 rfl ?_
    refine V_aload_n C 3 dX4_ofTwo_30 rfl 3 rfl ?_
    rcases bB_inv h with ⟨e_6, μ_5, hv, h⟩ | ⟨u_4, μ_5, hv, h⟩
    · cases h; exact V_callSe C e_6 (con_X4_reshape hl g1 g2 g3 hg1 hg2 hg3 hv) tb_X4_reshape lk_RX4_44 (by decide) (by decide) rfl (Nat.le_of_ble_eq_true rfl) rfl dX4_ofTwo_31 rfl
    refine V_callSo C none (con_X4_reshape hl g1 g2 g3 hg1 hg2 hg3 hv) tb_X4_reshape lk_RX4_44 (by decide) (by decide) rfl (Nat.le_of_ble_eq_true rfl) rfl dX4_ofTwo_31 rfl ?_
    clear hv
    refine V_goto C (tgt := 52) dX4_ofTwo_34 (by decide) ?_
    cases h
    exact V_return C rfl rfl dX4_ofTwo_52
  replace h := (if_neg hk1).symm.trans h
  refine V_lookup C (45) 46 dX4_ofTwo_1 (by decide +kernel) ((lv_osw hk0 (by decide +kernel)).trans ((lv_osw hk1 (by decide +kernel)).trans rfl)) (by decide) ?_
  refine V_aload_n C 1 dX4_ofTwo_46 rfl 1 rfl ?_
  refine V_aload_n C 2 dX4_ofTwo_47 rfl 2 rfl ?_
  refine V_aload_n C 3 dX4_ofTwo_48 rfl 3 rfl ?_
  rcases bB_inv h with ⟨e_9, μ_8, hv, h⟩ | ⟨u_7, μ_8, hv, h⟩
  · cases h; exact V_callSe C e_9 (con_X4_pick hl g1 g2 g3 hg1 hg2 hg3 hv) tb_X4_pick lk_RX4_51 (by decide) (by decide) rfl (Nat.le_of_ble_eq_true rfl) rfl dX4_ofTwo_49 rfl
  refine V_callSo C none (con_X4_pick hl g1 g2 g3 hg1 hg2 hg3 hv) tb_X4_pick lk_RX4_51 (by decide) (by decide) rfl (Nat.le_of_ble_eq_true rfl) rfl dX4_ofTwo_49 rfl ?_
  clear hv
  cases h
  exact V_return C rfl rfl dX4_ofTwo_52
set_option maxHeartbeats 4000000 in
set_option maxRecDepth 100000 in
theorem lp_X3_needSameShape_21 {Y : Mc} {l : Launch} {E : WE} (hl : l.stackTraces = false) (C : Ok Y l E lvC 3 RX3 cX3_needSameShape none 0) {κ : Unit → Option (Except Nat Unit)} (g_1 : Nat) (g_2 : Nat) (μ_4 : Mem) (hg_1 : g_1 < 18) (hg_2 : g_2 < 18) (hκ : ∀ (_ : Unit) x, κ () = some x → V Y l E lvC 3 (rTu x μ_4) 58 [] [] μ_4) : ∀ (n : Nat) (a2_3 : Int32) {x}, f_X3_needSameShape_L21 κ g_1 g_2 μ_4 n a2_3 = some x → V Y l E lvC 3 (rTu x μ_4) 21 [(0, .ref (E.1 20 g_1)), (1, .ref (E.1 20 g_2)), (2, .int a2_3)] [] μ_4 := by
  intro n
  induction n with
  | zero =>
    intro a2_3 x h
    simp [f_X3_needSameShape_L21] at h
  | succ n ih =>
    intro a2_3 x h
    rw [f_X3_needSameShape_L21] at h
    refine V_iload_n C 2 dX3_needSameShape_21 rfl 2 rfl ?_
    refine V_aload_n C 0 dX3_needSameShape_22 rfl 0 rfl ?_
    refine V_getf (v := .int (μ_4 20 g_1 2)) C 20 g_1 (gr_0in g_1 hg_1) fl_RX3_75 rfl rfl dX3_needSameShape_23 ?_
    refine V_icmp_ge C (tgt := 58) dX3_needSameShape_26 (by decide) (fun hc => ?_) (fun hc => ?_)
    · replace h := (if_pos hc).symm.trans h
      refine V_sub (LP := []) [] rfl ?_
      exact hκ () _ h
    · replace h := (if_neg hc).symm.trans h
      refine V_aload_n C 0 dX3_needSameShape_29 rfl 0 rfl ?_
      refine V_getf (v := .ref (E.1 21 g_1)) C 20 g_1 (gr_0in g_1 hg_1) fl_RX3_81 rfl rfl dX3_needSameShape_30 ?_
      refine V_iload_n C 2 dX3_needSameShape_33 rfl 2 rfl ?_
      obtain ⟨hi9, h⟩ := gd_inv h
      refine V_iald C 21 g_1 (gr_1in g_1 hg_1) (fun _ => rfl) (inb_in hi9) dX3_needSameShape_34 ?_
      refine V_aload_n C 1 dX3_needSameShape_35 rfl 1 rfl ?_
      refine V_getf (v := .ref (E.1 21 g_2)) C 20 g_2 (gr_0in g_2 hg_2) fl_RX3_81 rfl rfl dX3_needSameShape_36 ?_
      refine V_iload_n C 2 dX3_needSameShape_39 rfl 2 rfl ?_
      obtain ⟨hi9, h⟩ := gd_inv h
      refine V_iald C 21 g_2 (gr_1in g_2 hg_2) (fun _ => rfl) (inb_in hi9) dX3_needSameShape_40 ?_
      refine V_icmp_eq C (tgt := 52) dX3_needSameShape_41 (by decide) (fun hc => ?_) (fun hc => ?_)
      · replace h := (if_pos hc).symm.trans h
        obtain ⟨x_5, hn9⟩ : ∃ z : Int32, z = a2_3 + (1 : Int32) := ⟨_, rfl⟩
        replace h := lt_eq hn9 h
        refine V_iinc (L' := [(0, .ref (E.1 20 g_1)), (1, .ref (E.1 20 g_2)), (2, .int x_5)]) C x_5 dX3_needSameShape_52 2 rfl (by rw [hn9]; exact congrArg (a2_3 + ·) (by decide)) (by decide) [1, 2, 0] rfl ?_
        clear hn9
        refine V_goto C (tgt := 21) dX3_needSameShape_55 (by decide) ?_
        refine V_sub (LP := [(0, .ref (E.1 20 g_1)), (1, .ref (E.1 20 g_2)), (2, .int x_5)]) [0, 1, 2] rfl ?_
        exact ih _ h
      · replace h := (if_neg hc).symm.trans h
        cases h
        exact V_throw C 3 th_RX3_84 rfl (Nat.le_of_ble_eq_true rfl) dX3_needSameShape_44 dX3_needSameShape_47 dX3_needSameShape_48 dX3_needSameShape_51
set_option maxHeartbeats 4000000 in
set_option maxRecDepth 100000 in
theorem con_X3_needSameShape {l : Launch} {E : WE} (hl : l.stackTraces = false) (g0 : Nat) (g1 : Nat) (hg0 : g0 < 18) (hg1 : g1 < 18) {μ : Mem} {x} (h : f_X3_needSameShape g0 g1 μ = some x) : Con l E lvC yX3_needSameShape cX3_needSameShape 3 none 0 [.ref (E.1 20 g0), .ref (E.1 20 g1)] μ (rTu x μ) := by
  refine Con.of (by decide) hl (Nat.le_of_ble_eq_true rfl) (fun Y C => ?_)
  replace C : Ok Y l E lvC 3 RX3 cX3_needSameShape none 0 := C
  show V Y l E lvC 3 (rTu x μ) 0 [(0, .ref (E.1 20 g0)), (1, .ref (E.1 20 g1))] [] μ
  unfold f_X3_needSameShape at h
  refine V_aload_n C 0 dX3_needSameShape_0 rfl 0 rfl ?_
  refine V_getf (v := .int (μ 20 g0 2)) C 20 g0 (gr_0in g0 hg0) fl_RX3_75 rfl rfl dX3_needSameShape_1 ?_
  refine V_aload_n C 1 dX3_needSameShape_4 rfl 1 rfl ?_
  refine V_getf (v := .int (μ 20 g1 2)) C 20 g1 (gr_0in g1 hg1) fl_RX3_75 rfl rfl dX3_needSameShape_5 ?_
  refine V_icmp_eq C (tgt := 19) dX3_needSameShape_8 (by decide) (fun hc => ?_) (fun hc => ?_)
  · replace h := (if_pos hc).symm.trans h
    refine V_iconst C (0 : Int32) dX3_needSameShape_19 (by decide) ?_
    refine V_istore_n (L' := [(0, .ref (E.1 20 g0)), (1, .ref (E.1 20 g1)), (2, .int (0 : Int32))]) C 2 dX3_needSameShape_20 rfl (by decide) [1, 2, 0] rfl ?_
    refine V_sub (LP := [(0, .ref (E.1 20 g0)), (1, .ref (E.1 20 g1)), (2, .int (0 : Int32))]) [0, 1, 2] rfl ?_
    refine lp_X3_needSameShape_21 hl C g0 g1 μ hg0 hg1 (fun _ x h => ?_) 1000 _ h
    cases h
    exact V_return C rfl rfl dX3_needSameShape_58
  · replace h := (if_neg hc).symm.trans h
    cases h
    exact V_throw C 4 th_RX3_78 rfl (Nat.le_of_ble_eq_true rfl) dX3_needSameShape_11 dX3_needSameShape_14 dX3_needSameShape_15 dX3_needSameShape_18
set_option maxHeartbeats 4000000 in
set_option maxRecDepth 100000 in
theorem lp_X3_each_38 {Y : Mc} {l : Launch} {E : WE} (hl : l.stackTraces = false) (C : Ok Y l E lvC 5 RX3 cX3_each none 3) {κ : Mem → Option (Except Nat Unit × Mem)} (c0_9 : Int32) (g_10 : Nat) (g_11 : Nat) (g_12 : Nat) (hg_10 : g_10 < 18) (hg_11 : g_11 < 18) (hg_12 : g_12 < 18) (hκ : ∀  (μ_21 : Mem) x, κ  μ_21 = some x → V Y l E lvC 5 (rBu x) 76 [] [] μ_21) : ∀ (n : Nat) (a4_13 : Int32) (μ_14 : Mem) {x}, f_X3_each_L38 κ c0_9 g_10 g_11 g_12 n a4_13 μ_14 = some x → V Y l E lvC 5 (rBu x) 38 [(0, .int c0_9), (1, .ref (E.1 20 g_10)), (2, .ref (E.1 20 g_11)), (3, .ref (E.1 20 g_12)), (4, .int a4_13)] [] μ_14 := by
  intro n
  induction n with
  | zero =>
    intro a4_13 μ_14 x h
    simp [f_X3_each_L38] at h
  | succ n ih =>
    intro a4_13 μ_14 x h
    rw [f_X3_each_L38] at h
    refine V_iload C dX3_each_38 4 rfl ?_
    refine V_aload_n C 3 dX3_each_40 rfl 3 rfl ?_
    refine V_getf (v := .int (μ_14 20 g_12 3)) C 20 g_12 (gr_0in g_12 hg_12) fl_RX3_51 rfl rfl dX3_each_41 ?_
    refine V_icmp_ge C (tgt := 76) dX3_each_44 (by decide) (fun hc => ?_) (fun hc => ?_)
    · replace h := (if_pos hc).symm.trans h
      refine V_sub (LP := []) [] rfl ?_
      exact hκ _ _ h
    · replace h := (if_neg hc).symm.trans h
      refine V_aload_n C 3 dX3_each_47 rfl 3 rfl ?_
      refine V_getf (v := .ref (E.1 22 g_12)) C 20 g_12 (gr_0in g_12 hg_12) fl_RX3_55 rfl rfl dX3_each_48 ?_
      refine V_iload C dX3_each_51 4 rfl ?_
      refine V_iload_n C 0 dX3_each_53 rfl 0 rfl ?_
      refine V_aload_n C 1 dX3_each_54 rfl 1 rfl ?_
      refine V_iload C dX3_each_55 4 rfl ?_
      obtain ⟨v_15, hv, h⟩ := bP_inv h
      refine V_callVo C 20 g_10 (gr_0in g_10 hg_10) (some (.int v_15)) (con_X1_cellFor hl g_10 a4_13 hg_10 hv) tb_X1_cellFor lk_RX3_71 rfl rfl rfl (by decide) (by decide) rfl (Nat.le_of_ble_eq_true rfl) rfl dX3_each_57 rfl ?_
      clear hv
      refine V_aload_n C 2 dX3_each_60 rfl 2 rfl ?_
      refine V_iload C dX3_each_61 4 rfl ?_
      obtain ⟨v_16, hv, h⟩ := bP_inv h
      refine V_callVo C 20 g_11 (gr_0in g_11 hg_11) (some (.int v_16)) (con_X1_cellFor hl g_11 a4_13 hg_11 hv) tb_X1_cellFor lk_RX3_71 rfl rfl rfl (by decide) (by decide) rfl (Nat.le_of_ble_eq_true rfl) rfl dX3_each_63 rfl ?_
      clear hv
      rcases bT_inv h with ⟨e_18, hv, h⟩ | ⟨v_17, hv, h⟩
      · cases h; exact V_callSe C e_18 (con_X3_work hl c0_9 v_15 v_16 hv) tb_X3_work lk_RX3_41 (by decide) (by decide) rfl (Nat.le_of_ble_eq_true rfl) rfl dX3_each_66 rfl
      refine V_callSo C (some (.int v_17)) (con_X3_work hl c0_9 v_15 v_16 hv) tb_X3_work lk_RX3_41 (by decide) (by decide) rfl (Nat.le_of_ble_eq_true rfl) rfl dX3_each_66 rfl ?_
      clear hv
      obtain ⟨hi9, h⟩ := gd_inv h
      refine V_iast C 22 g_12 (gr_2in g_12 hg_12) (fun _ => rfl) (inb_in hi9) dX3_each_69 ?_
      refine V_memn (fun μ_19 hn9 => ?_)
      replace h := lt_eq hn9 h; clear hn9
      obtain ⟨x_20, hn9⟩ : ∃ z : Int32, z = a4_13 + (1 : Int32) := ⟨_, rfl⟩
      replace h := lt_eq hn9 h
      refine V_iinc (L' := [(0, .int c0_9), (1, .ref (E.1 20 g_10)), (2, .ref (E.1 20 g_11)), (3, .ref (E.1 20 g_12)), (4, .int x_20)]) C x_20 dX3_each_70 4 rfl (by rw [hn9]; exact congrArg (a4_13 + ·) (by decide)) (by decide) [1, 2, 3, 4, 0] rfl ?_
      clear hn9
      refine V_goto C (tgt := 38) dX3_each_73 (by decide) ?_
      refine V_sub (LP := [(0, .int c0_9), (1, .ref (E.1 20 g_10)), (2, .ref (E.1 20 g_11)), (3, .ref (E.1 20 g_12)), (4, .int x_20)]) [0, 1, 2, 3, 4] rfl ?_
      exact ih _ _ h
set_option maxHeartbeats 4000000 in
set_option maxRecDepth 100000 in
theorem con_X3_each {l : Launch} {E : WE} (hl : l.stackTraces = false) (a0 : Int32) (g1 : Nat) (g2 : Nat) (g3 : Nat) (hg1 : g1 < 18) (hg2 : g2 < 18) (hg3 : g3 < 18) {μ : Mem} {x} (h : f_X3_each a0 g1 g2 g3 μ = some x) : Con l E lvC yX3_each cX3_each 5 none 3 [.int a0, .ref (E.1 20 g1), .ref (E.1 20 g2), .ref (E.1 20 g3)] μ (rBu x) := by
  refine Con.of (by decide) hl (Nat.le_of_ble_eq_true rfl) (fun Y C => ?_)
  replace C : Ok Y l E lvC 5 RX3 cX3_each none 3 := C
  show V Y l E lvC 5 (rBu x) 0 [(0, .int a0), (1, .ref (E.1 20 g1)), (2, .ref (E.1 20 g2)), (3, .ref (E.1 20 g3))] [] μ
  unfold f_X3_each at h
  refine V_aload_n C 1 dX3_each_0 rfl 1 rfl ?_
  obtain ⟨v_1, hv, h⟩ := bP_inv h
  refine V_callVo C 20 g1 (gr_0in g1 hg1) (some (.int v_1)) (con_X1_isScalar hl g1 hg1 hv) tb_X1_isScalar lk_RX3_63 rfl rfl rfl (by decide) (by decide) rfl (Nat.le_of_ble_eq_true rfl) rfl dX3_each_1 rfl ?_
  clear hv
  obtain ⟨j_2, hj_2, h⟩ := jn_ex h
  have J_2 : ∀ (_ : Unit) x, j_2 () = some x → V Y l E lvC 5 (rBu x) 19 [(0, .int a0), (1, .ref (E.1 20 g1)), (2, .ref (E.1 20 g2)), (3, .ref (E.1 20 g3))] [] μ := by
    intro _  x h
    rw [hj_2] at h; clear hj_2
    refine V_aload_n C 3 dX3_each_19 rfl 3 rfl ?_
    refine V_aload_n C 1 dX3_each_20 rfl 1 rfl ?_
    obtain ⟨v_3, hv, h⟩ := bP_inv h
    refine V_callVo C 20 g1 (gr_0in g1 hg1) (some (.int v_3)) (con_X1_isScalar hl g1 hg1 hv) tb_X1_isScalar lk_RX3_63 rfl rfl rfl (by decide) (by decide) rfl (Nat.le_of_ble_eq_true rfl) rfl dX3_each_21 rfl ?_
    clear hv
    obtain ⟨j_5, hj_5, h⟩ := jn_ex h
    have J_5 : ∀ (g_4 : Nat) (_ : g_4 < 18) x, j_5 g_4 = some x → V Y l E lvC 5 (rBu x) 32 [(0, .int a0), (1, .ref (E.1 20 g1)), (2, .ref (E.1 20 g2)), (3, .ref (E.1 20 g3))] [.ref (E.1 20 g_4), .ref (E.1 20 g3)] μ := by
      intro g_4 hg_4 x h
      rw [hj_5] at h; clear hj_5
      rcases bB_inv h with ⟨e_8, μ_7, hv, h⟩ | ⟨u_6, μ_7, hv, h⟩
      · cases h; exact V_callVe C 20 g3 (gr_0in g3 hg3) e_8 (con_X1_shapeLike hl g3 g_4 hg3 hg_4 hv) tb_X1_shapeLike lk_RX3_45 rfl rfl rfl (by decide) (by decide) rfl (Nat.le_of_ble_eq_true rfl) rfl dX3_each_32 rfl
      refine V_callVo C 20 g3 (gr_0in g3 hg3) none (con_X1_shapeLike hl g3 g_4 hg3 hg_4 hv) tb_X1_shapeLike lk_RX3_45 rfl rfl rfl (by decide) (by decide) rfl (Nat.le_of_ble_eq_true rfl) rfl dX3_each_32 rfl ?_
      clear hv
      refine V_iconst C (0 : Int32) dX3_each_35 (by decide) ?_
      refine V_istore (L' := [(0, .int a0), (1, .ref (E.1 20 g1)), (2, .ref (E.1 20 g2)), (3, .ref (E.1 20 g3)), (4, .int (0 : Int32))]) C dX3_each_36 (by decide) [1, 2, 3, 4, 0] rfl ?_
      refine V_sub (LP := [(0, .int a0), (1, .ref (E.1 20 g1)), (2, .ref (E.1 20 g2)), (3, .ref (E.1 20 g3)), (4, .int (0 : Int32))]) [0, 1, 2, 3, 4] rfl ?_
      refine lp_X3_each_38 hl C a0 g1 g2 g3 hg1 hg2 hg3 (fun μ_22 x h => ?_) 1000 _ _ h
      cases h
      exact V_return C rfl rfl dX3_each_76
    clear hj_5
    refine V_if_eq C (tgt := 31) dX3_each_24 (by decide) (fun hc => ?_) (fun hc => ?_)
    · replace h := (if_pos hc).symm.trans h
      refine V_aload_n C 1 dX3_each_31 rfl 1 rfl ?_
      refine V_sub (LP := [(0, .int a0), (1, .ref (E.1 20 g1)), (2, .ref (E.1 20 g2)), (3, .ref (E.1 20 g3))]) [0, 1, 2, 3] rfl ?_
      exact J_5 _ hg1 _ h
    · replace h := (if_neg hc).symm.trans h
      refine V_aload_n C 2 dX3_each_27 rfl 2 rfl ?_
      refine V_goto C (tgt := 32) dX3_each_28 (by decide) ?_
      refine V_sub (LP := [(0, .int a0), (1, .ref (E.1 20 g1)), (2, .ref (E.1 20 g2)), (3, .ref (E.1 20 g3))]) [0, 1, 2, 3] rfl ?_
      exact J_5 _ hg2 _ h
  clear hj_2
  refine V_if_ne C (tgt := 19) dX3_each_4 (by decide) (fun hc => ?_) (fun hc => ?_)
  · replace h := (if_neg hc).symm.trans h
    refine V_sub (LP := [(0, .int a0), (1, .ref (E.1 20 g1)), (2, .ref (E.1 20 g2)), (3, .ref (E.1 20 g3))]) [0, 1, 2, 3] rfl ?_
    exact J_2 () _ h
  · replace h := (if_pos hc).symm.trans h
    refine V_aload_n C 2 dX3_each_7 rfl 2 rfl ?_
    obtain ⟨v_23, hv, h⟩ := bP_inv h
    refine V_callVo C 20 g2 (gr_0in g2 hg2) (some (.int v_23)) (con_X1_isScalar hl g2 hg2 hv) tb_X1_isScalar lk_RX3_63 rfl rfl rfl (by decide) (by decide) rfl (Nat.le_of_ble_eq_true rfl) rfl dX3_each_8 rfl ?_
    clear hv
    refine V_if_ne C (tgt := 19) dX3_each_11 (by decide) (fun hc => ?_) (fun hc => ?_)
    · replace h := (if_neg hc).symm.trans h
      refine V_sub (LP := [(0, .int a0), (1, .ref (E.1 20 g1)), (2, .ref (E.1 20 g2)), (3, .ref (E.1 20 g3))]) [0, 1, 2, 3] rfl ?_
      exact J_2 () _ h
    · replace h := (if_pos hc).symm.trans h
      refine V_aload_n C 1 dX3_each_14 rfl 1 rfl ?_
      refine V_aload_n C 2 dX3_each_15 rfl 2 rfl ?_
      rcases bT_inv h with ⟨e_25, hv, h⟩ | ⟨u_24, hv, h⟩
      · cases h; exact V_callSe C e_25 (con_X3_needSameShape hl g1 g2 hg1 hg2 hv) tb_X3_needSameShape lk_RX3_67 (by decide) (by decide) rfl (Nat.le_of_ble_eq_true rfl) rfl dX3_each_16 rfl
      refine V_callSo C none (con_X3_needSameShape hl g1 g2 hg1 hg2 hv) tb_X3_needSameShape lk_RX3_67 (by decide) (by decide) rfl (Nat.le_of_ble_eq_true rfl) rfl dX3_each_16 rfl ?_
      clear hv
      refine V_sub (LP := [(0, .int a0), (1, .ref (E.1 20 g1)), (2, .ref (E.1 20 g2)), (3, .ref (E.1 20 g3))]) [0, 1, 2, 3] rfl ?_
      exact J_2 () _ h
set_option maxHeartbeats 4000000 in
set_option maxRecDepth 100000 in
theorem con_X0_workOnTwo {l : Launch} {E : WE} (hl : l.stackTraces = false) (a2 : Int32)  {μ : Mem} {x} (h : f_X0_workOnTwo a2 μ = some x) : Con l E lvC yX0_workOnTwo cX0_workOnTwo 7 none 4 [.ref (E.1 14 0), .ref (E.1 1 0), .int a2] μ (rBu x) := by
  refine Con.of (by decide) hl (Nat.le_of_ble_eq_true rfl) (fun Y C => ?_)
  replace C : Ok Y l E lvC 7 RX0 cX0_workOnTwo none 4 := C
  show V Y l E lvC 7 (rBu x) 0 [(0, .ref (E.1 14 0)), (1, .ref (E.1 1 0)), (2, .int a2)] [] μ
  unfold f_X0_workOnTwo at h
  refine V_aload_n C 1 dX0_workOnTwo_0 rfl 1 rfl ?_
  refine V_getf (v := .ref (E.1 7 0)) C 1 0 m_1 fl_RX0_96 rfl rfl dX0_workOnTwo_1 ?_
  refine V_iload_n C 2 dX0_workOnTwo_4 rfl 2 rfl ?_
  obtain ⟨hi9, h⟩ := gd_inv h
  refine V_cald C 7 0 m_7 (fun _ => rfl) (inb_in hi9) dX0_workOnTwo_5 ?_
  refine V_topi (fun x_1 hn9 => ?_)
  replace h := lt_eq hn9 h; clear hn9
  refine V_istore_n (L' := [(0, .ref (E.1 14 0)), (1, .ref (E.1 1 0)), (2, .int a2), (3, .int x_1)]) C 3 dX0_workOnTwo_6 rfl (by decide) [1, 2, 3, 0] rfl ?_
  refine V_aload_n C 1 dX0_workOnTwo_7 rfl 1 rfl ?_
  refine V_getf (v := .ref (E.1 8 0)) C 1 0 m_1 fl_RX0_100 rfl rfl dX0_workOnTwo_8 ?_
  refine V_iload_n C 2 dX0_workOnTwo_11 rfl 2 rfl ?_
  obtain ⟨hi9, h⟩ := gd_inv h
  refine V_cald C 8 0 m_8 (fun _ => rfl) (inb_in hi9) dX0_workOnTwo_12 ?_
  refine V_topi (fun x_2 hn9 => ?_)
  replace h := lt_eq hn9 h; clear hn9
  refine V_istore (L' := [(0, .ref (E.1 14 0)), (1, .ref (E.1 1 0)), (2, .int a2), (3, .int x_1), (4, .int x_2)]) C dX0_workOnTwo_13 (by decide) [1, 2, 3, 4, 0] rfl ?_
  refine V_aload_n C 0 dX0_workOnTwo_15 rfl 0 rfl ?_
  refine V_getf (v := .ref (E.1 15 0)) C 14 0 m_14 fl_RX0_13 rfl rfl dX0_workOnTwo_16 ?_
  refine V_aload_n C 0 dX0_workOnTwo_19 rfl 0 rfl ?_
  refine V_getf (v := .int (μ 14 0 4)) C 14 0 m_14 fl_RX0_29 rfl rfl dX0_workOnTwo_20 ?_
  refine V_iconst C (1 : Int32) dX0_workOnTwo_23 (by decide) ?_
  refine V_isub C dX0_workOnTwo_24 ?_
  obtain ⟨hi9, h⟩ := gd_inv h
  refine V_aald (a := E.1 20 (μ 15 0 (((μ 14 0 4) - (1 : Int32))).toNatClampNeg).toNatClampNeg) C 15 0 m_15 rfl (inb_in hi9) rfl dX0_workOnTwo_25 ?_
  refine V_topg (fun g_3 hn9 => ?_)
  replace h := lt_eq hn9 h; clear hn9
  obtain ⟨hg_3, h⟩ := gd_inv h
  replace hg_3 := dec_t hg_3
  refine V_astore (L' := [(0, .ref (E.1 14 0)), (1, .ref (E.1 1 0)), (2, .int a2), (3, .int x_1), (4, .int x_2), (5, .ref (E.1 20 g_3))]) C dX0_workOnTwo_26 (by decide) [1, 2, 3, 4, 5, 0] rfl ?_
  refine V_aload_n C 0 dX0_workOnTwo_28 rfl 0 rfl ?_
  refine V_getf (v := .ref (E.1 15 0)) C 14 0 m_14 fl_RX0_13 rfl rfl dX0_workOnTwo_29 ?_
  refine V_aload_n C 0 dX0_workOnTwo_32 rfl 0 rfl ?_
  refine V_getf (v := .int (μ 14 0 4)) C 14 0 m_14 fl_RX0_29 rfl rfl dX0_workOnTwo_33 ?_
  refine V_iconst C (2 : Int32) dX0_workOnTwo_36 (by decide) ?_
  refine V_isub C dX0_workOnTwo_37 ?_
  obtain ⟨hi9, h⟩ := gd_inv h
  refine V_aald (a := E.1 20 (μ 15 0 (((μ 14 0 4) - (2 : Int32))).toNatClampNeg).toNatClampNeg) C 15 0 m_15 rfl (inb_in hi9) rfl dX0_workOnTwo_38 ?_
  refine V_topg (fun g_4 hn9 => ?_)
  replace h := lt_eq hn9 h; clear hn9
  obtain ⟨hg_4, h⟩ := gd_inv h
  replace hg_4 := dec_t hg_4
  refine V_astore (L' := [(0, .ref (E.1 14 0)), (1, .ref (E.1 1 0)), (2, .int a2), (3, .int x_1), (4, .int x_2), (5, .ref (E.1 20 g_3)), (6, .ref (E.1 20 g_4))]) C dX0_workOnTwo_39 (by decide) [1, 2, 3, 4, 5, 6, 0] rfl ?_
  refine V_aload_n C 0 dX0_workOnTwo_41 rfl 0 rfl ?_
  refine V_getf (v := .ref (E.1 20 (μ 14 0 3).toNatClampNeg)) C 14 0 m_14 fl_RX0_25 rfl rfl dX0_workOnTwo_42 ?_
  refine V_topg (fun g_5 hn9 => ?_)
  replace h := lt_eq hn9 h; clear hn9
  obtain ⟨hg_5, h⟩ := gd_inv h
  replace hg_5 := dec_t hg_5
  obtain ⟨u_6, μ_7, hv, h⟩ := bW_inv h
  refine V_callVo C 20 g_5 (gr_0in g_5 hg_5) none (con_X1_restart hl g_5 hg_5 hv) tb_X1_restart lk_RX0_77 rfl rfl rfl (by decide) (by decide) rfl (Nat.le_of_ble_eq_true rfl) rfl dX0_workOnTwo_45 rfl ?_
  clear hv
  refine V_iload C dX0_workOnTwo_48 4 rfl ?_
  refine V_bipush C (46 : Int32) dX0_workOnTwo_50 (by decide) ?_
  obtain ⟨j_9, hj_9, h⟩ := jn_ex h
  have J_9 : ∀ (μ_8 : Mem) x, j_9 μ_8 = some x → V Y l E lvC 7 (rBu x) 138 [(0, .ref (E.1 14 0))] [] μ_8 := by
    intro μ_8  x h
    rw [hj_9] at h; clear hj_9
    refine V_aload_n C 0 dX0_workOnTwo_138 rfl 0 rfl ?_
    refine V_dup C dX0_workOnTwo_139 rfl ?_
    refine V_getf (v := .int (μ_8 14 0 4)) C 14 0 m_14 fl_RX0_29 rfl rfl dX0_workOnTwo_140 ?_
    refine V_iconst C (1 : Int32) dX0_workOnTwo_143 (by decide) ?_
    refine V_isub C dX0_workOnTwo_144 ?_
    refine V_putI C 14 0 m_14 fp_RX0_29 rfl rfl rfl rfl (Nat.le_of_ble_eq_true rfl) dX0_workOnTwo_145 ?_
    refine V_memn (fun μ_10 hn9 => ?_)
    replace h := lt_eq hn9 h; clear hn9
    refine V_aload_n C 0 dX0_workOnTwo_148 rfl 0 rfl ?_
    obtain ⟨u_11, μ_12, hv, h⟩ := bW_inv h
    refine V_callVo C 14 0 m_14 none (con_X0_putSpare hl hv) tb_X0_putSpare lk_RX0_128 rfl rfl rfl (by decide) (by decide) rfl (Nat.le_of_ble_eq_true rfl) rfl dX0_workOnTwo_149 rfl ?_
    clear hv
    cases h
    exact V_return C rfl rfl dX0_workOnTwo_152
  clear hj_9
  refine V_icmp_ne C (tgt := 80) dX0_workOnTwo_52 (by decide) (fun hc => ?_) (fun hc => ?_)
  · replace h := (if_neg hc).symm.trans h
    refine V_iload C dX0_workOnTwo_80 4 rfl ?_
    refine V_bipush C (64 : Int32) dX0_workOnTwo_82 (by decide) ?_
    refine V_icmp_ne C (tgt := 102) dX0_workOnTwo_84 (by decide) (fun hc => ?_) (fun hc => ?_)
    · replace h := (if_neg hc).symm.trans h
      refine V_ldcS (tx := "r,p") C 2 (by decide +kernel) dX0_workOnTwo_102 ?_
      refine V_iload_n C 3 dX0_workOnTwo_104 rfl 3 rfl ?_
      obtain ⟨v_13, hv, h⟩ := bP_inv h
      refine V_callKo C 2 (by decide) (some (.int v_13)) (con_J0_indexOf_0f7a4 hl 2 x_1 (by decide) hv) tb_J0_indexOf_0f7a4 lk_RX0_114 rfl (by decide) (by decide) rfl (Nat.le_of_ble_eq_true rfl) rfl dX0_workOnTwo_105 rfl ?_
      clear hv
      refine V_if_lt C (tgt := 126) dX0_workOnTwo_108 (by decide) (fun hc => ?_) (fun hc => ?_)
      · replace h := (if_pos hc).symm.trans h
        refine V_iload_n C 3 dX0_workOnTwo_126 rfl 3 rfl ?_
        refine V_aload C dX0_workOnTwo_127 5 rfl ?_
        refine V_aload C dX0_workOnTwo_129 6 rfl ?_
        refine V_aload_n C 0 dX0_workOnTwo_131 rfl 0 rfl ?_
        refine V_getf (v := .ref (E.1 20 (μ_7 14 0 3).toNatClampNeg)) C 14 0 m_14 fl_RX0_25 rfl rfl dX0_workOnTwo_132 ?_
        refine V_topg (fun g_14 hn9 => ?_)
        replace h := lt_eq hn9 h; clear hn9
        obtain ⟨hg_14, h⟩ := gd_inv h
        replace hg_14 := dec_t hg_14
        rcases bB_inv h with ⟨e_17, μ_16, hv, h⟩ | ⟨u_15, μ_16, hv, h⟩
        · cases h; exact V_callSe C e_17 (con_X3_each hl x_1 g_3 g_4 g_14 hg_3 hg_4 hg_14 hv) tb_X3_each lk_RX0_147 (by decide) (by decide) rfl (Nat.le_of_ble_eq_true rfl) rfl dX0_workOnTwo_135 rfl
        refine V_callSo C none (con_X3_each hl x_1 g_3 g_4 g_14 hg_3 hg_4 hg_14 hv) tb_X3_each lk_RX0_147 (by decide) (by decide) rfl (Nat.le_of_ble_eq_true rfl) rfl dX0_workOnTwo_135 rfl ?_
        clear hv
        refine V_sub (LP := [(0, .ref (E.1 14 0))]) [0] rfl ?_
        exact J_9 _ _ h
      · replace h := (if_neg hc).symm.trans h
        refine V_iload_n C 3 dX0_workOnTwo_111 rfl 3 rfl ?_
        refine V_aload C dX0_workOnTwo_112 5 rfl ?_
        refine V_aload C dX0_workOnTwo_114 6 rfl ?_
        refine V_aload_n C 0 dX0_workOnTwo_116 rfl 0 rfl ?_
        refine V_getf (v := .ref (E.1 20 (μ_7 14 0 3).toNatClampNeg)) C 14 0 m_14 fl_RX0_25 rfl rfl dX0_workOnTwo_117 ?_
        refine V_topg (fun g_18 hn9 => ?_)
        replace h := lt_eq hn9 h; clear hn9
        obtain ⟨hg_18, h⟩ := gd_inv h
        replace hg_18 := dec_t hg_18
        rcases bB_inv h with ⟨e_21, μ_20, hv, h⟩ | ⟨u_19, μ_20, hv, h⟩
        · cases h; exact V_callSe C e_21 (con_X4_ofTwo hl x_1 g_3 g_4 g_18 hg_3 hg_4 hg_18 hv) tb_X4_ofTwo lk_RX0_144 (by decide) (by decide) rfl (Nat.le_of_ble_eq_true rfl) rfl dX0_workOnTwo_120 rfl
        refine V_callSo C none (con_X4_ofTwo hl x_1 g_3 g_4 g_18 hg_3 hg_4 hg_18 hv) tb_X4_ofTwo lk_RX0_144 (by decide) (by decide) rfl (Nat.le_of_ble_eq_true rfl) rfl dX0_workOnTwo_120 rfl ?_
        clear hv
        refine V_goto C (tgt := 138) dX0_workOnTwo_123 (by decide) ?_
        refine V_sub (LP := [(0, .ref (E.1 14 0))]) [0] rfl ?_
        exact J_9 _ _ h
    · replace h := (if_pos hc).symm.trans h
      refine V_iload_n C 3 dX0_workOnTwo_87 rfl 3 rfl ?_
      refine V_aload C dX0_workOnTwo_88 5 rfl ?_
      refine V_aload C dX0_workOnTwo_90 6 rfl ?_
      refine V_aload_n C 0 dX0_workOnTwo_92 rfl 0 rfl ?_
      refine V_getf (v := .ref (E.1 20 (μ_7 14 0 3).toNatClampNeg)) C 14 0 m_14 fl_RX0_25 rfl rfl dX0_workOnTwo_93 ?_
      refine V_topg (fun g_22 hn9 => ?_)
      replace h := lt_eq hn9 h; clear hn9
      obtain ⟨hg_22, h⟩ := gd_inv h
      replace hg_22 := dec_t hg_22
      rcases bB_inv h with ⟨e_25, μ_24, hv, h⟩ | ⟨u_23, μ_24, hv, h⟩
      · cases h; exact V_callSe C e_25 (con_X3_outer hl x_1 g_3 g_4 g_22 hg_3 hg_4 hg_22 hv) tb_X3_outer lk_RX0_138 (by decide) (by decide) rfl (Nat.le_of_ble_eq_true rfl) rfl dX0_workOnTwo_96 rfl
      refine V_callSo C none (con_X3_outer hl x_1 g_3 g_4 g_22 hg_3 hg_4 hg_22 hv) tb_X3_outer lk_RX0_138 (by decide) (by decide) rfl (Nat.le_of_ble_eq_true rfl) rfl dX0_workOnTwo_96 rfl ?_
      clear hv
      refine V_goto C (tgt := 138) dX0_workOnTwo_99 (by decide) ?_
      refine V_sub (LP := [(0, .ref (E.1 14 0))]) [0] rfl ?_
      exact J_9 _ _ h
  · replace h := (if_pos hc).symm.trans h
    refine V_iload_n C 3 dX0_workOnTwo_55 rfl 3 rfl ?_
    refine V_aload_n C 1 dX0_workOnTwo_56 rfl 1 rfl ?_
    refine V_getf (v := .ref (E.1 9 0)) C 1 0 m_1 fl_RX0_131 rfl rfl dX0_workOnTwo_57 ?_
    refine V_iload_n C 2 dX0_workOnTwo_60 rfl 2 rfl ?_
    obtain ⟨hi9, h⟩ := gd_inv h
    refine V_cald C 9 0 m_9 (fun _ => rfl) (inb_in hi9) dX0_workOnTwo_61 ?_
    refine V_aload C dX0_workOnTwo_62 5 rfl ?_
    refine V_aload C dX0_workOnTwo_64 6 rfl ?_
    refine V_aload_n C 0 dX0_workOnTwo_66 rfl 0 rfl ?_
    refine V_getf (v := .ref (E.1 20 (μ_7 14 0 3).toNatClampNeg)) C 14 0 m_14 fl_RX0_25 rfl rfl dX0_workOnTwo_67 ?_
    refine V_topg (fun g_26 hn9 => ?_)
    replace h := lt_eq hn9 h; clear hn9
    obtain ⟨hg_26, h⟩ := gd_inv h
    replace hg_26 := dec_t hg_26
    refine V_aload_n C 0 dX0_workOnTwo_70 rfl 0 rfl ?_
    refine V_getf (v := .ref (E.1 17 0)) C 14 0 m_14 fl_RX0_21 rfl rfl dX0_workOnTwo_71 ?_
    rcases bB_inv h with ⟨e_29, μ_28, hv, h⟩ | ⟨u_27, μ_28, hv, h⟩
    · cases h; exact V_callSe C e_29 (con_X3_inner hl x_1 (μ_7 9 0 (a2).toNatClampNeg) g_3 g_4 g_26 17 0 hg_3 hg_4 hg_26 m_17 (fun _ => rfl) hv) tb_X3_inner lk_RX0_134 (by decide) (by decide) rfl (Nat.le_of_ble_eq_true rfl) rfl dX0_workOnTwo_74 rfl
    refine V_callSo C none (con_X3_inner hl x_1 (μ_7 9 0 (a2).toNatClampNeg) g_3 g_4 g_26 17 0 hg_3 hg_4 hg_26 m_17 (fun _ => rfl) hv) tb_X3_inner lk_RX0_134 (by decide) (by decide) rfl (Nat.le_of_ble_eq_true rfl) rfl dX0_workOnTwo_74 rfl ?_
    clear hv
    refine V_goto C (tgt := 138) dX0_workOnTwo_77 (by decide) ?_
    refine V_sub (LP := [(0, .ref (E.1 14 0))]) [0] rfl ?_
    exact J_9 _ _ h
set_option maxHeartbeats 4000000 in
set_option maxRecDepth 100000 in
theorem lp_X0_evaluate_29 {Y : Mc} {l : Launch} {E : WE} (hl : l.stackTraces = false) (C : Ok Y l E lvC 4 RX0 cX0_evaluate (some (.object "RankCalc$Grid")) 6) {κ : Mem → Option (Except Nat Nat × Mem)}   (hκ : ∀  (μ_21 : Mem) x, κ  μ_21 = some x → V Y l E lvC 4 (rBg E x) 105 [(0, .ref (E.1 14 0))] [] μ_21) : ∀ (n : Nat) (a3_6 : Int32) (μ_7 : Mem) {x}, f_X0_evaluate_L29 κ  n a3_6 μ_7 = some x → V Y l E lvC 4 (rBg E x) 29 [(0, .ref (E.1 14 0)), (1, .ref (E.1 1 0)), (2, .ref (E.1 11 0)), (3, .int a3_6)] [] μ_7 := by
  intro n
  induction n with
  | zero =>
    intro a3_6 μ_7 x h
    simp [f_X0_evaluate_L29] at h
  | succ n ih =>
    intro a3_6 μ_7 x h
    rw [f_X0_evaluate_L29] at h
    refine V_iload_n C 3 dX0_evaluate_29 rfl 3 rfl ?_
    refine V_if_lt C (tgt := 105) dX0_evaluate_30 (by decide) (fun hc => ?_) (fun hc => ?_)
    · replace h := (if_pos hc).symm.trans h
      refine V_sub (LP := [(0, .ref (E.1 14 0))]) [0] rfl ?_
      exact hκ _ _ h
    · replace h := (if_neg hc).symm.trans h
      refine V_aload_n C 1 dX0_evaluate_33 rfl 1 rfl ?_
      refine V_getf (v := .ref (E.1 4 0)) C 1 0 m_1 fl_RX0_44 rfl rfl dX0_evaluate_34 ?_
      refine V_iload_n C 3 dX0_evaluate_37 rfl 3 rfl ?_
      obtain ⟨hi9, h⟩ := gd_inv h
      refine V_iald C 4 0 m_4 (fun _ => rfl) (inb_in hi9) dX0_evaluate_38 ?_
      refine V_iconst C (4 : Int32) dX0_evaluate_39 (by decide) ?_
      obtain ⟨j_9, hj_9, h⟩ := jn_ex h
      have J_9 : ∀ (μ_8 : Mem) x, j_9 μ_8 = some x → V Y l E lvC 4 (rBg E x) 99 [(0, .ref (E.1 14 0)), (1, .ref (E.1 1 0)), (2, .ref (E.1 11 0)), (3, .int a3_6)] [] μ_8 := by
        intro μ_8  x h
        rw [hj_9] at h; clear hj_9
        obtain ⟨x_10, hn9⟩ : ∃ z : Int32, z = a3_6 + (-1 : Int32) := ⟨_, rfl⟩
        replace h := lt_eq hn9 h
        refine V_iinc (L' := [(0, .ref (E.1 14 0)), (1, .ref (E.1 1 0)), (2, .ref (E.1 11 0)), (3, .int x_10)]) C x_10 dX0_evaluate_99 3 rfl (by rw [hn9]; exact congrArg (a3_6 + ·) (by decide)) (by decide) [1, 2, 3, 0] rfl ?_
        clear hn9
        refine V_goto C (tgt := 29) dX0_evaluate_102 (by decide) ?_
        refine V_sub (LP := [(0, .ref (E.1 14 0)), (1, .ref (E.1 1 0)), (2, .ref (E.1 11 0)), (3, .int x_10)]) [0, 1, 2, 3] rfl ?_
        exact ih _ _ h
      clear hj_9
      refine V_icmp_ne C (tgt := 52) dX0_evaluate_40 (by decide) (fun hc => ?_) (fun hc => ?_)
      · replace h := (if_neg hc).symm.trans h
        refine V_aload_n C 0 dX0_evaluate_52 rfl 0 rfl ?_
        refine V_aload_n C 1 dX0_evaluate_53 rfl 1 rfl ?_
        refine V_iload_n C 3 dX0_evaluate_54 rfl 3 rfl ?_
        refine V_aload_n C 2 dX0_evaluate_55 rfl 2 rfl ?_
        rcases bB_inv h with ⟨e_13, μ_12, hv, h⟩ | ⟨v_11, μ_12, hv, h⟩
        · cases h; exact V_callVe C 14 0 m_14 e_13 (con_X0_endsTerm hl a3_6 hv) tb_X0_endsTerm lk_RX0_51 rfl rfl rfl (by decide) (by decide) rfl (Nat.le_of_ble_eq_true rfl) rfl dX0_evaluate_56 rfl
        refine V_callVo C 14 0 m_14 (some (.int v_11)) (con_X0_endsTerm hl a3_6 hv) tb_X0_endsTerm lk_RX0_51 rfl rfl rfl (by decide) (by decide) rfl (Nat.le_of_ble_eq_true rfl) rfl dX0_evaluate_56 rfl ?_
        clear hv
        refine V_if_eq C (tgt := 99) dX0_evaluate_59 (by decide) (fun hc => ?_) (fun hc => ?_)
        · replace h := (if_pos hc).symm.trans h
          refine V_sub (LP := [(0, .ref (E.1 14 0)), (1, .ref (E.1 1 0)), (2, .ref (E.1 11 0)), (3, .int a3_6)]) [0, 1, 2, 3] rfl ?_
          exact J_9 _ _ h
        · replace h := (if_neg hc).symm.trans h
          refine V_aload_n C 0 dX0_evaluate_62 rfl 0 rfl ?_
          refine V_getf (v := .ref (E.1 16 0)) C 14 0 m_14 fl_RX0_17 rfl rfl dX0_evaluate_63 ?_
          refine V_aload_n C 0 dX0_evaluate_66 rfl 0 rfl ?_
          refine V_getf (v := .int (μ_12 14 0 5)) C 14 0 m_14 fl_RX0_33 rfl rfl dX0_evaluate_67 ?_
          obtain ⟨hi9, h⟩ := gd_inv h
          refine V_iald C 16 0 m_16 (fun _ => rfl) (inb_in hi9) dX0_evaluate_70 ?_
          refine V_iconst C (-1 : Int32) dX0_evaluate_71 (by decide) ?_
          refine V_icmp_eq C (tgt := 99) dX0_evaluate_72 (by decide) (fun hc => ?_) (fun hc => ?_)
          · replace h := (if_pos hc).symm.trans h
            refine V_sub (LP := [(0, .ref (E.1 14 0)), (1, .ref (E.1 1 0)), (2, .ref (E.1 11 0)), (3, .int a3_6)]) [0, 1, 2, 3] rfl ?_
            exact J_9 _ _ h
          · replace h := (if_neg hc).symm.trans h
            refine V_aload_n C 0 dX0_evaluate_75 rfl 0 rfl ?_
            refine V_aload_n C 1 dX0_evaluate_76 rfl 1 rfl ?_
            refine V_aload_n C 0 dX0_evaluate_77 rfl 0 rfl ?_
            refine V_getf (v := .ref (E.1 16 0)) C 14 0 m_14 fl_RX0_17 rfl rfl dX0_evaluate_78 ?_
            refine V_aload_n C 0 dX0_evaluate_81 rfl 0 rfl ?_
            refine V_getf (v := .int (μ_12 14 0 5)) C 14 0 m_14 fl_RX0_33 rfl rfl dX0_evaluate_82 ?_
            obtain ⟨hi9, h⟩ := gd_inv h
            refine V_iald C 16 0 m_16 (fun _ => rfl) (inb_in hi9) dX0_evaluate_85 ?_
            rcases bB_inv h with ⟨e_16, μ_15, hv, h⟩ | ⟨u_14, μ_15, hv, h⟩
            · cases h; exact V_callVe C 14 0 m_14 e_16 (con_X0_workOnTwo hl (μ_12 16 0 ((μ_12 14 0 5)).toNatClampNeg) hv) tb_X0_workOnTwo lk_RX0_55 rfl rfl rfl (by decide) (by decide) rfl (Nat.le_of_ble_eq_true rfl) rfl dX0_evaluate_86 rfl
            refine V_callVo C 14 0 m_14 none (con_X0_workOnTwo hl (μ_12 16 0 ((μ_12 14 0 5)).toNatClampNeg) hv) tb_X0_workOnTwo lk_RX0_55 rfl rfl rfl (by decide) (by decide) rfl (Nat.le_of_ble_eq_true rfl) rfl dX0_evaluate_86 rfl ?_
            clear hv
            refine V_aload_n C 0 dX0_evaluate_89 rfl 0 rfl ?_
            refine V_getf (v := .ref (E.1 16 0)) C 14 0 m_14 fl_RX0_17 rfl rfl dX0_evaluate_90 ?_
            refine V_aload_n C 0 dX0_evaluate_93 rfl 0 rfl ?_
            refine V_getf (v := .int (μ_15 14 0 5)) C 14 0 m_14 fl_RX0_33 rfl rfl dX0_evaluate_94 ?_
            refine V_iconst C (-1 : Int32) dX0_evaluate_97 (by decide) ?_
            obtain ⟨hi9, h⟩ := gd_inv h
            refine V_iast C 16 0 m_16 (fun _ => rfl) (inb_in hi9) dX0_evaluate_98 ?_
            refine V_memn (fun μ_17 hn9 => ?_)
            replace h := lt_eq hn9 h; clear hn9
            refine V_sub (LP := [(0, .ref (E.1 14 0)), (1, .ref (E.1 1 0)), (2, .ref (E.1 11 0)), (3, .int a3_6)]) [0, 1, 2, 3] rfl ?_
            exact J_9 _ _ h
      · replace h := (if_pos hc).symm.trans h
        refine V_aload_n C 0 dX0_evaluate_43 rfl 0 rfl ?_
        refine V_aload_n C 1 dX0_evaluate_44 rfl 1 rfl ?_
        refine V_iload_n C 3 dX0_evaluate_45 rfl 3 rfl ?_
        rcases bB_inv h with ⟨e_20, μ_19, hv, h⟩ | ⟨u_18, μ_19, hv, h⟩
        · cases h; exact V_callVe C 14 0 m_14 e_20 (con_X0_workOnOne hl a3_6 hv) tb_X0_workOnOne lk_RX0_47 rfl rfl rfl (by decide) (by decide) rfl (Nat.le_of_ble_eq_true rfl) rfl dX0_evaluate_46 rfl
        refine V_callVo C 14 0 m_14 none (con_X0_workOnOne hl a3_6 hv) tb_X0_workOnOne lk_RX0_47 rfl rfl rfl (by decide) (by decide) rfl (Nat.le_of_ble_eq_true rfl) rfl dX0_evaluate_46 rfl ?_
        clear hv
        refine V_goto C (tgt := 99) dX0_evaluate_49 (by decide) ?_
        refine V_sub (LP := [(0, .ref (E.1 14 0)), (1, .ref (E.1 1 0)), (2, .ref (E.1 11 0)), (3, .int a3_6)]) [0, 1, 2, 3] rfl ?_
        exact J_9 _ _ h
set_option maxHeartbeats 4000000 in
set_option maxRecDepth 100000 in
theorem con_X0_evaluate {l : Launch} {E : WE} (hl : l.stackTraces = false)   {μ : Mem} {x} (h : f_X0_evaluate  μ = some x) : Con l E lvC yX0_evaluate cX0_evaluate 4 (some (.object "RankCalc$Grid")) 6 [.ref (E.1 14 0), .ref (E.1 1 0), .ref (E.1 11 0)] μ (rBg E x) := by
  refine Con.of (by decide) hl (Nat.le_of_ble_eq_true rfl) (fun Y C => ?_)
  replace C : Ok Y l E lvC 4 RX0 cX0_evaluate (some (.object "RankCalc$Grid")) 6 := C
  show V Y l E lvC 4 (rBg E x) 0 [(0, .ref (E.1 14 0)), (1, .ref (E.1 1 0)), (2, .ref (E.1 11 0))] [] μ
  unfold f_X0_evaluate at h
  refine V_aload_n C 0 dX0_evaluate_0 rfl 0 rfl ?_
  refine V_iconst C (0 : Int32) dX0_evaluate_1 (by decide) ?_
  refine V_putI C 14 0 m_14 fp_RX0_29 rfl rfl rfl rfl (Nat.le_of_ble_eq_true rfl) dX0_evaluate_2 ?_
  refine V_memn (fun μ_1 hn9 => ?_)
  replace h := lt_eq hn9 h; clear hn9
  refine V_aload_n C 0 dX0_evaluate_5 rfl 0 rfl ?_
  refine V_iconst C (0 : Int32) dX0_evaluate_6 (by decide) ?_
  refine V_putI C 14 0 m_14 fp_RX0_33 rfl rfl rfl rfl (Nat.le_of_ble_eq_true rfl) dX0_evaluate_7 ?_
  refine V_memn (fun μ_2 hn9 => ?_)
  replace h := lt_eq hn9 h; clear hn9
  refine V_aload_n C 0 dX0_evaluate_10 rfl 0 rfl ?_
  refine V_iconst C (0 : Int32) dX0_evaluate_11 (by decide) ?_
  refine V_putI C 14 0 m_14 fp_RX0_36 rfl rfl rfl rfl (Nat.le_of_ble_eq_true rfl) dX0_evaluate_12 ?_
  refine V_memn (fun μ_3 hn9 => ?_)
  replace h := lt_eq hn9 h; clear hn9
  refine V_aload_n C 0 dX0_evaluate_15 rfl 0 rfl ?_
  refine V_getf (v := .ref (E.1 16 0)) C 14 0 m_14 fl_RX0_17 rfl rfl dX0_evaluate_16 ?_
  refine V_iconst C (0 : Int32) dX0_evaluate_19 (by decide) ?_
  refine V_iconst C (-1 : Int32) dX0_evaluate_20 (by decide) ?_
  obtain ⟨hi9, h⟩ := gd_inv h
  refine V_iast C 16 0 m_16 (fun _ => rfl) (inb_in hi9) dX0_evaluate_21 ?_
  refine V_memn (fun μ_4 hn9 => ?_)
  replace h := lt_eq hn9 h; clear hn9
  refine V_aload_n C 1 dX0_evaluate_22 rfl 1 rfl ?_
  refine V_getf (v := .int (μ_4 1 0 8)) C 1 0 m_1 fl_RX0_39 rfl rfl dX0_evaluate_23 ?_
  refine V_iconst C (1 : Int32) dX0_evaluate_26 (by decide) ?_
  refine V_isub C dX0_evaluate_27 ?_
  refine V_topi (fun x_5 hn9 => ?_)
  replace h := lt_eq hn9 h; clear hn9
  refine V_istore_n (L' := [(0, .ref (E.1 14 0)), (1, .ref (E.1 1 0)), (2, .ref (E.1 11 0)), (3, .int x_5)]) C 3 dX0_evaluate_28 rfl (by decide) [1, 2, 3, 0] rfl ?_
  refine V_sub (LP := [(0, .ref (E.1 14 0)), (1, .ref (E.1 1 0)), (2, .ref (E.1 11 0)), (3, .int x_5)]) [0, 1, 2, 3] rfl ?_
  refine lp_X0_evaluate_29 hl C (fun μ_22 x h => ?_) 1000 _ _ h
  refine V_aload_n C 0 dX0_evaluate_105 rfl 0 rfl ?_
  refine V_getf (v := .ref (E.1 15 0)) C 14 0 m_14 fl_RX0_13 rfl rfl dX0_evaluate_106 ?_
  refine V_iconst C (0 : Int32) dX0_evaluate_109 (by decide) ?_
  obtain ⟨hi9, h⟩ := gd_inv h
  refine V_aald (a := E.1 20 (μ_22 15 0 ((0 : Int32)).toNatClampNeg).toNatClampNeg) C 15 0 m_15 rfl (inb_in hi9) rfl dX0_evaluate_110 ?_
  refine V_topg (fun g_23 hn9 => ?_)
  replace h := lt_eq hn9 h; clear hn9
  obtain ⟨hg_23, h⟩ := gd_inv h
  replace hg_23 := dec_t hg_23
  cases h
  exact V_areturn C rfl rfl dX0_evaluate_111
