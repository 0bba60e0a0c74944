set_option maxHeartbeats 4000000 in
set_option maxRecDepth 100000 in
theorem lp_X3_outer_63 {Y : Mc} {l : Launch} {E : WE} (hl : l.stackTraces = false) (C : Ok Y l E lvC 7 RX3 cX3_outer none 2) {κ : Int32 → Mem → Option (Except Nat Unit × Mem)} (c0_16 : Int32) (g_17 : Nat) (g_18 : Nat) (g_19 : Nat) (c5_21 : Int32) (hg_17 : g_17 < 18) (hg_18 : g_18 < 18) (hg_19 : g_19 < 18) (hκ : ∀ (a4_29 : Int32) (μ_30 : Mem) x, κ a4_29 μ_30 = some x → V Y l E lvC 7 (rBu x) 106 [(0, .int c0_16), (1, .ref (E.1 20 g_17)), (2, .ref (E.1 20 g_18)), (3, .ref (E.1 20 g_19)), (4, .int a4_29), (5, .int c5_21)] [] μ_30) : ∀ (n : Nat) (a4_20 : Int32) (a6_22 : Int32) (μ_23 : Mem) {x}, f_X3_outer_L63 κ c0_16 g_17 g_18 g_19 c5_21 n a4_20 a6_22 μ_23 = some x → V Y l E lvC 7 (rBu x) 63 [(0, .int c0_16), (1, .ref (E.1 20 g_17)), (2, .ref (E.1 20 g_18)), (3, .ref (E.1 20 g_19)), (4, .int a4_20), (5, .int c5_21), (6, .int a6_22)] [] μ_23 := by
  intro n
  induction n with
  | zero =>
    intro a4_20 a6_22 μ_23 x h
    simp [f_X3_outer_L63] at h
  | succ n ih =>
    intro a4_20 a6_22 μ_23 x h
    rw [f_X3_outer_L63] at h
    refine V_iload C dX3_outer_63 6 rfl ?_
    refine V_aload_n C 2 dX3_outer_65 rfl 2 rfl ?_
    refine V_getf (v := .int (μ_23 20 g_18 3)) C 20 g_18 (gr_0in g_18 hg_18) fl_RX3_57 rfl rfl dX3_outer_66 ?_
    refine V_icmp_ge C (tgt := 106) dX3_outer_69 (by decide) (fun hc => ?_) (fun hc => ?_)
    · replace h := (if_pos hc).symm.trans h
      refine V_sub (LP := [(0, .int c0_16), (1, .ref (E.1 20 g_17)), (2, .ref (E.1 20 g_18)), (3, .ref (E.1 20 g_19)), (4, .int a4_20), (5, .int c5_21)]) [0, 1, 2, 3, 4, 5] rfl ?_
      exact hκ _ _ _ h
    · replace h := (if_neg hc).symm.trans h
      refine V_aload_n C 3 dX3_outer_72 rfl 3 rfl ?_
      refine V_getf (v := .ref (E.1 22 g_19)) C 20 g_19 (gr_0in g_19 hg_19) fl_RX3_61 rfl rfl dX3_outer_73 ?_
      refine V_iload C dX3_outer_76 4 rfl ?_
      refine V_iload_n C 0 dX3_outer_78 rfl 0 rfl ?_
      refine V_aload_n C 1 dX3_outer_79 rfl 1 rfl ?_
      refine V_getf (v := .ref (E.1 22 g_17)) C 20 g_17 (gr_0in g_17 hg_17) fl_RX3_61 rfl rfl dX3_outer_80 ?_
      refine V_iload C dX3_outer_83 5 rfl ?_
      obtain ⟨hi9, h⟩ := gd_inv h
      refine V_iald C 22 g_17 (gr_2in g_17 hg_17) (fun _ => rfl) (inb_in hi9) dX3_outer_85 ?_
      refine V_aload_n C 2 dX3_outer_86 rfl 2 rfl ?_
      refine V_getf (v := .ref (E.1 22 g_18)) C 20 g_18 (gr_0in g_18 hg_18) fl_RX3_61 rfl rfl dX3_outer_87 ?_
      refine V_iload C dX3_outer_90 6 rfl ?_
      obtain ⟨hi9, h⟩ := gd_inv h
      refine V_iald C 22 g_18 (gr_2in g_18 hg_18) (fun _ => rfl) (inb_in hi9) dX3_outer_92 ?_
      rcases bT_inv h with ⟨e_25, hv, h⟩ | ⟨v_24, hv, h⟩
      · cases h; exact V_callSe C e_25 (con_X3_work hl c0_16 (μ_23 22 g_17 (c5_21).toNatClampNeg) (μ_23 22 g_18 (a6_22).toNatClampNeg) hv) tb_X3_work lk_RX3_47 (by decide) (by decide) rfl (Nat.le_of_ble_eq_true rfl) rfl dX3_outer_93 rfl
      refine V_callSo C (some (.int v_24)) (con_X3_work hl c0_16 (μ_23 22 g_17 (c5_21).toNatClampNeg) (μ_23 22 g_18 (a6_22).toNatClampNeg) hv) tb_X3_work lk_RX3_47 (by decide) (by decide) rfl (Nat.le_of_ble_eq_true rfl) rfl dX3_outer_93 rfl ?_
      clear hv
      obtain ⟨hi9, h⟩ := gd_inv h
      refine V_iast C 22 g_19 (gr_2in g_19 hg_19) (fun _ => rfl) (inb_in hi9) dX3_outer_96 ?_
      refine V_memn (fun μ_26 hn9 => ?_)
      replace h := lt_eq hn9 h; clear hn9
      obtain ⟨x_27, hn9⟩ : ∃ z : Int32, z = a4_20 + (1 : Int32) := ⟨_, rfl⟩
      replace h := lt_eq hn9 h
      refine V_iinc (L' := [(0, .int c0_16), (1, .ref (E.1 20 g_17)), (2, .ref (E.1 20 g_18)), (3, .ref (E.1 20 g_19)), (4, .int x_27), (5, .int c5_21), (6, .int a6_22)]) C x_27 dX3_outer_97 4 rfl (by rw [hn9]; exact congrArg (a4_20 + ·) (by decide)) (by decide) [1, 2, 3, 4, 0, 5, 6] rfl ?_
      clear hn9
      obtain ⟨x_28, hn9⟩ : ∃ z : Int32, z = a6_22 + (1 : Int32) := ⟨_, rfl⟩
      replace h := lt_eq hn9 h
      refine V_iinc (L' := [(0, .int c0_16), (1, .ref (E.1 20 g_17)), (2, .ref (E.1 20 g_18)), (3, .ref (E.1 20 g_19)), (4, .int x_27), (5, .int c5_21), (6, .int x_28)]) C x_28 dX3_outer_100 6 rfl (by rw [hn9]; exact congrArg (a6_22 + ·) (by decide)) (by decide) [1, 2, 3, 4, 5, 6, 0] rfl ?_
      clear hn9
      refine V_goto C (tgt := 63) dX3_outer_103 (by decide) ?_
      refine V_sub (LP := [(0, .int c0_16), (1, .ref (E.1 20 g_17)), (2, .ref (E.1 20 g_18)), (3, .ref (E.1 20 g_19)), (4, .int x_27), (5, .int c5_21), (6, .int x_28)]) [0, 1, 2, 3, 4, 5, 6] rfl ?_
      exact ih _ _ _ h
set_option maxHeartbeats 4000000 in
set_option maxRecDepth 100000 in
theorem lp_X3_outer_51 {Y : Mc} {l : Launch} {E : WE} (hl : l.stackTraces = false) (C : Ok Y l E lvC 7 RX3 cX3_outer none 2) {κ : Mem → Option (Except Nat Unit × Mem)} (c0_9 : Int32) (g_10 : Nat) (g_11 : Nat) (g_12 : Nat) (hg_10 : g_10 < 18) (hg_11 : g_11 < 18) (hg_12 : g_12 < 18) (hκ : ∀  (μ_34 : Mem) x, κ  μ_34 = some x → V Y l E lvC 7 (rBu x) 112 [] [] μ_34) : ∀ (n : Nat) (a4_13 : Int32) (a5_14 : Int32) (μ_15 : Mem) {x}, f_X3_outer_L51 κ c0_9 g_10 g_11 g_12 n a4_13 a5_14 μ_15 = some x → V Y l E lvC 7 (rBu x) 51 [(0, .int c0_9), (1, .ref (E.1 20 g_10)), (2, .ref (E.1 20 g_11)), (3, .ref (E.1 20 g_12)), (4, .int a4_13), (5, .int a5_14)] [] μ_15 := by
  intro n
  induction n with
  | zero =>
    intro a4_13 a5_14 μ_15 x h
    simp [f_X3_outer_L51] at h
  | succ n ih =>
    intro a4_13 a5_14 μ_15 x h
    rw [f_X3_outer_L51] at h
    refine V_iload C dX3_outer_51 5 rfl ?_
    refine V_aload_n C 1 dX3_outer_53 rfl 1 rfl ?_
    refine V_getf (v := .int (μ_15 20 g_10 3)) C 20 g_10 (gr_0in g_10 hg_10) fl_RX3_57 rfl rfl dX3_outer_54 ?_
    refine V_icmp_ge C (tgt := 112) dX3_outer_57 (by decide) (fun hc => ?_) (fun hc => ?_)
    · replace h := (if_pos hc).symm.trans h
      refine V_sub (LP := []) [] rfl ?_
      exact hκ _ _ h
    · replace h := (if_neg hc).symm.trans h
      refine V_iconst C (0 : Int32) dX3_outer_60 (by decide) ?_
      refine V_istore (L' := [(0, .int c0_9), (1, .ref (E.1 20 g_10)), (2, .ref (E.1 20 g_11)), (3, .ref (E.1 20 g_12)), (4, .int a4_13), (5, .int a5_14), (6, .int (0 : Int32))]) C dX3_outer_61 (by decide) [1, 2, 3, 4, 5, 6, 0] rfl ?_
      refine V_sub (LP := [(0, .int c0_9), (1, .ref (E.1 20 g_10)), (2, .ref (E.1 20 g_11)), (3, .ref (E.1 20 g_12)), (4, .int a4_13), (5, .int a5_14), (6, .int (0 : Int32))]) [0, 1, 2, 3, 4, 5, 6] rfl ?_
      refine lp_X3_outer_63 hl C c0_9 g_10 g_11 g_12 a5_14 hg_10 hg_11 hg_12 (fun a4_31 μ_32 x h => ?_) 1000 _ _ _ h
      obtain ⟨x_33, hn9⟩ : ∃ z : Int32, z = a5_14 + (1 : Int32) := ⟨_, rfl⟩
      replace h := lt_eq hn9 h
      refine V_iinc (L' := [(0, .int c0_9), (1, .ref (E.1 20 g_10)), (2, .ref (E.1 20 g_11)), (3, .ref (E.1 20 g_12)), (4, .int a4_31), (5, .int x_33)]) C x_33 dX3_outer_106 5 rfl (by rw [hn9]; exact congrArg (a5_14 + ·) (by decide)) (by decide) [1, 2, 3, 4, 5, 0] rfl ?_
      clear hn9
      refine V_goto C (tgt := 51) dX3_outer_109 (by decide) ?_
      refine V_sub (LP := [(0, .int c0_9), (1, .ref (E.1 20 g_10)), (2, .ref (E.1 20 g_11)), (3, .ref (E.1 20 g_12)), (4, .int a4_31), (5, .int x_33)]) [0, 1, 2, 3, 4, 5] rfl ?_
      exact ih _ _ _ h
set_option maxHeartbeats 4000000 in
set_option maxRecDepth 100000 in
theorem con_X3_outer {l : Launch} {E : WE} (hl : l.stackTraces = false) (a0 : Int32) (g1 : Nat) (g2 : Nat) (g3 : Nat) (hg1 : g1 < 18) (hg2 : g2 < 18) (hg3 : g3 < 18) {μ : Mem} {x} (h : f_X3_outer a0 g1 g2 g3 μ = some x) : Con l E lvC yX3_outer cX3_outer 7 none 2 [.int a0, .ref (E.1 20 g1), .ref (E.1 20 g2), .ref (E.1 20 g3)] μ (rBu x) := by
  refine Con.of (by decide) hl (Nat.le_of_ble_eq_true rfl) (fun Y C => ?_)
  replace C : Ok Y l E lvC 7 RX3 cX3_outer none 2 := C
  show V Y l E lvC 7 (rBu x) 0 [(0, .int a0), (1, .ref (E.1 20 g1)), (2, .ref (E.1 20 g2)), (3, .ref (E.1 20 g3))] [] μ
  unfold f_X3_outer at h
  refine V_aload_n C 1 dX3_outer_0 rfl 1 rfl ?_
  refine V_getf (v := .int (μ 20 g1 2)) C 20 g1 (gr_0in g1 hg1) fl_RX3_81 rfl rfl dX3_outer_1 ?_
  refine V_aload_n C 2 dX3_outer_4 rfl 2 rfl ?_
  refine V_getf (v := .int (μ 20 g2 2)) C 20 g2 (gr_0in g2 hg2) fl_RX3_81 rfl rfl dX3_outer_5 ?_
  refine V_iadd C dX3_outer_8 ?_
  refine V_iconst C (3 : Int32) dX3_outer_9 (by decide) ?_
  refine V_icmp_le C (tgt := 21) dX3_outer_10 (by decide) (fun hc => ?_) (fun hc => ?_)
  · replace h := (if_pos hc).symm.trans h
    refine V_aload_n C 3 dX3_outer_21 rfl 3 rfl ?_
    refine V_aload_n C 1 dX3_outer_22 rfl 1 rfl ?_
    refine V_iconst C (0 : Int32) dX3_outer_23 (by decide) ?_
    refine V_aload_n C 1 dX3_outer_24 rfl 1 rfl ?_
    refine V_getf (v := .int (μ 20 g1 2)) C 20 g1 (gr_0in g1 hg1) fl_RX3_81 rfl rfl dX3_outer_25 ?_
    rcases bB_inv h with ⟨e_3, μ_2, hv, h⟩ | ⟨u_1, μ_2, hv, h⟩
    · cases h; exact V_callVe C 20 g3 (gr_0in g3 hg3) e_3 (con_X1_addAxesOf hl g3 g1 (0 : Int32) (μ 20 g1 2) hg3 hg1 hv) tb_X1_addAxesOf lk_RX3_97 rfl rfl rfl (by decide) (by decide) rfl (Nat.le_of_ble_eq_true rfl) rfl dX3_outer_28 rfl
    refine V_callVo C 20 g3 (gr_0in g3 hg3) none (con_X1_addAxesOf hl g3 g1 (0 : Int32) (μ 20 g1 2) hg3 hg1 hv) tb_X1_addAxesOf lk_RX3_97 rfl rfl rfl (by decide) (by decide) rfl (Nat.le_of_ble_eq_true rfl) rfl dX3_outer_28 rfl ?_
    clear hv
    refine V_aload_n C 3 dX3_outer_31 rfl 3 rfl ?_
    refine V_aload_n C 2 dX3_outer_32 rfl 2 rfl ?_
    refine V_iconst C (0 : Int32) dX3_outer_33 (by decide) ?_
    refine V_aload_n C 2 dX3_outer_34 rfl 2 rfl ?_
    refine V_getf (v := .int (μ_2 20 g2 2)) C 20 g2 (gr_0in g2 hg2) fl_RX3_81 rfl rfl dX3_outer_35 ?_
    rcases bB_inv h with ⟨e_6, μ_5, hv, h⟩ | ⟨u_4, μ_5, hv, h⟩
    · cases h; exact V_callVe C 20 g3 (gr_0in g3 hg3) e_6 (con_X1_addAxesOf hl g3 g2 (0 : Int32) (μ_2 20 g2 2) hg3 hg2 hv) tb_X1_addAxesOf lk_RX3_97 rfl rfl rfl (by decide) (by decide) rfl (Nat.le_of_ble_eq_true rfl) rfl dX3_outer_38 rfl
    refine V_callVo C 20 g3 (gr_0in g3 hg3) none (con_X1_addAxesOf hl g3 g2 (0 : Int32) (μ_2 20 g2 2) hg3 hg2 hv) tb_X1_addAxesOf lk_RX3_97 rfl rfl rfl (by decide) (by decide) rfl (Nat.le_of_ble_eq_true rfl) rfl dX3_outer_38 rfl ?_
    clear hv
    refine V_aload_n C 3 dX3_outer_41 rfl 3 rfl ?_
    rcases bT_inv h with ⟨e_8, hv, h⟩ | ⟨u_7, hv, h⟩
    · cases h; exact V_callVe C 20 g3 (gr_0in g3 hg3) e_8 (con_X1_endAxes hl g3 hg3 hv) tb_X1_endAxes lk_RX3_101 rfl rfl rfl (by decide) (by decide) rfl (Nat.le_of_ble_eq_true rfl) rfl dX3_outer_42 rfl
    refine V_callVo C 20 g3 (gr_0in g3 hg3) none (con_X1_endAxes hl g3 hg3 hv) tb_X1_endAxes lk_RX3_101 rfl rfl rfl (by decide) (by decide) rfl (Nat.le_of_ble_eq_true rfl) rfl dX3_outer_42 rfl ?_
    clear hv
    refine V_iconst C (0 : Int32) dX3_outer_45 (by decide) ?_
    refine V_istore (L' := [(0, .int a0), (1, .ref (E.1 20 g1)), (2, .ref (E.1 20 g2)), (3, .ref (E.1 20 g3)), (4, .int (0 : Int32))]) C dX3_outer_46 (by decide) [1, 2, 3, 4, 0] rfl ?_
    refine V_iconst C (0 : Int32) dX3_outer_48 (by decide) ?_
    refine V_istore (L' := [(0, .int a0), (1, .ref (E.1 20 g1)), (2, .ref (E.1 20 g2)), (3, .ref (E.1 20 g3)), (4, .int (0 : Int32)), (5, .int (0 : Int32))]) C dX3_outer_49 (by decide) [1, 2, 3, 4, 5, 0] rfl ?_
    refine V_sub (LP := [(0, .int a0), (1, .ref (E.1 20 g1)), (2, .ref (E.1 20 g2)), (3, .ref (E.1 20 g3)), (4, .int (0 : Int32)), (5, .int (0 : Int32))]) [0, 1, 2, 3, 4, 5] rfl ?_
    refine lp_X3_outer_51 hl C a0 g1 g2 g3 hg1 hg2 hg3 (fun μ_35 x h => ?_) 1000 _ _ _ h
    cases h
    exact V_return C rfl rfl dX3_outer_112
  · replace h := (if_neg hc).symm.trans h
    cases h
    exact V_throw C 4 th_RX3_84 rfl (Nat.le_of_ble_eq_true rfl) dX3_outer_13 dX3_outer_16 dX3_outer_17 dX3_outer_20
set_option maxHeartbeats 4000000 in
set_option maxRecDepth 100000 in
theorem lp_X4_reshape_26 {Y : Mc} {l : Launch} {E : WE} (hl : l.stackTraces = false) (C : Ok Y l E lvC 5 RX4 cX4_reshape none 1) {κ : Unit → Option (Except Nat Unit × Mem)} (g_1 : Nat) (g_2 : Nat) (g_3 : Nat) (μ_5 : Mem) (hg_1 : g_1 < 18) (hg_2 : g_2 < 18) (hg_3 : g_3 < 18) (hκ : ∀ (_ : Unit) x, κ () = some x → V Y l E lvC 5 (rBu x) 57 [(0, .ref (E.1 20 g_1)), (1, .ref (E.1 20 g_2)), (2, .ref (E.1 20 g_3))] [] μ_5) : ∀ (n : Nat) (a3_4 : Int32) {x}, f_X4_reshape_L26 κ g_1 g_2 g_3 μ_5 n a3_4 = some x → V Y l E lvC 5 (rBu x) 26 [(0, .ref (E.1 20 g_1)), (1, .ref (E.1 20 g_2)), (2, .ref (E.1 20 g_3)), (3, .int a3_4)] [] μ_5 := by
  intro n
  induction n with
  | zero =>
    intro a3_4 x h
    simp [f_X4_reshape_L26] at h
  | succ n ih =>
    intro a3_4 x h
    rw [f_X4_reshape_L26] at h
    refine V_iload_n C 3 dX4_reshape_26 rfl 3 rfl ?_
    refine V_aload_n C 0 dX4_reshape_27 rfl 0 rfl ?_
    refine V_getf (v := .int (μ_5 20 g_1 3)) C 20 g_1 (gr_0in g_1 hg_1) fl_RX4_18 rfl rfl dX4_reshape_28 ?_
    refine V_icmp_ge C (tgt := 57) dX4_reshape_31 (by decide) (fun hc => ?_) (fun hc => ?_)
    · replace h := (if_pos hc).symm.trans h
      refine V_sub (LP := [(0, .ref (E.1 20 g_1)), (1, .ref (E.1 20 g_2)), (2, .ref (E.1 20 g_3))]) [0, 1, 2] rfl ?_
      exact hκ () _ h
    · replace h := (if_neg hc).symm.trans h
      refine V_aload_n C 0 dX4_reshape_34 rfl 0 rfl ?_
      refine V_getf (v := .ref (E.1 22 g_1)) C 20 g_1 (gr_0in g_1 hg_1) fl_RX4_28 rfl rfl dX4_reshape_35 ?_
      refine V_iload_n C 3 dX4_reshape_38 rfl 3 rfl ?_
      obtain ⟨hi9, h⟩ := gd_inv h
      refine V_iald C 22 g_1 (gr_2in g_1 hg_1) (fun _ => rfl) (inb_in hi9) dX4_reshape_39 ?_
      refine V_if_ge C (tgt := 51) dX4_reshape_40 (by decide) (fun hc => ?_) (fun hc => ?_)
      · replace h := (if_pos hc).symm.trans h
        obtain ⟨x_6, hn9⟩ : ∃ z : Int32, z = a3_4 + (1 : Int32) := ⟨_, rfl⟩
        replace h := lt_eq hn9 h
        refine V_iinc (L' := [(0, .ref (E.1 20 g_1)), (1, .ref (E.1 20 g_2)), (2, .ref (E.1 20 g_3)), (3, .int x_6)]) C x_6 dX4_reshape_51 3 rfl (by rw [hn9]; exact congrArg (a3_4 + ·) (by decide)) (by decide) [1, 2, 3, 0] rfl ?_
        clear hn9
        refine V_goto C (tgt := 26) dX4_reshape_54 (by decide) ?_
        refine V_sub (LP := [(0, .ref (E.1 20 g_1)), (1, .ref (E.1 20 g_2)), (2, .ref (E.1 20 g_3)), (3, .int x_6)]) [0, 1, 2, 3] rfl ?_
        exact ih _ h
      · replace h := (if_neg hc).symm.trans h
        cases h
        exact V_throw C 2 th_RX4_63 rfl (Nat.le_of_ble_eq_true rfl) dX4_reshape_43 dX4_reshape_46 dX4_reshape_47 dX4_reshape_50
set_option maxHeartbeats 4000000 in
set_option maxRecDepth 100000 in
theorem lp_X4_reshape_59 {Y : Mc} {l : Launch} {E : WE} (hl : l.stackTraces = false) (C : Ok Y l E lvC 5 RX4 cX4_reshape none 1) {κ : Mem → Option (Except Nat Unit × Mem)} (g_7 : Nat) (g_8 : Nat) (g_9 : Nat) (hg_7 : g_7 < 18) (hg_8 : g_8 < 18) (hg_9 : g_9 < 18) (hκ : ∀  (μ_16 : Mem) x, κ  μ_16 = some x → V Y l E lvC 5 (rBu x) 83 [(1, .ref (E.1 20 g_8)), (2, .ref (E.1 20 g_9))] [] μ_16) : ∀ (n : Nat) (a3_10 : Int32) (μ_11 : Mem) {x}, f_X4_reshape_L59 κ g_7 g_8 g_9 n a3_10 μ_11 = some x → V Y l E lvC 5 (rBu x) 59 [(0, .ref (E.1 20 g_7)), (1, .ref (E.1 20 g_8)), (2, .ref (E.1 20 g_9)), (3, .int a3_10)] [] μ_11 := by
  intro n
  induction n with
  | zero =>
    intro a3_10 μ_11 x h
    simp [f_X4_reshape_L59] at h
  | succ n ih =>
    intro a3_10 μ_11 x h
    rw [f_X4_reshape_L59] at h
    refine V_iload_n C 3 dX4_reshape_59 rfl 3 rfl ?_
    refine V_aload_n C 0 dX4_reshape_60 rfl 0 rfl ?_
    refine V_getf (v := .int (μ_11 20 g_7 3)) C 20 g_7 (gr_0in g_7 hg_7) fl_RX4_18 rfl rfl dX4_reshape_61 ?_
    refine V_icmp_ge C (tgt := 83) dX4_reshape_64 (by decide) (fun hc => ?_) (fun hc => ?_)
    · replace h := (if_pos hc).symm.trans h
      refine V_sub (LP := [(1, .ref (E.1 20 g_8)), (2, .ref (E.1 20 g_9))]) [1, 2] rfl ?_
      exact hκ _ _ h
    · replace h := (if_neg hc).symm.trans h
      refine V_aload_n C 2 dX4_reshape_67 rfl 2 rfl ?_
      refine V_aload_n C 0 dX4_reshape_68 rfl 0 rfl ?_
      refine V_getf (v := .ref (E.1 22 g_7)) C 20 g_7 (gr_0in g_7 hg_7) fl_RX4_28 rfl rfl dX4_reshape_69 ?_
      refine V_iload_n C 3 dX4_reshape_72 rfl 3 rfl ?_
      obtain ⟨hi9, h⟩ := gd_inv h
      refine V_iald C 22 g_7 (gr_2in g_7 hg_7) (fun _ => rfl) (inb_in hi9) dX4_reshape_73 ?_
      rcases bB_inv h with ⟨e_14, μ_13, hv, h⟩ | ⟨u_12, μ_13, hv, h⟩
      · cases h; exact V_callVe C 20 g_9 (gr_0in g_9 hg_9) e_14 (con_X1_addAxis hl g_9 (μ_11 22 g_7 (a3_10).toNatClampNeg) hg_9 hv) tb_X1_addAxis lk_RX4_24 rfl rfl rfl (by decide) (by decide) rfl (Nat.le_of_ble_eq_true rfl) rfl dX4_reshape_74 rfl
      refine V_callVo C 20 g_9 (gr_0in g_9 hg_9) none (con_X1_addAxis hl g_9 (μ_11 22 g_7 (a3_10).toNatClampNeg) hg_9 hv) tb_X1_addAxis lk_RX4_24 rfl rfl rfl (by decide) (by decide) rfl (Nat.le_of_ble_eq_true rfl) rfl dX4_reshape_74 rfl ?_
      clear hv
      obtain ⟨x_15, hn9⟩ : ∃ z : Int32, z = a3_10 + (1 : Int32) := ⟨_, rfl⟩
      replace h := lt_eq hn9 h
      refine V_iinc (L' := [(0, .ref (E.1 20 g_7)), (1, .ref (E.1 20 g_8)), (2, .ref (E.1 20 g_9)), (3, .int x_15)]) C x_15 dX4_reshape_77 3 rfl (by rw [hn9]; exact congrArg (a3_10 + ·) (by decide)) (by decide) [1, 2, 3, 0] rfl ?_
      clear hn9
      refine V_goto C (tgt := 59) dX4_reshape_80 (by decide) ?_
      refine V_sub (LP := [(0, .ref (E.1 20 g_7)), (1, .ref (E.1 20 g_8)), (2, .ref (E.1 20 g_9)), (3, .int x_15)]) [0, 1, 2, 3] rfl ?_
      exact ih _ _ h
set_option maxHeartbeats 4000000 in
set_option maxRecDepth 100000 in
theorem lp_X4_reshape_114 {Y : Mc} {l : Launch} {E : WE} (hl : l.stackTraces = false) (C : Ok Y l E lvC 5 RX4 cX4_reshape none 1) {κ : Mem → Option (Except Nat Unit × Mem)} (g_21 : Nat) (g_22 : Nat) (hg_21 : g_21 < 18) (hg_22 : g_22 < 18) (hκ : ∀  (μ_30 : Mem) x, κ  μ_30 = some x → V Y l E lvC 5 (rBu x) 160 [] [] μ_30) : ∀ (n : Nat) (a3_23 : Int32) (a4_24 : Int32) (μ_25 : Mem) {x}, f_X4_reshape_L114 κ g_21 g_22 n a3_23 a4_24 μ_25 = some x → V Y l E lvC 5 (rBu x) 114 [(1, .ref (E.1 20 g_21)), (2, .ref (E.1 20 g_22)), (3, .int a3_23), (4, .int a4_24)] [] μ_25 := by
  intro n
  induction n with
  | zero =>
    intro a3_23 a4_24 μ_25 x h
    simp [f_X4_reshape_L114] at h
  | succ n ih =>
    intro a3_23 a4_24 μ_25 x h
    rw [f_X4_reshape_L114] at h
    refine V_iload C dX4_reshape_114 3 rfl ?_
    refine V_aload_n C 2 dX4_reshape_116 rfl 1 rfl ?_
    refine V_getf (v := .int (μ_25 20 g_22 3)) C 20 g_22 (gr_0in g_22 hg_22) fl_RX4_18 rfl rfl dX4_reshape_117 ?_
    refine V_icmp_ge C (tgt := 160) dX4_reshape_120 (by decide) (fun hc => ?_) (fun hc => ?_)
    · replace h := (if_pos hc).symm.trans h
      refine V_sub (LP := []) [] rfl ?_
      exact hκ _ _ h
    · replace h := (if_neg hc).symm.trans h
      refine V_aload_n C 2 dX4_reshape_123 rfl 1 rfl ?_
      refine V_getf (v := .ref (E.1 22 g_22)) C 20 g_22 (gr_0in g_22 hg_22) fl_RX4_28 rfl rfl dX4_reshape_124 ?_
      refine V_iload C dX4_reshape_127 3 rfl ?_
      refine V_aload_n C 1 dX4_reshape_129 rfl 0 rfl ?_
      refine V_getf (v := .ref (E.1 22 g_21)) C 20 g_21 (gr_0in g_21 hg_21) fl_RX4_28 rfl rfl dX4_reshape_130 ?_
      refine V_iload_n C 3 dX4_reshape_133 rfl 2 rfl ?_
      obtain ⟨hi9, h⟩ := gd_inv h
      refine V_iald C 22 g_21 (gr_2in g_21 hg_21) (fun _ => rfl) (inb_in hi9) dX4_reshape_134 ?_
      obtain ⟨hi9, h⟩ := gd_inv h
      refine V_iast C 22 g_22 (gr_2in g_22 hg_22) (fun _ => rfl) (inb_in hi9) dX4_reshape_135 ?_
      refine V_memn (fun μ_26 hn9 => ?_)
      replace h := lt_eq hn9 h; clear hn9
      refine V_iload_n C 3 dX4_reshape_136 rfl 2 rfl ?_
      refine V_iconst C (1 : Int32) dX4_reshape_137 (by decide) ?_
      refine V_iadd C dX4_reshape_138 ?_
      refine V_aload_n C 1 dX4_reshape_139 rfl 0 rfl ?_
      refine V_getf (v := .int (μ_26 20 g_21 3)) C 20 g_21 (gr_0in g_21 hg_21) fl_RX4_18 rfl rfl dX4_reshape_140 ?_
      obtain ⟨j_28, hj_28, h⟩ := jn_ex h
      have J_28 : ∀ (s_27 : Int32) x, j_28 s_27 = some x → V Y l E lvC 5 (rBu x) 153 [(1, .ref (E.1 20 g_21)), (2, .ref (E.1 20 g_22)), (4, .int a4_24)] [.int s_27] μ_26 := by
        intro s_27  x h
        rw [hj_28] at h; clear hj_28
        refine V_istore_n (L' := [(1, .ref (E.1 20 g_21)), (2, .ref (E.1 20 g_22)), (3, .int s_27), (4, .int a4_24)]) C 3 dX4_reshape_153 rfl (by decide) [1, 2, 0, 3] rfl ?_
        obtain ⟨x_29, hn9⟩ : ∃ z : Int32, z = a4_24 + (1 : Int32) := ⟨_, rfl⟩
        replace h := lt_eq hn9 h
        refine V_iinc (L' := [(1, .ref (E.1 20 g_21)), (2, .ref (E.1 20 g_22)), (3, .int s_27), (4, .int x_29)]) C x_29 dX4_reshape_154 3 rfl (by rw [hn9]; exact congrArg (a4_24 + ·) (by decide)) (by decide) [1, 2, 3, 0] rfl ?_
        clear hn9
        refine V_goto C (tgt := 114) dX4_reshape_157 (by decide) ?_
        refine V_sub (LP := [(1, .ref (E.1 20 g_21)), (2, .ref (E.1 20 g_22)), (3, .int s_27), (4, .int x_29)]) [0, 1, 2, 3] rfl ?_
        exact ih _ _ _ h
      clear hj_28
      refine V_icmp_ne C (tgt := 150) dX4_reshape_143 (by decide) (fun hc => ?_) (fun hc => ?_)
      · replace h := (if_neg hc).symm.trans h
        refine V_iload_n C 3 dX4_reshape_150 rfl 2 rfl ?_
        refine V_iconst C (1 : Int32) dX4_reshape_151 (by decide) ?_
        refine V_iadd C dX4_reshape_152 ?_
        refine V_sub (LP := [(1, .ref (E.1 20 g_21)), (2, .ref (E.1 20 g_22)), (4, .int a4_24)]) [0, 1, 3] rfl ?_
        exact J_28 _ _ h
      · replace h := (if_pos hc).symm.trans h
        refine V_iconst C (0 : Int32) dX4_reshape_146 (by decide) ?_
        refine V_goto C (tgt := 153) dX4_reshape_147 (by decide) ?_
        refine V_sub (LP := [(1, .ref (E.1 20 g_21)), (2, .ref (E.1 20 g_22)), (4, .int a4_24)]) [0, 1, 3] rfl ?_
        exact J_28 _ _ h
set_option maxHeartbeats 4000000 in
set_option maxRecDepth 100000 in
theorem con_X4_reshape {l : Launch} {E : WE} (hl : l.stackTraces = false) (g0 : Nat) (g1 : Nat) (g2 : Nat) (hg0 : g0 < 18) (hg1 : g1 < 18) (hg2 : g2 < 18) {μ : Mem} {x} (h : f_X4_reshape g0 g1 g2 μ = some x) : Con l E lvC yX4_reshape cX4_reshape 5 none 1 [.ref (E.1 20 g0), .ref (E.1 20 g1), .ref (E.1 20 g2)] μ (rBu x) := by
  refine Con.of (by decide) hl (Nat.le_of_ble_eq_true rfl) (fun Y C => ?_)
  replace C : Ok Y l E lvC 5 RX4 cX4_reshape none 1 := C
  show V Y l E lvC 5 (rBu x) 0 [(0, .ref (E.1 20 g0)), (1, .ref (E.1 20 g1)), (2, .ref (E.1 20 g2))] [] μ
  unfold f_X4_reshape at h
  refine V_aload_n C 0 dX4_reshape_0 rfl 0 rfl ?_
  refine V_getf (v := .int (μ 20 g0 2)) C 20 g0 (gr_0in g0 hg0) fl_RX4_54 rfl rfl dX4_reshape_1 ?_
  refine V_iconst C (1 : Int32) dX4_reshape_4 (by decide) ?_
  refine V_icmp_gt C (tgt := 16) dX4_reshape_5 (by decide) (fun hc => ?_) (fun hc => ?_)
  · replace h := (if_pos hc).symm.trans h
    cases h
    exact V_throw C 4 th_RX4_57 rfl (Nat.le_of_ble_eq_true rfl) dX4_reshape_16 dX4_reshape_19 dX4_reshape_20 dX4_reshape_23
  · replace h := (if_neg hc).symm.trans h
    refine V_aload_n C 0 dX4_reshape_8 rfl 0 rfl ?_
    refine V_getf (v := .int (μ 20 g0 3)) C 20 g0 (gr_0in g0 hg0) fl_RX4_18 rfl rfl dX4_reshape_9 ?_
    refine V_iconst C (3 : Int32) dX4_reshape_12 (by decide) ?_
    refine V_icmp_le C (tgt := 24) dX4_reshape_13 (by decide) (fun hc => ?_) (fun hc => ?_)
    · replace h := (if_pos hc).symm.trans h
      refine V_iconst C (0 : Int32) dX4_reshape_24 (by decide) ?_
      refine V_istore_n (L' := [(0, .ref (E.1 20 g0)), (1, .ref (E.1 20 g1)), (2, .ref (E.1 20 g2)), (3, .int (0 : Int32))]) C 3 dX4_reshape_25 rfl (by decide) [1, 2, 3, 0] rfl ?_
      refine V_sub (LP := [(0, .ref (E.1 20 g0)), (1, .ref (E.1 20 g1)), (2, .ref (E.1 20 g2)), (3, .int (0 : Int32))]) [0, 1, 2, 3] rfl ?_
      refine lp_X4_reshape_26 hl C g0 g1 g2 μ hg0 hg1 hg2 (fun _ x h => ?_) 1000 _ h
      refine V_iconst C (0 : Int32) dX4_reshape_57 (by decide) ?_
      refine V_istore_n (L' := [(0, .ref (E.1 20 g0)), (1, .ref (E.1 20 g1)), (2, .ref (E.1 20 g2)), (3, .int (0 : Int32))]) C 3 dX4_reshape_58 rfl (by decide) [1, 2, 3, 0] rfl ?_
      refine V_sub (LP := [(0, .ref (E.1 20 g0)), (1, .ref (E.1 20 g1)), (2, .ref (E.1 20 g2)), (3, .int (0 : Int32))]) [0, 1, 2, 3] rfl ?_
      refine lp_X4_reshape_59 hl C g0 g1 g2 hg0 hg1 hg2 (fun μ_17 x h => ?_) 1000 _ _ h
      refine V_aload_n C 2 dX4_reshape_83 rfl 1 rfl ?_
      rcases bT_inv h with ⟨e_19, hv, h⟩ | ⟨u_18, hv, h⟩
      · cases h; exact V_callVe C 20 g2 (gr_0in g2 hg2) e_19 (con_X1_endAxes hl g2 hg2 hv) tb_X1_endAxes lk_RX4_77 rfl rfl rfl (by decide) (by decide) rfl (Nat.le_of_ble_eq_true rfl) rfl dX4_reshape_84 rfl
      refine V_callVo C 20 g2 (gr_0in g2 hg2) none (con_X1_endAxes hl g2 hg2 hv) tb_X1_endAxes lk_RX4_77 rfl rfl rfl (by decide) (by decide) rfl (Nat.le_of_ble_eq_true rfl) rfl dX4_reshape_84 rfl ?_
      clear hv
      refine V_aload_n C 1 dX4_reshape_87 rfl 0 rfl ?_
      refine V_getf (v := .int (μ_17 20 g1 3)) C 20 g1 (gr_0in g1 hg1) fl_RX4_18 rfl rfl dX4_reshape_88 ?_
      obtain ⟨j_20, hj_20, h⟩ := jn_ex h
      have J_20 : ∀ (_ : Unit) x, j_20 () = some x → V Y l E lvC 5 (rBu x) 109 [(1, .ref (E.1 20 g1)), (2, .ref (E.1 20 g2))] [] μ_17 := by
        intro _  x h
        rw [hj_20] at h; clear hj_20
        refine V_iconst C (0 : Int32) dX4_reshape_109 (by decide) ?_
        refine V_istore_n (L' := [(1, .ref (E.1 20 g1)), (2, .ref (E.1 20 g2)), (3, .int (0 : Int32))]) C 3 dX4_reshape_110 rfl (by decide) [1, 2, 0] rfl ?_
        refine V_iconst C (0 : Int32) dX4_reshape_111 (by decide) ?_
        refine V_istore (L' := [(1, .ref (E.1 20 g1)), (2, .ref (E.1 20 g2)), (3, .int (0 : Int32)), (4, .int (0 : Int32))]) C dX4_reshape_112 (by decide) [1, 2, 3, 0] rfl ?_
        refine V_sub (LP := [(1, .ref (E.1 20 g1)), (2, .ref (E.1 20 g2)), (3, .int (0 : Int32)), (4, .int (0 : Int32))]) [0, 1, 2, 3] rfl ?_
        refine lp_X4_reshape_114 hl C g1 g2 hg1 hg2 (fun μ_31 x h => ?_) 1000 _ _ _ h
        cases h
        exact V_return C rfl rfl dX4_reshape_160
      clear hj_20
      refine V_if_ne C (tgt := 109) dX4_reshape_91 (by decide) (fun hc => ?_) (fun hc => ?_)
      · replace h := (if_neg hc).symm.trans h
        refine V_sub (LP := [(1, .ref (E.1 20 g1)), (2, .ref (E.1 20 g2))]) [0, 1] rfl ?_
        exact J_20 () _ h
      · replace h := (if_pos hc).symm.trans h
        refine V_aload_n C 2 dX4_reshape_94 rfl 1 rfl ?_
        refine V_getf (v := .int (μ_17 20 g2 3)) C 20 g2 (gr_0in g2 hg2) fl_RX4_18 rfl rfl dX4_reshape_95 ?_
        refine V_if_le C (tgt := 109) dX4_reshape_98 (by decide) (fun hc => ?_) (fun hc => ?_)
        · replace h := (if_pos hc).symm.trans h
          refine V_sub (LP := [(1, .ref (E.1 20 g1)), (2, .ref (E.1 20 g2))]) [0, 1] rfl ?_
          exact J_20 () _ h
        · replace h := (if_neg hc).symm.trans h
          cases h
          exact V_throw C 3 th_RX4_60 rfl (Nat.le_of_ble_eq_true rfl) dX4_reshape_101 dX4_reshape_104 dX4_reshape_105 dX4_reshape_108
    · replace h := (if_neg hc).symm.trans h
      cases h
      exact V_throw C 4 th_RX4_57 rfl (Nat.le_of_ble_eq_true rfl) dX4_reshape_16 dX4_reshape_19 dX4_reshape_20 dX4_reshape_23
set_option maxHeartbeats 4000000 in
set_option maxRecDepth 100000 in
theorem lp_X4_needJoinable_45 {Y : Mc} {l : Launch} {E : WE} (hl : l.stackTraces = false) (C : Ok Y l E lvC 4 RX4 cX4_needJoinable none 1) {κ : Unit → Option (Except Nat Unit)} (g_3 : Nat) (g_4 : Nat) (c2_5 : Int32) (μ_7 : Mem) (hg_3 : g_3 < 18) (hg_4 : g_4 < 18) (hκ : ∀ (_ : Unit) x, κ () = some x → V Y l E lvC 4 (rTu x μ_7) 81 [] [] μ_7) : ∀ (n : Nat) (a3_6 : Int32) {x}, f_X4_needJoinable_L45 κ g_3 g_4 c2_5 μ_7 n a3_6 = some x → V Y l E lvC 4 (rTu x μ_7) 45 [(0, .ref (E.1 20 g_3)), (1, .ref (E.1 20 g_4)), (2, .int c2_5), (3, .int a3_6)] [] μ_7 := by
  intro n
  induction n with
  | zero =>
    intro a3_6 x h
    simp [f_X4_needJoinable_L45] at h
  | succ n ih =>
    intro a3_6 x h
    rw [f_X4_needJoinable_L45] at h
    refine V_iload_n C 3 dX4_needJoinable_45 rfl 3 rfl ?_
    refine V_iload_n C 2 dX4_needJoinable_46 rfl 2 rfl ?_
    refine V_iconst C (1 : Int32) dX4_needJoinable_47 (by decide) ?_
    refine V_isub C dX4_needJoinable_48 ?_
    refine V_icmp_ge C (tgt := 81) dX4_needJoinable_49 (by decide) (fun hc => ?_) (fun hc => ?_)
    · replace h := (if_pos hc).symm.trans h
      refine V_sub (LP := []) [] rfl ?_
      exact hκ () _ h
    · replace h := (if_neg hc).symm.trans h
      refine V_aload_n C 0 dX4_needJoinable_52 rfl 0 rfl ?_
      refine V_getf (v := .ref (E.1 21 g_3)) C 20 g_3 (gr_0in g_3 hg_3) fl_RX4_66 rfl rfl dX4_needJoinable_53 ?_
      refine V_iload_n C 3 dX4_needJoinable_56 rfl 3 rfl ?_
      obtain ⟨hi9, h⟩ := gd_inv h
      refine V_iald C 21 g_3 (gr_1in g_3 hg_3) (fun _ => rfl) (inb_in hi9) dX4_needJoinable_57 ?_
      refine V_aload_n C 1 dX4_needJoinable_58 rfl 1 rfl ?_
      refine V_getf (v := .ref (E.1 21 g_4)) C 20 g_4 (gr_0in g_4 hg_4) fl_RX4_66 rfl rfl dX4_needJoinable_59 ?_
      refine V_iload_n C 3 dX4_needJoinable_62 rfl 3 rfl ?_
      obtain ⟨hi9, h⟩ := gd_inv h
      refine V_iald C 21 g_4 (gr_1in g_4 hg_4) (fun _ => rfl) (inb_in hi9) dX4_needJoinable_63 ?_
      refine V_icmp_eq C (tgt := 75) dX4_needJoinable_64 (by decide) (fun hc => ?_) (fun hc => ?_)
      · replace h := (if_pos hc).symm.trans h
        obtain ⟨x_8, hn9⟩ : ∃ z : Int32, z = a3_6 + (1 : Int32) := ⟨_, rfl⟩
        replace h := lt_eq hn9 h
        refine V_iinc (L' := [(0, .ref (E.1 20 g_3)), (1, .ref (E.1 20 g_4)), (2, .int c2_5), (3, .int x_8)]) C x_8 dX4_needJoinable_75 3 rfl (by rw [hn9]; exact congrArg (a3_6 + ·) (by decide)) (by decide) [1, 2, 3, 0] rfl ?_
        clear hn9
        refine V_goto C (tgt := 45) dX4_needJoinable_78 (by decide) ?_
        refine V_sub (LP := [(0, .ref (E.1 20 g_3)), (1, .ref (E.1 20 g_4)), (2, .int c2_5), (3, .int x_8)]) [0, 1, 2, 3] rfl ?_
        exact ih _ h
      · replace h := (if_neg hc).symm.trans h
        cases h
        exact V_throw C 3 th_RX4_60 rfl (Nat.le_of_ble_eq_true rfl) dX4_needJoinable_67 dX4_needJoinable_70 dX4_needJoinable_71 dX4_needJoinable_74
set_option maxHeartbeats 4000000 in
set_option maxRecDepth 100000 in
theorem con_X4_needJoinable {l : Launch} {E : WE} (hl : l.stackTraces = false) (g0 : Nat) (g1 : Nat) (a2 : Int32) (hg0 : g0 < 18) (hg1 : g1 < 18) {μ : Mem} {x} (h : f_X4_needJoinable g0 g1 a2 μ = some x) : Con l E lvC yX4_needJoinable cX4_needJoinable 4 none 1 [.ref (E.1 20 g0), .ref (E.1 20 g1), .int a2] μ (rTu x μ) := by
  refine Con.of (by decide) hl (Nat.le_of_ble_eq_true rfl) (fun Y C => ?_)
  replace C : Ok Y l E lvC 4 RX4 cX4_needJoinable none 1 := C
  show V Y l E lvC 4 (rTu x μ) 0 [(0, .ref (E.1 20 g0)), (1, .ref (E.1 20 g1)), (2, .int a2)] [] μ
  unfold f_X4_needJoinable at h
  refine V_aload_n C 0 dX4_needJoinable_0 rfl 0 rfl ?_
  obtain ⟨v_1, hv, h⟩ := bP_inv h
  refine V_callVo C 20 g0 (gr_0in g0 hg0) (some (.int v_1)) (con_X1_isScalar hl g0 hg0 hv) tb_X1_isScalar lk_RX4_98 rfl rfl rfl (by decide) (by decide) rfl (Nat.le_of_ble_eq_true rfl) rfl dX4_needJoinable_1 rfl ?_
  clear hv
  refine V_if_ne C (tgt := 14) dX4_needJoinable_4 (by decide) (fun hc => ?_) (fun hc => ?_)
  · replace h := (if_neg hc).symm.trans h
    cases h
    exact V_return C rfl rfl dX4_needJoinable_14
  · replace h := (if_pos hc).symm.trans h
    refine V_aload_n C 1 dX4_needJoinable_7 rfl 1 rfl ?_
    obtain ⟨v_2, hv, h⟩ := bP_inv h
    refine V_callVo C 20 g1 (gr_0in g1 hg1) (some (.int v_2)) (con_X1_isScalar hl g1 hg1 hv) tb_X1_isScalar lk_RX4_98 rfl rfl rfl (by decide) (by decide) rfl (Nat.le_of_ble_eq_true rfl) rfl dX4_needJoinable_8 rfl ?_
    clear hv
    refine V_if_eq C (tgt := 15) dX4_needJoinable_11 (by decide) (fun hc => ?_) (fun hc => ?_)
    · replace h := (if_pos hc).symm.trans h
      refine V_aload_n C 0 dX4_needJoinable_15 rfl 0 rfl ?_
      refine V_getf (v := .int (μ 20 g0 2)) C 20 g0 (gr_0in g0 hg0) fl_RX4_54 rfl rfl dX4_needJoinable_16 ?_
      refine V_iload_n C 2 dX4_needJoinable_19 rfl 2 rfl ?_
      refine V_iconst C (1 : Int32) dX4_needJoinable_20 (by decide) ?_
      refine V_isub C dX4_needJoinable_21 ?_
      refine V_icmp_lt C (tgt := 35) dX4_needJoinable_22 (by decide) (fun hc => ?_) (fun hc => ?_)
      · replace h := (if_pos hc).symm.trans h
        cases h
        exact V_throw C 4 th_RX4_57 rfl (Nat.le_of_ble_eq_true rfl) dX4_needJoinable_35 dX4_needJoinable_38 dX4_needJoinable_39 dX4_needJoinable_42
      · replace h := (if_neg hc).symm.trans h
        refine V_aload_n C 1 dX4_needJoinable_25 rfl 1 rfl ?_
        refine V_getf (v := .int (μ 20 g1 2)) C 20 g1 (gr_0in g1 hg1) fl_RX4_54 rfl rfl dX4_needJoinable_26 ?_
        refine V_iload_n C 2 dX4_needJoinable_29 rfl 2 rfl ?_
        refine V_iconst C (1 : Int32) dX4_needJoinable_30 (by decide) ?_
        refine V_isub C dX4_needJoinable_31 ?_
        refine V_icmp_ge C (tgt := 43) dX4_needJoinable_32 (by decide) (fun hc => ?_) (fun hc => ?_)
        · replace h := (if_pos hc).symm.trans h
          refine V_iconst C (0 : Int32) dX4_needJoinable_43 (by decide) ?_
          refine V_istore_n (L' := [(0, .ref (E.1 20 g0)), (1, .ref (E.1 20 g1)), (2, .int a2), (3, .int (0 : Int32))]) C 3 dX4_needJoinable_44 rfl (by decide) [1, 2, 3, 0] rfl ?_
          refine V_sub (LP := [(0, .ref (E.1 20 g0)), (1, .ref (E.1 20 g1)), (2, .int a2), (3, .int (0 : Int32))]) [0, 1, 2, 3] rfl ?_
          refine lp_X4_needJoinable_45 hl C g0 g1 a2 μ hg0 hg1 (fun _ x h => ?_) 1000 _ h
          cases h
          exact V_return C rfl rfl dX4_needJoinable_81
        · replace h := (if_neg hc).symm.trans h
          cases h
          exact V_throw C 4 th_RX4_57 rfl (Nat.le_of_ble_eq_true rfl) dX4_needJoinable_35 dX4_needJoinable_38 dX4_needJoinable_39 dX4_needJoinable_42
    · replace h := (if_neg hc).symm.trans h
      cases h
      exact V_return C rfl rfl dX4_needJoinable_14
set_option maxHeartbeats 4000000 in
set_option maxRecDepth 100000 in
theorem con_X1_cellFor {l : Launch} {E : WE} (hl : l.stackTraces = false) (g0 : Nat) (a1 : Int32) (hg0 : g0 < 18) {μ : Mem} {x} (h : f_X1_cellFor g0 a1 μ = some x) : Con l E lvC yX1_cellFor cX1_cellFor 2 (some .int) 0 [.ref (E.1 20 g0), .int a1] μ (rPi x μ) := by
  refine Con.of (by decide) hl (Nat.le_of_ble_eq_true rfl) (fun Y C => ?_)
  replace C : Ok Y l E lvC 2 RX1 cX1_cellFor (some .int) 0 := C
  show V Y l E lvC 2 (rPi x μ) 0 [(0, .ref (E.1 20 g0)), (1, .int a1)] [] μ
  unfold f_X1_cellFor at h
  refine V_aload_n C 0 dX1_cellFor_0 rfl 0 rfl ?_
  refine V_getf (v := .int (μ 20 g0 2)) C 20 g0 (gr_0in g0 hg0) fl_RX1_22 rfl rfl dX1_cellFor_1 ?_
  refine V_if_ne C (tgt := 16) dX1_cellFor_4 (by decide) (fun hc => ?_) (fun hc => ?_)
  · replace h := (if_neg hc).symm.trans h
    refine V_aload_n C 0 dX1_cellFor_16 rfl 0 rfl ?_
    refine V_getf (v := .ref (E.1 22 g0)) C 20 g0 (gr_0in g0 hg0) fl_RX1_15 rfl rfl dX1_cellFor_17 ?_
    refine V_iload_n C 1 dX1_cellFor_20 rfl 1 rfl ?_
    obtain ⟨hi9, h⟩ := gd_inv h
    refine V_iald C 22 g0 (gr_2in g0 hg0) (fun _ => rfl) (inb_in hi9) dX1_cellFor_21 ?_
    cases h
    exact V_ireturn C rfl rfl rfl dX1_cellFor_22
  · replace h := (if_pos hc).symm.trans h
    refine V_aload_n C 0 dX1_cellFor_7 rfl 0 rfl ?_
    refine V_getf (v := .ref (E.1 22 g0)) C 20 g0 (gr_0in g0 hg0) fl_RX1_15 rfl rfl dX1_cellFor_8 ?_
    refine V_iconst C (0 : Int32) dX1_cellFor_11 (by decide) ?_
    obtain ⟨hi9, h⟩ := gd_inv h
    refine V_iald C 22 g0 (gr_2in g0 hg0) (fun _ => rfl) (inb_in hi9) dX1_cellFor_12 ?_
    refine V_goto C (tgt := 22) dX1_cellFor_13 (by decide) ?_
    cases h
    exact V_ireturn C rfl rfl rfl dX1_cellFor_22
set_option maxHeartbeats 4000000 in
set_option maxRecDepth 100000 in
theorem lp_X4_join_108 {Y : Mc} {l : Launch} {E : WE} (hl : l.stackTraces = false) (C : Ok Y l E lvC 11 RX4 cX4_join none 2) {κ : Mem → Option (Except Nat Unit × Mem)} (g_18 : Nat) (g_19 : Nat) (g_20 : Nat) (c5_21 : Int32) (c6_22 : Int32) (hg_18 : g_18 < 18) (hg_19 : g_19 < 18) (hg_20 : g_20 < 18) (hκ : ∀  (μ_41 : Mem) x, κ  μ_41 = some x → V Y l E lvC 11 (rBu x) 187 [] [] μ_41) : ∀ (n : Nat) (a7_23 : Int32) (a8_24 : Int32) (a9_25 : Int32) (a10_26 : Int32) (μ_27 : Mem) {x}, f_X4_join_L108 κ g_18 g_19 g_20 c5_21 c6_22 n a7_23 a8_24 a9_25 a10_26 μ_27 = some x → V Y l E lvC 11 (rBu x) 108 [(0, .ref (E.1 20 g_18)), (1, .ref (E.1 20 g_19)), (2, .ref (E.1 20 g_20)), (5, .int c5_21), (6, .int c6_22), (7, .int a7_23), (8, .int a8_24), (9, .int a9_25), (10, .int a10_26)] [] μ_27 := by
  intro n
  induction n with
  | zero =>
    intro a7_23 a8_24 a9_25 a10_26 μ_27 x h
    simp [f_X4_join_L108] at h
  | succ n ih =>
    intro a7_23 a8_24 a9_25 a10_26 μ_27 x h
    rw [f_X4_join_L108] at h
    refine V_iload C dX4_join_108 8 rfl ?_
    refine V_aload_n C 2 dX4_join_110 rfl 2 rfl ?_
    refine V_getf (v := .int (μ_27 20 g_20 3)) C 20 g_20 (gr_0in g_20 hg_20) fl_RX4_18 rfl rfl dX4_join_111 ?_
    refine V_icmp_ge C (tgt := 187) dX4_join_114 (by decide) (fun hc => ?_) (fun hc => ?_)
    · replace h := (if_pos hc).symm.trans h
      refine V_sub (LP := []) [] rfl ?_
      exact hκ _ _ h
    · replace h := (if_neg hc).symm.trans h
      refine V_iload C dX4_join_117 7 rfl ?_
      refine V_iload C dX4_join_119 3 rfl ?_
      obtain ⟨j_31, hj_31, h⟩ := jn_ex h
      have J_31 : ∀ (a7_28 : Int32) (a8_29 : Int32) (μ_30 : Mem) x, j_31 a7_28 a8_29 μ_30 = some x → V Y l E lvC 11 (rBu x) 159 [(0, .ref (E.1 20 g_18)), (1, .ref (E.1 20 g_19)), (2, .ref (E.1 20 g_20)), (5, .int c5_21), (6, .int c6_22), (7, .int a7_28), (8, .int a8_29), (9, .int a9_25), (10, .int a10_26)] [] μ_30 := by
        intro a7_28 a8_29 μ_30  x h
        rw [hj_31] at h; clear hj_31
        refine V_iload C dX4_join_159 7 rfl ?_
        refine V_iconst C (1 : Int32) dX4_join_161 (by decide) ?_
        refine V_iadd C dX4_join_162 ?_
        refine V_iload C dX4_join_163 3 rfl ?_
        refine V_iload C dX4_join_165 4 rfl ?_
        refine V_iadd C dX4_join_167 ?_
        obtain ⟨j_33, hj_33, h⟩ := jn_ex h
        have J_33 : ∀ (s_32 : Int32) x, j_33 s_32 = some x → V Y l E lvC 11 (rBu x) 179 [(0, .ref (E.1 20 g_18)), (1, .ref (E.1 20 g_19)), (2, .ref (E.1 20 g_20)), (5, .int c5_21), (6, .int c6_22), (7, .int a7_28), (8, .int a8_29), (10, .int a10_26)] [.int s_32] μ_30 := by
          intro s_32  x h
          rw [hj_33] at h; clear hj_33
          refine V_istore (L' := [(0, .ref (E.1 20 g_18)), (1, .ref (E.1 20 g_19)), (2, .ref (E.1 20 g_20)), (5, .int c5_21), (6, .int c6_22), (7, .int a7_28), (8, .int a8_29), (9, .int s_32), (10, .int a10_26)]) C dX4_join_179 (by decide) [1, 2, 3, 4, 5, 6, 7, 0, 8] rfl ?_
          obtain ⟨x_34, hn9⟩ : ∃ z : Int32, z = a10_26 + (1 : Int32) := ⟨_, rfl⟩
          replace h := lt_eq hn9 h
          refine V_iinc (L' := [(0, .ref (E.1 20 g_18)), (1, .ref (E.1 20 g_19)), (2, .ref (E.1 20 g_20)), (5, .int c5_21), (6, .int c6_22), (7, .int a7_28), (8, .int a8_29), (9, .int s_32), (10, .int x_34)]) C x_34 dX4_join_181 8 rfl (by rw [hn9]; exact congrArg (a10_26 + ·) (by decide)) (by decide) [1, 2, 3, 4, 5, 6, 7, 8, 0] rfl ?_
          clear hn9
          refine V_goto C (tgt := 108) dX4_join_184 (by decide) ?_
          refine V_sub (LP := [(0, .ref (E.1 20 g_18)), (1, .ref (E.1 20 g_19)), (2, .ref (E.1 20 g_20)), (5, .int c5_21), (6, .int c6_22), (7, .int a7_28), (8, .int a8_29), (9, .int s_32), (10, .int x_34)]) [0, 1, 2, 3, 4, 5, 6, 7, 8] rfl ?_
          exact ih _ _ _ _ _ h
        clear hj_33
        refine V_icmp_ne C (tgt := 175) dX4_join_168 (by decide) (fun hc => ?_) (fun hc => ?_)
        · replace h := (if_neg hc).symm.trans h
          refine V_iload C dX4_join_175 7 rfl ?_
          refine V_iconst C (1 : Int32) dX4_join_177 (by decide) ?_
          refine V_iadd C dX4_join_178 ?_
          refine V_sub (LP := [(0, .ref (E.1 20 g_18)), (1, .ref (E.1 20 g_19)), (2, .ref (E.1 20 g_20)), (5, .int c5_21), (6, .int c6_22), (7, .int a7_28), (8, .int a8_29), (10, .int a10_26)]) [0, 1, 2, 3, 4, 5, 6, 8] rfl ?_
          exact J_33 _ _ h
        · replace h := (if_pos hc).symm.trans h
          refine V_iconst C (0 : Int32) dX4_join_171 (by decide) ?_
          refine V_goto C (tgt := 179) dX4_join_172 (by decide) ?_
          refine V_sub (LP := [(0, .ref (E.1 20 g_18)), (1, .ref (E.1 20 g_19)), (2, .ref (E.1 20 g_20)), (5, .int c5_21), (6, .int c6_22), (7, .int a7_28), (8, .int a8_29), (10, .int a10_26)]) [0, 1, 2, 3, 4, 5, 6, 8] rfl ?_
          exact J_33 _ _ h
      clear hj_31
      refine V_icmp_ge C (tgt := 143) dX4_join_121 (by decide) (fun hc => ?_) (fun hc => ?_)
      · replace h := (if_pos hc).symm.trans h
        refine V_aload_n C 2 dX4_join_143 rfl 2 rfl ?_
        refine V_getf (v := .ref (E.1 22 g_20)) C 20 g_20 (gr_0in g_20 hg_20) fl_RX4_28 rfl rfl dX4_join_144 ?_
        refine V_iload C dX4_join_147 8 rfl ?_
        refine V_aload_n C 1 dX4_join_149 rfl 1 rfl ?_
        refine V_iload C dX4_join_150 6 rfl ?_
        obtain ⟨v_35, hv, h⟩ := bP_inv h
        refine V_callVo C 20 g_19 (gr_0in g_19 hg_19) (some (.int v_35)) (con_X1_cellFor hl g_19 a8_24 hg_19 hv) tb_X1_cellFor lk_RX4_94 rfl rfl rfl (by decide) (by decide) rfl (Nat.le_of_ble_eq_true rfl) rfl dX4_join_152 rfl ?_
        clear hv
        obtain ⟨hi9, h⟩ := gd_inv h
        refine V_iast C 22 g_20 (gr_2in g_20 hg_20) (fun _ => rfl) (inb_in hi9) dX4_join_155 ?_
        refine V_memn (fun μ_36 hn9 => ?_)
        replace h := lt_eq hn9 h; clear hn9
        obtain ⟨x_37, hn9⟩ : ∃ z : Int32, z = a8_24 + (1 : Int32) := ⟨_, rfl⟩
        replace h := lt_eq hn9 h
        refine V_iinc (L' := [(0, .ref (E.1 20 g_18)), (1, .ref (E.1 20 g_19)), (2, .ref (E.1 20 g_20)), (5, .int c5_21), (6, .int c6_22), (7, .int a7_23), (8, .int x_37), (9, .int a9_25), (10, .int a10_26)]) C x_37 dX4_join_156 6 rfl (by rw [hn9]; exact congrArg (a8_24 + ·) (by decide)) (by decide) [1, 2, 3, 4, 5, 6, 0, 7, 8] rfl ?_
        clear hn9
        refine V_sub (LP := [(0, .ref (E.1 20 g_18)), (1, .ref (E.1 20 g_19)), (2, .ref (E.1 20 g_20)), (5, .int c5_21), (6, .int c6_22), (7, .int a7_23), (8, .int x_37), (9, .int a9_25), (10, .int a10_26)]) [0, 1, 2, 3, 4, 5, 6, 7, 8] rfl ?_
        exact J_31 _ _ _ _ h
      · replace h := (if_neg hc).symm.trans h
        refine V_aload_n C 2 dX4_join_124 rfl 2 rfl ?_
        refine V_getf (v := .ref (E.1 22 g_20)) C 20 g_20 (gr_0in g_20 hg_20) fl_RX4_28 rfl rfl dX4_join_125 ?_
        refine V_iload C dX4_join_128 8 rfl ?_
        refine V_aload_n C 0 dX4_join_130 rfl 0 rfl ?_
        refine V_iload C dX4_join_131 5 rfl ?_
        obtain ⟨v_38, hv, h⟩ := bP_inv h
        refine V_callVo C 20 g_18 (gr_0in g_18 hg_18) (some (.int v_38)) (con_X1_cellFor hl g_18 a7_23 hg_18 hv) tb_X1_cellFor lk_RX4_94 rfl rfl rfl (by decide) (by decide) rfl (Nat.le_of_ble_eq_true rfl) rfl dX4_join_133 rfl ?_
        clear hv
        obtain ⟨hi9, h⟩ := gd_inv h
        refine V_iast C 22 g_20 (gr_2in g_20 hg_20) (fun _ => rfl) (inb_in hi9) dX4_join_136 ?_
        refine V_memn (fun μ_39 hn9 => ?_)
        replace h := lt_eq hn9 h; clear hn9
        obtain ⟨x_40, hn9⟩ : ∃ z : Int32, z = a7_23 + (1 : Int32) := ⟨_, rfl⟩
        replace h := lt_eq hn9 h
        refine V_iinc (L' := [(0, .ref (E.1 20 g_18)), (1, .ref (E.1 20 g_19)), (2, .ref (E.1 20 g_20)), (5, .int c5_21), (6, .int c6_22), (7, .int x_40), (8, .int a8_24), (9, .int a9_25), (10, .int a10_26)]) C x_40 dX4_join_137 5 rfl (by rw [hn9]; exact congrArg (a7_23 + ·) (by decide)) (by decide) [1, 2, 3, 4, 5, 0, 6, 7, 8] rfl ?_
        clear hn9
        refine V_goto C (tgt := 159) dX4_join_140 (by decide) ?_
        refine V_sub (LP := [(0, .ref (E.1 20 g_18)), (1, .ref (E.1 20 g_19)), (2, .ref (E.1 20 g_20)), (5, .int c5_21), (6, .int c6_22), (7, .int x_40), (8, .int a8_24), (9, .int a9_25), (10, .int a10_26)]) [0, 1, 2, 3, 4, 5, 6, 7, 8] rfl ?_
        exact J_31 _ _ _ _ h
set_option maxHeartbeats 4000000 in
set_option maxRecDepth 100000 in
theorem con_X4_join {l : Launch} {E : WE} (hl : l.stackTraces = false) (g0 : Nat) (g1 : Nat) (g2 : Nat) (hg0 : g0 < 18) (hg1 : g1 < 18) (hg2 : g2 < 18) {μ : Mem} {x} (h : f_X4_join g0 g1 g2 μ = some x) : Con l E lvC yX4_join cX4_join 11 none 2 [.ref (E.1 20 g0), .ref (E.1 20 g1), .ref (E.1 20 g2)] μ (rBu x) := by
  refine Con.of (by decide) hl (Nat.le_of_ble_eq_true rfl) (fun Y C => ?_)
  replace C : Ok Y l E lvC 11 RX4 cX4_join none 2 := C
  show V Y l E lvC 11 (rBu x) 0 [(0, .ref (E.1 20 g0)), (1, .ref (E.1 20 g1)), (2, .ref (E.1 20 g2))] [] μ
  unfold f_X4_join at h
  refine V_iconst C (1 : Int32) dX4_join_0 (by decide) ?_
  refine V_aload_n C 0 dX4_join_1 rfl 0 rfl ?_
  refine V_getf (v := .int (μ 20 g0 2)) C 20 g0 (gr_0in g0 hg0) fl_RX4_54 rfl rfl dX4_join_2 ?_
  refine V_aload_n C 1 dX4_join_5 rfl 1 rfl ?_
  refine V_getf (v := .int (μ 20 g1 2)) C 20 g1 (gr_0in g1 hg1) fl_RX4_54 rfl rfl dX4_join_6 ?_
  refine V_mmax C lk_RX4_80 w_max1 w_math w_max2 (Nat.le_of_ble_eq_true rfl) dX4_join_9 ?_
  refine V_mmax C lk_RX4_80 w_max1 w_math w_max2 (Nat.le_of_ble_eq_true rfl) dX4_join_12 ?_
  refine V_topi (fun x_1 hn9 => ?_)
  replace h := lt_eq hn9 h; clear hn9
  refine V_istore_n (L' := [(0, .ref (E.1 20 g0)), (1, .ref (E.1 20 g1)), (2, .ref (E.1 20 g2)), (3, .int x_1)]) C 3 dX4_join_15 rfl (by decide) [1, 2, 3, 0] rfl ?_
  refine V_aload_n C 0 dX4_join_16 rfl 0 rfl ?_
  refine V_getf (v := .int (μ 20 g0 2)) C 20 g0 (gr_0in g0 hg0) fl_RX4_54 rfl rfl dX4_join_17 ?_
  refine V_iload_n C 3 dX4_join_20 rfl 3 rfl ?_
  obtain ⟨j_3, hj_3, h⟩ := jn_ex h
  have J_3 : ∀ (g_2 : Nat) (_ : g_2 < 18) x, j_3 g_2 = some x → V Y l E lvC 11 (rBu x) 29 [(0, .ref (E.1 20 g0)), (1, .ref (E.1 20 g1)), (2, .ref (E.1 20 g2)), (3, .int x_1)] [.ref (E.1 20 g_2)] μ := by
    intro g_2 hg_2 x h
    rw [hj_3] at h; clear hj_3
    refine V_astore (L' := [(0, .ref (E.1 20 g0)), (1, .ref (E.1 20 g1)), (2, .ref (E.1 20 g2)), (3, .int x_1), (4, .ref (E.1 20 g_2))]) C dX4_join_29 (by decide) [1, 2, 3, 4, 0] rfl ?_
    refine V_aload_n C 0 dX4_join_31 rfl 0 rfl ?_
    refine V_aload_n C 1 dX4_join_32 rfl 1 rfl ?_
    refine V_iload_n C 3 dX4_join_33 rfl 3 rfl ?_
    rcases bT_inv h with ⟨e_5, hv, h⟩ | ⟨u_4, hv, h⟩
    · cases h; exact V_callSe C e_5 (con_X4_needJoinable hl g0 g1 x_1 hg0 hg1 hv) tb_X4_needJoinable lk_RX4_86 (by decide) (by decide) rfl (Nat.le_of_ble_eq_true rfl) rfl dX4_join_34 rfl
    refine V_callSo C none (con_X4_needJoinable hl g0 g1 x_1 hg0 hg1 hv) tb_X4_needJoinable lk_RX4_86 (by decide) (by decide) rfl (Nat.le_of_ble_eq_true rfl) rfl dX4_join_34 rfl ?_
    clear hv
    refine V_aload_n C 0 dX4_join_37 rfl 0 rfl ?_
    refine V_getf (v := .int (μ 20 g0 2)) C 20 g0 (gr_0in g0 hg0) fl_RX4_54 rfl rfl dX4_join_38 ?_
    refine V_iload_n C 3 dX4_join_41 rfl 3 rfl ?_
    obtain ⟨j_7, hj_7, h⟩ := jn_ex h
    have J_7 : ∀ (s_6 : Int32) x, j_7 s_6 = some x → V Y l E lvC 11 (rBu x) 53 [(0, .ref (E.1 20 g0)), (1, .ref (E.1 20 g1)), (2, .ref (E.1 20 g2)), (3, .int x_1), (4, .ref (E.1 20 g_2))] [.int s_6] μ := by
      intro s_6  x h
      rw [hj_7] at h; clear hj_7
      refine V_istore (L' := [(0, .ref (E.1 20 g0)), (1, .ref (E.1 20 g1)), (2, .ref (E.1 20 g2)), (3, .int x_1), (4, .ref (E.1 20 g_2)), (5, .int s_6)]) C dX4_join_53 (by decide) [1, 2, 3, 4, 5, 0] rfl ?_
      refine V_aload_n C 1 dX4_join_55 rfl 1 rfl ?_
      refine V_getf (v := .int (μ 20 g1 2)) C 20 g1 (gr_0in g1 hg1) fl_RX4_54 rfl rfl dX4_join_56 ?_
      refine V_iload_n C 3 dX4_join_59 rfl 3 rfl ?_
      obtain ⟨j_9, hj_9, h⟩ := jn_ex h
      have J_9 : ∀ (s_8 : Int32) x, j_9 s_8 = some x → V Y l E lvC 11 (rBu x) 71 [(0, .ref (E.1 20 g0)), (1, .ref (E.1 20 g1)), (2, .ref (E.1 20 g2)), (3, .int x_1), (4, .ref (E.1 20 g_2)), (5, .int s_6)] [.int s_8] μ := by
        intro s_8  x h
        rw [hj_9] at h; clear hj_9
        refine V_istore (L' := [(0, .ref (E.1 20 g0)), (1, .ref (E.1 20 g1)), (2, .ref (E.1 20 g2)), (3, .int x_1), (4, .ref (E.1 20 g_2)), (5, .int s_6), (6, .int s_8)]) C dX4_join_71 (by decide) [1, 2, 3, 4, 5, 6, 0] rfl ?_
        refine V_aload_n C 2 dX4_join_73 rfl 2 rfl ?_
        refine V_aload C dX4_join_74 4 rfl ?_
        refine V_iconst C (0 : Int32) dX4_join_76 (by decide) ?_
        refine V_iload_n C 3 dX4_join_77 rfl 3 rfl ?_
        refine V_iconst C (1 : Int32) dX4_join_78 (by decide) ?_
        refine V_isub C dX4_join_79 ?_
        rcases bB_inv h with ⟨e_12, μ_11, hv, h⟩ | ⟨u_10, μ_11, hv, h⟩
        · cases h; exact V_callVe C 20 g2 (gr_0in g2 hg2) e_12 (con_X1_addAxesOf hl g2 g_2 (0 : Int32) (x_1 - (1 : Int32)) hg2 hg_2 hv) tb_X1_addAxesOf lk_RX4_90 rfl rfl rfl (by decide) (by decide) rfl (Nat.le_of_ble_eq_true rfl) rfl dX4_join_80 rfl
        refine V_callVo C 20 g2 (gr_0in g2 hg2) none (con_X1_addAxesOf hl g2 g_2 (0 : Int32) (x_1 - (1 : Int32)) hg2 hg_2 hv) tb_X1_addAxesOf lk_RX4_90 rfl rfl rfl (by decide) (by decide) rfl (Nat.le_of_ble_eq_true rfl) rfl dX4_join_80 rfl ?_
        clear hv
        refine V_aload_n C 2 dX4_join_83 rfl 2 rfl ?_
        refine V_iload C dX4_join_84 5 rfl ?_
        refine V_iload C dX4_join_86 6 rfl ?_
        refine V_iadd C dX4_join_88 ?_
        rcases bB_inv h with ⟨e_15, μ_14, hv, h⟩ | ⟨u_13, μ_14, hv, h⟩
        · cases h; exact V_callVe C 20 g2 (gr_0in g2 hg2) e_15 (con_X1_addAxis hl g2 (s_6 + s_8) hg2 hv) tb_X1_addAxis lk_RX4_24 rfl rfl rfl (by decide) (by decide) rfl (Nat.le_of_ble_eq_true rfl) rfl dX4_join_89 rfl
        refine V_callVo C 20 g2 (gr_0in g2 hg2) none (con_X1_addAxis hl g2 (s_6 + s_8) hg2 hv) tb_X1_addAxis lk_RX4_24 rfl rfl rfl (by decide) (by decide) rfl (Nat.le_of_ble_eq_true rfl) rfl dX4_join_89 rfl ?_
        clear hv
        refine V_aload_n C 2 dX4_join_92 rfl 2 rfl ?_
        rcases bT_inv h with ⟨e_17, hv, h⟩ | ⟨u_16, hv, h⟩
        · cases h; exact V_callVe C 20 g2 (gr_0in g2 hg2) e_17 (con_X1_endAxes hl g2 hg2 hv) tb_X1_endAxes lk_RX4_77 rfl rfl rfl (by decide) (by decide) rfl (Nat.le_of_ble_eq_true rfl) rfl dX4_join_93 rfl
        refine V_callVo C 20 g2 (gr_0in g2 hg2) none (con_X1_endAxes hl g2 hg2 hv) tb_X1_endAxes lk_RX4_77 rfl rfl rfl (by decide) (by decide) rfl (Nat.le_of_ble_eq_true rfl) rfl dX4_join_93 rfl ?_
        clear hv
        refine V_iconst C (0 : Int32) dX4_join_96 (by decide) ?_
        refine V_istore (L' := [(0, .ref (E.1 20 g0)), (1, .ref (E.1 20 g1)), (2, .ref (E.1 20 g2)), (3, .int x_1), (4, .ref (E.1 20 g_2)), (5, .int s_6), (6, .int s_8), (7, .int (0 : Int32))]) C dX4_join_97 (by decide) [1, 2, 3, 4, 5, 6, 7, 0] rfl ?_
        refine V_iconst C (0 : Int32) dX4_join_99 (by decide) ?_
        refine V_istore (L' := [(0, .ref (E.1 20 g0)), (1, .ref (E.1 20 g1)), (2, .ref (E.1 20 g2)), (3, .int x_1), (4, .ref (E.1 20 g_2)), (5, .int s_6), (6, .int s_8), (7, .int (0 : Int32)), (8, .int (0 : Int32))]) C dX4_join_100 (by decide) [1, 2, 3, 4, 5, 6, 7, 8, 0] rfl ?_
        refine V_iconst C (0 : Int32) dX4_join_102 (by decide) ?_
        refine V_istore (L' := [(0, .ref (E.1 20 g0)), (1, .ref (E.1 20 g1)), (2, .ref (E.1 20 g2)), (3, .int x_1), (4, .ref (E.1 20 g_2)), (5, .int s_6), (6, .int s_8), (7, .int (0 : Int32)), (8, .int (0 : Int32)), (9, .int (0 : Int32))]) C dX4_join_103 (by decide) [1, 2, 3, 4, 5, 6, 7, 8, 9, 0] rfl ?_
        refine V_iconst C (0 : Int32) dX4_join_105 (by decide) ?_
        refine V_istore (L' := [(0, .ref (E.1 20 g0)), (1, .ref (E.1 20 g1)), (2, .ref (E.1 20 g2)), (3, .int x_1), (4, .ref (E.1 20 g_2)), (5, .int s_6), (6, .int s_8), (7, .int (0 : Int32)), (8, .int (0 : Int32)), (9, .int (0 : Int32)), (10, .int (0 : Int32))]) C dX4_join_106 (by decide) [1, 2, 3, 4, 5, 6, 7, 8, 9, 10, 0] rfl ?_
        refine V_sub (LP := [(0, .ref (E.1 20 g0)), (1, .ref (E.1 20 g1)), (2, .ref (E.1 20 g2)), (5, .int s_6), (6, .int s_8), (7, .int (0 : Int32)), (8, .int (0 : Int32)), (9, .int (0 : Int32)), (10, .int (0 : Int32))]) [0, 1, 2, 5, 6, 7, 8, 9, 10] rfl ?_
        refine lp_X4_join_108 hl C g0 g1 g2 s_6 s_8 hg0 hg1 hg2 (fun μ_42 x h => ?_) 1000 _ _ _ _ _ h
        cases h
        exact V_return C rfl rfl dX4_join_187
      clear hj_9
      refine V_icmp_ne C (tgt := 70) dX4_join_60 (by decide) (fun hc => ?_) (fun hc => ?_)
      · replace h := (if_neg hc).symm.trans h
        refine V_iconst C (1 : Int32) dX4_join_70 (by decide) ?_
        refine V_sub (LP := [(0, .ref (E.1 20 g0)), (1, .ref (E.1 20 g1)), (2, .ref (E.1 20 g2)), (3, .int x_1), (4, .ref (E.1 20 g_2)), (5, .int s_6)]) [0, 1, 2, 3, 4, 5] rfl ?_
        exact J_9 _ _ h
      · replace h := (if_pos hc).symm.trans h
        refine V_aload_n C 1 dX4_join_63 rfl 1 rfl ?_
        obtain ⟨v_43, hv, h⟩ := bP_inv h
        refine V_callVo C 20 g1 (gr_0in g1 hg1) (some (.int v_43)) (con_X1_rowLength hl g1 hg1 hv) tb_X1_rowLength lk_RX4_69 rfl rfl rfl (by decide) (by decide) rfl (Nat.le_of_ble_eq_true rfl) rfl dX4_join_64 rfl ?_
        clear hv
        refine V_goto C (tgt := 71) dX4_join_67 (by decide) ?_
        refine V_sub (LP := [(0, .ref (E.1 20 g0)), (1, .ref (E.1 20 g1)), (2, .ref (E.1 20 g2)), (3, .int x_1), (4, .ref (E.1 20 g_2)), (5, .int s_6)]) [0, 1, 2, 3, 4, 5] rfl ?_
        exact J_9 _ _ h
    clear hj_7
    refine V_icmp_ne C (tgt := 52) dX4_join_42 (by decide) (fun hc => ?_) (fun hc => ?_)
    · replace h := (if_neg hc).symm.trans h
      refine V_iconst C (1 : Int32) dX4_join_52 (by decide) ?_
      refine V_sub (LP := [(0, .ref (E.1 20 g0)), (1, .ref (E.1 20 g1)), (2, .ref (E.1 20 g2)), (3, .int x_1), (4, .ref (E.1 20 g_2))]) [0, 1, 2, 3, 4] rfl ?_
      exact J_7 _ _ h
    · replace h := (if_pos hc).symm.trans h
      refine V_aload_n C 0 dX4_join_45 rfl 0 rfl ?_
      obtain ⟨v_44, hv, h⟩ := bP_inv h
      refine V_callVo C 20 g0 (gr_0in g0 hg0) (some (.int v_44)) (con_X1_rowLength hl g0 hg0 hv) tb_X1_rowLength lk_RX4_69 rfl rfl rfl (by decide) (by decide) rfl (Nat.le_of_ble_eq_true rfl) rfl dX4_join_46 rfl ?_
      clear hv
      refine V_goto C (tgt := 53) dX4_join_49 (by decide) ?_
      refine V_sub (LP := [(0, .ref (E.1 20 g0)), (1, .ref (E.1 20 g1)), (2, .ref (E.1 20 g2)), (3, .int x_1), (4, .ref (E.1 20 g_2))]) [0, 1, 2, 3, 4] rfl ?_
      exact J_7 _ _ h
  clear hj_3
  refine V_icmp_ne C (tgt := 28) dX4_join_21 (by decide) (fun hc => ?_) (fun hc => ?_)
  · replace h := (if_neg hc).symm.trans h
    refine V_aload_n C 1 dX4_join_28 rfl 1 rfl ?_
    refine V_sub (LP := [(0, .ref (E.1 20 g0)), (1, .ref (E.1 20 g1)), (2, .ref (E.1 20 g2)), (3, .int x_1)]) [0, 1, 2, 3] rfl ?_
    exact J_3 _ hg1 _ h
  · replace h := (if_pos hc).symm.trans h
    refine V_aload_n C 0 dX4_join_24 rfl 0 rfl ?_
    refine V_goto C (tgt := 29) dX4_join_25 (by decide) ?_
    refine V_sub (LP := [(0, .ref (E.1 20 g0)), (1, .ref (E.1 20 g1)), (2, .ref (E.1 20 g2)), (3, .int x_1)]) [0, 1, 2, 3] rfl ?_
    exact J_3 _ hg0 _ h
set_option maxHeartbeats 4000000 in
set_option maxRecDepth 100000 in
theorem lp_X4_pick_65 {Y : Mc} {l : Launch} {E : WE} (hl : l.stackTraces = false) (C : Ok Y l E lvC 6 RX4 cX4_pick none 2) {κ : Mem → Option (Except Nat Unit × Mem)} (g_11 : Nat) (g_12 : Nat) (g_13 : Nat) (c3_14 : Int32) (hg_11 : g_11 < 18) (hg_12 : g_12 < 18) (hg_13 : g_13 < 18) (hκ : ∀  (μ_20 : Mem) x, κ  μ_20 = some x → V Y l E lvC 6 (rBu x) 133 [] [] μ_20) : ∀ (n : Nat) (a4_15 : Int32) (μ_16 : Mem) {x}, f_X4_pick_L65 κ g_11 g_12 g_13 c3_14 n a4_15 μ_16 = some x → V Y l E lvC 6 (rBu x) 65 [(0, .ref (E.1 20 g_11)), (1, .ref (E.1 20 g_12)), (2, .ref (E.1 20 g_13)), (3, .int c3_14), (4, .int a4_15)] [] μ_16 := by
  intro n
  induction n with
  | zero =>
    intro a4_15 μ_16 x h
    simp [f_X4_pick_L65] at h
  | succ n ih =>
    intro a4_15 μ_16 x h
    rw [f_X4_pick_L65] at h
    refine V_iload C dX4_pick_65 4 rfl ?_
    refine V_aload_n C 0 dX4_pick_67 rfl 0 rfl ?_
    refine V_getf (v := .int (μ_16 20 g_11 3)) C 20 g_11 (gr_0in g_11 hg_11) fl_RX4_18 rfl rfl dX4_pick_68 ?_
    refine V_icmp_ge C (tgt := 133) dX4_pick_71 (by decide) (fun hc => ?_) (fun hc => ?_)
    · replace h := (if_pos hc).symm.trans h
      refine V_sub (LP := []) [] rfl ?_
      exact hκ _ _ h
    · replace h := (if_neg hc).symm.trans h
      refine V_aload_n C 0 dX4_pick_74 rfl 0 rfl ?_
      refine V_getf (v := .ref (E.1 22 g_11)) C 20 g_11 (gr_0in g_11 hg_11) fl_RX4_28 rfl rfl dX4_pick_75 ?_
      refine V_iload C dX4_pick_78 4 rfl ?_
      obtain ⟨hi9, h⟩ := gd_inv h
      refine V_iald C 22 g_11 (gr_2in g_11 hg_11) (fun _ => rfl) (inb_in hi9) dX4_pick_80 ?_
      refine V_topi (fun x_17 hn9 => ?_)
      replace h := lt_eq hn9 h; clear hn9
      refine V_istore (L' := [(0, .ref (E.1 20 g_11)), (1, .ref (E.1 20 g_12)), (2, .ref (E.1 20 g_13)), (3, .int c3_14), (4, .int a4_15), (5, .int x_17)]) C dX4_pick_81 (by decide) [1, 2, 3, 4, 5, 0] rfl ?_
      refine V_iload C dX4_pick_83 5 rfl ?_
      refine V_if_lt C (tgt := 99) dX4_pick_85 (by decide) (fun hc => ?_) (fun hc => ?_)
      · replace h := (if_pos hc).symm.trans h
        cases h
        exact V_throw C 5 th_RX4_105 rfl (Nat.le_of_ble_eq_true rfl) dX4_pick_99 dX4_pick_102 dX4_pick_103 dX4_pick_106
      · replace h := (if_neg hc).symm.trans h
        refine V_iload C dX4_pick_88 5 rfl ?_
        refine V_aload_n C 1 dX4_pick_90 rfl 1 rfl ?_
        refine V_getf (v := .ref (E.1 21 g_12)) C 20 g_12 (gr_0in g_12 hg_12) fl_RX4_66 rfl rfl dX4_pick_91 ?_
        refine V_iconst C (0 : Int32) dX4_pick_94 (by decide) ?_
        obtain ⟨hi9, h⟩ := gd_inv h
        refine V_iald C 21 g_12 (gr_1in g_12 hg_12) (fun _ => rfl) (inb_in hi9) dX4_pick_95 ?_
        refine V_icmp_lt C (tgt := 107) dX4_pick_96 (by decide) (fun hc => ?_) (fun hc => ?_)
        · replace h := (if_pos hc).symm.trans h
          refine V_aload_n C 1 dX4_pick_107 rfl 1 rfl ?_
          refine V_getf (v := .ref (E.1 22 g_12)) C 20 g_12 (gr_0in g_12 hg_12) fl_RX4_28 rfl rfl dX4_pick_108 ?_
          refine V_iload C dX4_pick_111 5 rfl ?_
          refine V_iload_n C 3 dX4_pick_113 rfl 3 rfl ?_
          refine V_imul C dX4_pick_114 ?_
          refine V_aload_n C 2 dX4_pick_115 rfl 2 rfl ?_
          refine V_getf (v := .ref (E.1 22 g_13)) C 20 g_13 (gr_0in g_13 hg_13) fl_RX4_28 rfl rfl dX4_pick_116 ?_
          refine V_iload C dX4_pick_119 4 rfl ?_
          refine V_iload_n C 3 dX4_pick_121 rfl 3 rfl ?_
          refine V_imul C dX4_pick_122 ?_
          refine V_iload_n C 3 dX4_pick_123 rfl 3 rfl ?_
          obtain ⟨hq9, h⟩ := gd_inv h
          obtain ⟨q1, q2, q3, q4, q5⟩ := cpok_g hq9
          refine V_copyi C 22 g_12 22 g_13 (gr_2in g_12 hg_12) (gr_2in g_13 hg_13) (fun _ => rfl) (fun _ => rfl) lk_RX4_32 w_cp1 w_cp2 w_cp3 q1 q2 q3 q4 q5 (Nat.le_of_ble_eq_true rfl) dX4_pick_124 ?_
          refine V_memn (fun μ_18 hn9 => ?_)
          replace h := lt_eq hn9 h; clear hn9
          obtain ⟨x_19, hn9⟩ : ∃ z : Int32, z = a4_15 + (1 : Int32) := ⟨_, rfl⟩
          replace h := lt_eq hn9 h
          refine V_iinc (L' := [(0, .ref (E.1 20 g_11)), (1, .ref (E.1 20 g_12)), (2, .ref (E.1 20 g_13)), (3, .int c3_14), (4, .int x_19), (5, .int x_17)]) C x_19 dX4_pick_127 4 rfl (by rw [hn9]; exact congrArg (a4_15 + ·) (by decide)) (by decide) [1, 2, 3, 4, 0, 5] rfl ?_
          clear hn9
          refine V_goto C (tgt := 65) dX4_pick_130 (by decide) ?_
          refine V_sub (LP := [(0, .ref (E.1 20 g_11)), (1, .ref (E.1 20 g_12)), (2, .ref (E.1 20 g_13)), (3, .int c3_14), (4, .int x_19)]) [0, 1, 2, 3, 4] rfl ?_
          exact ih _ _ h
        · replace h := (if_neg hc).symm.trans h
          cases h
          exact V_throw C 5 th_RX4_105 rfl (Nat.le_of_ble_eq_true rfl) dX4_pick_99 dX4_pick_102 dX4_pick_103 dX4_pick_106
set_option maxHeartbeats 4000000 in
set_option maxRecDepth 100000 in
theorem con_X4_pick {l : Launch} {E : WE} (hl : l.stackTraces = false) (g0 : Nat) (g1 : Nat) (g2 : Nat) (hg0 : g0 < 18) (hg1 : g1 < 18) (hg2 : g2 < 18) {μ : Mem} {x} (h : f_X4_pick g0 g1 g2 μ = some x) : Con l E lvC yX4_pick cX4_pick 6 none 2 [.ref (E.1 20 g0), .ref (E.1 20 g1), .ref (E.1 20 g2)] μ (rBu x) := by
  refine Con.of (by decide) hl (Nat.le_of_ble_eq_true rfl) (fun Y C => ?_)
  replace C : Ok Y l E lvC 6 RX4 cX4_pick none 2 := C
  show V Y l E lvC 6 (rBu x) 0 [(0, .ref (E.1 20 g0)), (1, .ref (E.1 20 g1)), (2, .ref (E.1 20 g2))] [] μ
  unfold f_X4_pick at h
  refine V_aload_n C 1 dX4_pick_0 rfl 1 rfl ?_
  obtain ⟨v_1, hv, h⟩ := bP_inv h
  refine V_callVo C 20 g1 (gr_0in g1 hg1) (some (.int v_1)) (con_X1_isScalar hl g1 hg1 hv) tb_X1_isScalar lk_RX4_98 rfl rfl rfl (by decide) (by decide) rfl (Nat.le_of_ble_eq_true rfl) rfl dX4_pick_1 rfl ?_
  clear hv
  refine V_if_ne C (tgt := 20) dX4_pick_4 (by decide) (fun hc => ?_) (fun hc => ?_)
  · replace h := (if_neg hc).symm.trans h
    cases h
    exact V_throw C 4 th_RX4_57 rfl (Nat.le_of_ble_eq_true rfl) dX4_pick_20 dX4_pick_23 dX4_pick_24 dX4_pick_27
  · replace h := (if_pos hc).symm.trans h
    refine V_aload_n C 0 dX4_pick_7 rfl 0 rfl ?_
    refine V_getf (v := .int (μ 20 g0 2)) C 20 g0 (gr_0in g0 hg0) fl_RX4_54 rfl rfl dX4_pick_8 ?_
    refine V_aload_n C 1 dX4_pick_11 rfl 1 rfl ?_
    refine V_getf (v := .int (μ 20 g1 2)) C 20 g1 (gr_0in g1 hg1) fl_RX4_54 rfl rfl dX4_pick_12 ?_
    refine V_iadd C dX4_pick_15 ?_
    refine V_iconst C (4 : Int32) dX4_pick_16 (by decide) ?_
    refine V_icmp_le C (tgt := 28) dX4_pick_17 (by decide) (fun hc => ?_) (fun hc => ?_)
    · replace h := (if_pos hc).symm.trans h
      refine V_aload_n C 2 dX4_pick_28 rfl 2 rfl ?_
      refine V_aload_n C 0 dX4_pick_29 rfl 0 rfl ?_
      refine V_iconst C (0 : Int32) dX4_pick_30 (by decide) ?_
      refine V_aload_n C 0 dX4_pick_31 rfl 0 rfl ?_
      refine V_getf (v := .int (μ 20 g0 2)) C 20 g0 (gr_0in g0 hg0) fl_RX4_54 rfl rfl dX4_pick_32 ?_
      rcases bB_inv h with ⟨e_4, μ_3, hv, h⟩ | ⟨u_2, μ_3, hv, h⟩
      · cases h; exact V_callVe C 20 g2 (gr_0in g2 hg2) e_4 (con_X1_addAxesOf hl g2 g0 (0 : Int32) (μ 20 g0 2) hg2 hg0 hv) tb_X1_addAxesOf lk_RX4_90 rfl rfl rfl (by decide) (by decide) rfl (Nat.le_of_ble_eq_true rfl) rfl dX4_pick_35 rfl
      refine V_callVo C 20 g2 (gr_0in g2 hg2) none (con_X1_addAxesOf hl g2 g0 (0 : Int32) (μ 20 g0 2) hg2 hg0 hv) tb_X1_addAxesOf lk_RX4_90 rfl rfl rfl (by decide) (by decide) rfl (Nat.le_of_ble_eq_true rfl) rfl dX4_pick_35 rfl ?_
      clear hv
      refine V_aload_n C 2 dX4_pick_38 rfl 2 rfl ?_
      refine V_aload_n C 1 dX4_pick_39 rfl 1 rfl ?_
      refine V_iconst C (1 : Int32) dX4_pick_40 (by decide) ?_
      refine V_aload_n C 1 dX4_pick_41 rfl 1 rfl ?_
      refine V_getf (v := .int (μ_3 20 g1 2)) C 20 g1 (gr_0in g1 hg1) fl_RX4_54 rfl rfl dX4_pick_42 ?_
      rcases bB_inv h with ⟨e_7, μ_6, hv, h⟩ | ⟨u_5, μ_6, hv, h⟩
      · cases h; exact V_callVe C 20 g2 (gr_0in g2 hg2) e_7 (con_X1_addAxesOf hl g2 g1 (1 : Int32) (μ_3 20 g1 2) hg2 hg1 hv) tb_X1_addAxesOf lk_RX4_90 rfl rfl rfl (by decide) (by decide) rfl (Nat.le_of_ble_eq_true rfl) rfl dX4_pick_45 rfl
      refine V_callVo C 20 g2 (gr_0in g2 hg2) none (con_X1_addAxesOf hl g2 g1 (1 : Int32) (μ_3 20 g1 2) hg2 hg1 hv) tb_X1_addAxesOf lk_RX4_90 rfl rfl rfl (by decide) (by decide) rfl (Nat.le_of_ble_eq_true rfl) rfl dX4_pick_45 rfl ?_
      clear hv
      refine V_aload_n C 2 dX4_pick_48 rfl 2 rfl ?_
      rcases bT_inv h with ⟨e_9, hv, h⟩ | ⟨u_8, hv, h⟩
      · cases h; exact V_callVe C 20 g2 (gr_0in g2 hg2) e_9 (con_X1_endAxes hl g2 hg2 hv) tb_X1_endAxes lk_RX4_77 rfl rfl rfl (by decide) (by decide) rfl (Nat.le_of_ble_eq_true rfl) rfl dX4_pick_49 rfl
      refine V_callVo C 20 g2 (gr_0in g2 hg2) none (con_X1_endAxes hl g2 hg2 hv) tb_X1_endAxes lk_RX4_77 rfl rfl rfl (by decide) (by decide) rfl (Nat.le_of_ble_eq_true rfl) rfl dX4_pick_49 rfl ?_
      clear hv
      refine V_aload_n C 1 dX4_pick_52 rfl 1 rfl ?_
      refine V_iconst C (1 : Int32) dX4_pick_53 (by decide) ?_
      refine V_aload_n C 1 dX4_pick_54 rfl 1 rfl ?_
      refine V_getf (v := .int (μ_6 20 g1 2)) C 20 g1 (gr_0in g1 hg1) fl_RX4_54 rfl rfl dX4_pick_55 ?_
      obtain ⟨v_10, hv, h⟩ := bP_inv h
      refine V_callVo C 20 g1 (gr_0in g1 hg1) (some (.int v_10)) (con_X1_span hl g1 (1 : Int32) (μ_6 20 g1 2) hg1 hv) tb_X1_span lk_RX4_102 rfl rfl rfl (by decide) (by decide) rfl (Nat.le_of_ble_eq_true rfl) rfl dX4_pick_58 rfl ?_
      clear hv
      refine V_istore_n (L' := [(0, .ref (E.1 20 g0)), (1, .ref (E.1 20 g1)), (2, .ref (E.1 20 g2)), (3, .int v_10)]) C 3 dX4_pick_61 rfl (by decide) [1, 2, 3, 0] rfl ?_
      refine V_iconst C (0 : Int32) dX4_pick_62 (by decide) ?_
      refine V_istore (L' := [(0, .ref (E.1 20 g0)), (1, .ref (E.1 20 g1)), (2, .ref (E.1 20 g2)), (3, .int v_10), (4, .int (0 : Int32))]) C dX4_pick_63 (by decide) [1, 2, 3, 4, 0] rfl ?_
      refine V_sub (LP := [(0, .ref (E.1 20 g0)), (1, .ref (E.1 20 g1)), (2, .ref (E.1 20 g2)), (3, .int v_10), (4, .int (0 : Int32))]) [0, 1, 2, 3, 4] rfl ?_
      refine lp_X4_pick_65 hl C g0 g1 g2 v_10 hg0 hg1 hg2 (fun μ_21 x h => ?_) 1000 _ _ h
      cases h
      exact V_return C rfl rfl dX4_pick_133
    · replace h := (if_neg hc).symm.trans h
      cases h
      exact V_throw C 4 th_RX4_57 rfl (Nat.le_of_ble_eq_true rfl) dX4_pick_20 dX4_pick_23 dX4_pick_24 dX4_pick_27
set_option maxHeartbeats 4000000 in
set_option maxRecDepth 100000 in
theorem con_X4_ofTwo {l : Launch} {E : WE} (hl : l.stackTraces = false) (a0 : Int32) (g1 : Nat) (g2 : Nat) (g3 : Nat) (hg1 : g1 < 18) (hg2 : g2 < 18) (hg3 : g3 < 18) {μ : Mem} {x} (h : f_X4_ofTwo a0 g1 g2 g3 μ = some x) : Con l E lvC yX4_ofTwo cX4_ofTwo 4 none 3 [.int a0, .ref (E.1 20 g1), .ref (E.1 20 g2), .ref (E.1 20 g3)] μ (rBu x) := by
  refine Con.of (by decide) hl (Nat.le_of_ble_eq_true rfl) (fun Y C => ?_)
  replace C : Ok Y l E lvC 4 RX4 cX4_ofTwo none 3 := C
  show V Y l E lvC 4 (rBu x) 0 [(0, .int a0), (1, .ref (E.1 20 g1)), (2, .ref (E.1 20 g2)), (3, .ref (E.1 20 g3))] [] μ
  unfold f_X4_ofTwo at h
  refine V_iload_n C 0 dX4_ofTwo_0 rfl 0 rfl ?_
  by_cases hk0 : a0 = (44 : Int32)
  · replace h := (if_pos hk0).symm.trans h
    refine V_lookup C (36) 37 dX4_ofTwo_1 (by decide +kernel) (by rw [hk0]; decide +kernel) (by decide) ?_
    refine V_aload_n C 1 dX4_ofTwo_37 rfl 1 rfl ?_
    refine V_aload_n C 2 dX4_ofTwo_38 rfl 2 rfl ?_
    refine V_aload_n C 3 dX4_ofTwo_39 rfl 3 rfl ?_
    rcases bB_inv h with ⟨e_3, μ_2, hv, h⟩ | ⟨u_1, μ_2, hv, h⟩
    · cases h; exact V_callSe C e_3 (con_X4_join hl g1 g2 g3 hg1 hg2 hg3 hv) tb_X4_join lk_RX4_48 (by decide) (by decide) rfl (Nat.le_of_ble_eq_true rfl) rfl dX4_ofTwo_40 rfl
    refine V_callSo C none (con_X4_join hl g1 g2 g3 hg1 hg2 hg3 hv) tb_X4_join lk_RX4_48 (by decide) (by decide) rfl (Nat.le_of_ble_eq_true rfl) rfl dX4_ofTwo_40 rfl ?_
    clear hv
    refine V_goto C (tgt := 52) dX4_ofTwo_43 (by decide) ?_
    cases h
    exact V_return C rfl rfl dX4_ofTwo_52
  replace h := (if_neg hk0).symm.trans h
  by_cases hk1 : a0 = (114 : Int32)
  · replace h := (if_pos hk1).symm.trans h
    refine V_lookup C (27) 28 dX4_ofTwo_1 (by decide +kernel) (by rw [hk1]; decide +kernel) (by decide) ?_
    refine V_aload_n C 1 dX4_ofTwo_28 rfl 1 rfl ?_
    refine V_aload_n C 2 dX4_ofTwo_29 rfl 2 rfl ?_
    refine V_aload_n C 3 dX4_ofTwo_30 rfl 3 rfl ?_
    rcases bB_inv h with ⟨e_6, μ_5, hv, h⟩ | ⟨u_4, μ_5, hv, h⟩
    · cases h; exact V_callSe C e_6 (con_X4_reshape hl g1 g2 g3 hg1 hg2 hg3 hv) tb_X4_reshape lk_RX4_44 (by decide) (by decide) rfl (Nat.le_of_ble_eq_true rfl) rfl dX4_ofTwo_31 rfl
    refine V_callSo C none (con_X4_reshape hl g1 g2 g3 hg1 hg2 hg3 hv) tb_X4_reshape lk_RX4_44 (by decide) (by decide) rfl (Nat.le_of_ble_eq_true rfl) rfl dX4_ofTwo_31 rfl ?_
    clear hv
    refine V_goto C (tgt := 52) dX4_ofTwo_34 (by decide) ?_
    cases h
    exact V_return C rfl rfl dX4_ofTwo_52
  replace h := (if_neg hk1).symm.trans h
  refine V_lookup C (45) 46 dX4_ofTwo_1 (by decide +kernel) ((lv_osw hk0 (by decide +kernel)).trans ((lv_osw hk1 (by decide +kernel)).trans rfl)) (by decide) ?_
  refine V_aload_n C 1 dX4_ofTwo_46 rfl 1 rfl ?_
  refine V_aload_n C 2 dX4_ofTwo_47 rfl 2 rfl ?_
  refine V_aload_n C 3 dX4_ofTwo_48 rfl 3 rfl ?_
  rcases bB_inv h with ⟨e_9, μ_8, hv, h⟩ | ⟨u_7, μ_8, hv, h⟩
  · cases h; exact V_callSe C e_9 (con_X4_pick hl g1 g2 g3 hg1 hg2 hg3 hv) tb_X4_pick lk_RX4_51 (by decide) (by decide) rfl (Nat.le_of_ble_eq_true rfl) rfl dX4_ofTwo_49 rfl
  refine V_callSo C none (con_X4_pick hl g1 g2 g3 hg1 hg2 hg3 hv) tb_X4_pick lk_RX4_51 (by decide) (by decide) rfl (Nat.le_of_ble_eq_true rfl) rfl dX4_ofTwo_49 rfl ?_
  clear hv
  cases h
  exact V_return C rfl rfl dX4_ofTwo_52
set_option maxHeartbeats 4000000 in
set_option maxRecDepth 100000 in
theorem lp_X3_needSameShape_21 {Y : Mc} {l : Launch} {E : WE} (hl : l.stackTraces = false) (C : Ok Y l E lvC 3 RX3 cX3_needSameShape none 0) {κ : Unit → Option (Except Nat Unit)} (g_1 : Nat) (g_2 : Nat) (μ_4 : Mem) (hg_1 : g_1 < 18) (hg_2 : g_2 < 18) (hκ : ∀ (_ : Unit) x, κ () = some x → V Y l E lvC 3 (rTu x μ_4) 58 [] [] μ_4) : ∀ (n : Nat) (a2_3 : Int32) {x}, f_X3_needSameShape_L21 κ g_1 g_2 μ_4 n a2_3 = some x → V Y l E lvC 3 (rTu x μ_4) 21 [(0, .ref (E.1 20 g_1)), (1, .ref (E.1 20 g_2)), (2, .int a2_3)] [] μ_4 := by
  intro n
  induction n with
  | zero =>
    intro a2_3 x h
    simp [f_X3_needSameShape_L21] at h
  | succ n ih =>
    intro a2_3 x h
    rw [f_X3_needSameShape_L21] at h
    refine V_iload_n C 2 dX3_needSameShape_21 rfl 2 rfl ?_
    refine V_aload_n C 0 dX3_needSameShape_22 rfl 0 rfl ?_
    refine V_getf (v := .int (μ_4 20 g_1 2)) C 20 g_1 (gr_0in g_1 hg_1) fl_RX3_81 rfl rfl dX3_needSameShape_23 ?_
    refine V_icmp_ge C (tgt := 58) dX3_needSameShape_26 (by decide) (fun hc => ?_) (fun hc => ?_)
    · replace h := (if_pos hc).symm.trans h
      refine V_sub (LP := []) [] rfl ?_
      exact hκ () _ h
    · replace h := (if_neg hc).symm.trans h
      refine V_aload_n C 0 dX3_needSameShape_29 rfl 0 rfl ?_
      refine V_getf (v := .ref (E.1 21 g_1)) C 20 g_1 (gr_0in g_1 hg_1) fl_RX3_87 rfl rfl dX3_needSameShape_30 ?_
      refine V_iload_n C 2 dX3_needSameShape_33 rfl 2 rfl ?_
      obtain ⟨hi9, h⟩ := gd_inv h
      refine V_iald C 21 g_1 (gr_1in g_1 hg_1) (fun _ => rfl) (inb_in hi9) dX3_needSameShape_34 ?_
      refine V_aload_n C 1 dX3_needSameShape_35 rfl 1 rfl ?_
      refine V_getf (v := .ref (E.1 21 g_2)) C 20 g_2 (gr_0in g_2 hg_2) fl_RX3_87 rfl rfl dX3_needSameShape_36 ?_
      refine V_iload_n C 2 dX3_needSameShape_39 rfl 2 rfl ?_
      obtain ⟨hi9, h⟩ := gd_inv h
      refine V_iald C 21 g_2 (gr_1in g_2 hg_2) (fun _ => rfl) (inb_in hi9) dX3_needSameShape_40 ?_
      refine V_icmp_eq C (tgt := 52) dX3_needSameShape_41 (by decide) (fun hc => ?_) (fun hc => ?_)
      · replace h := (if_pos hc).symm.trans h
        obtain ⟨x_5, hn9⟩ : ∃ z : Int32, z = a2_3 + (1 : Int32) := ⟨_, rfl⟩
        replace h := lt_eq hn9 h
        refine V_iinc (L' := [(0, .ref (E.1 20 g_1)), (1, .ref (E.1 20 g_2)), (2, .int x_5)]) C x_5 dX3_needSameShape_52 2 rfl (by rw [hn9]; exact congrArg (a2_3 + ·) (by decide)) (by decide) [1, 2, 0] rfl ?_
        clear hn9
        refine V_goto C (tgt := 21) dX3_needSameShape_55 (by decide) ?_
        refine V_sub (LP := [(0, .ref (E.1 20 g_1)), (1, .ref (E.1 20 g_2)), (2, .int x_5)]) [0, 1, 2] rfl ?_
        exact ih _ h
      · replace h := (if_neg hc).symm.trans h
        cases h
        exact V_throw C 3 th_RX3_90 rfl (Nat.le_of_ble_eq_true rfl) dX3_needSameShape_44 dX3_needSameShape_47 dX3_needSameShape_48 dX3_needSameShape_51
set_option maxHeartbeats 4000000 in
set_option maxRecDepth 100000 in
theorem con_X3_needSameShape {l : Launch} {E : WE} (hl : l.stackTraces = false) (g0 : Nat) (g1 : Nat) (hg0 : g0 < 18) (hg1 : g1 < 18) {μ : Mem} {x} (h : f_X3_needSameShape g0 g1 μ = some x) : Con l E lvC yX3_needSameShape cX3_needSameShape 3 none 0 [.ref (E.1 20 g0), .ref (E.1 20 g1)] μ (rTu x μ) := by
  refine Con.of (by decide) hl (Nat.le_of_ble_eq_true rfl) (fun Y C => ?_)
  replace C : Ok Y l E lvC 3 RX3 cX3_needSameShape none 0 := C
  show V Y l E lvC 3 (rTu x μ) 0 [(0, .ref (E.1 20 g0)), (1, .ref (E.1 20 g1))] [] μ
  unfold f_X3_needSameShape at h
  refine V_aload_n C 0 dX3_needSameShape_0 rfl 0 rfl ?_
  refine V_getf (v := .int (μ 20 g0 2)) C 20 g0 (gr_0in g0 hg0) fl_RX3_81 rfl rfl dX3_needSameShape_1 ?_
  refine V_aload_n C 1 dX3_needSameShape_4 rfl 1 rfl ?_
  refine V_getf (v := .int (μ 20 g1 2)) C 20 g1 (gr_0in g1 hg1) fl_RX3_81 rfl rfl dX3_needSameShape_5 ?_
  refine V_icmp_eq C (tgt := 19) dX3_needSameShape_8 (by decide) (fun hc => ?_) (fun hc => ?_)
  · replace h := (if_pos hc).symm.trans h
    refine V_iconst C (0 : Int32) dX3_needSameShape_19 (by decide) ?_
    refine V_istore_n (L' := [(0, .ref (E.1 20 g0)), (1, .ref (E.1 20 g1)), (2, .int (0 : Int32))]) C 2 dX3_needSameShape_20 rfl (by decide) [1, 2, 0] rfl ?_
    refine V_sub (LP := [(0, .ref (E.1 20 g0)), (1, .ref (E.1 20 g1)), (2, .int (0 : Int32))]) [0, 1, 2] rfl ?_
    refine lp_X3_needSameShape_21 hl C g0 g1 μ hg0 hg1 (fun _ x h => ?_) 1000 _ h
    cases h
    exact V_return C rfl rfl dX3_needSameShape_58
  · replace h := (if_neg hc).symm.trans h
    cases h
    exact V_throw C 4 th_RX3_84 rfl (Nat.le_of_ble_eq_true rfl) dX3_needSameShape_11 dX3_needSameShape_14 dX3_needSameShape_15 dX3_needSameShape_18
set_option maxHeartbeats 4000000 in
set_option maxRecDepth 100000 in
theorem lp_X3_each_38 {Y : Mc} {l : Launch} {E : WE} (hl : l.stackTraces = false) (C : Ok Y l E lvC 5 RX3 cX3_each none 3) {κ : Mem → Option (Except Nat Unit × Mem)} (c0_9 : Int32) (g_10 : Nat) (g_11 : Nat) (g_12 : Nat) (hg_10 : g_10 < 18) (hg_11 : g_11 < 18) (hg_12 : g_12 < 18) (hκ : ∀  (μ_21 : Mem) x, κ  μ_21 = some x → V Y l E lvC 5 (rBu x) 76 [] [] μ_21) : ∀ (n : Nat) (a4_13 : Int32) (μ_14 : Mem) {x}, f_X3_each_L38 κ c0_9 g_10 g_11 g_12 n a4_13 μ_14 = some x → V Y l E lvC 5 (rBu x) 38 [(0, .int c0_9), (1, .ref (E.1 20 g_10)), (2, .ref (E.1 20 g_11)), (3, .ref (E.1 20 g_12)), (4, .int a4_13)] [] μ_14 := by
  intro n
  induction n with
  | zero =>
    intro a4_13 μ_14 x h
    simp [f_X3_each_L38] at h
  | succ n ih =>
    intro a4_13 μ_14 x h
    rw [f_X3_each_L38] at h
    refine V_iload C dX3_each_38 4 rfl ?_
    refine V_aload_n C 3 dX3_each_40 rfl 3 rfl ?_
    refine V_getf (v := .int (μ_14 20 g_12 3)) C 20 g_12 (gr_0in g_12 hg_12) fl_RX3_57 rfl rfl dX3_each_41 ?_
    refine V_icmp_ge C (tgt := 76) dX3_each_44 (by decide) (fun hc => ?_) (fun hc => ?_)
    · replace h := (if_pos hc).symm.trans h
      refine V_sub (LP := []) [] rfl ?_
      exact hκ _ _ h
    · replace h := (if_neg hc).symm.trans h
      refine V_aload_n C 3 dX3_each_47 rfl 3 rfl ?_
      refine V_getf (v := .ref (E.1 22 g_12)) C 20 g_12 (gr_0in g_12 hg_12) fl_RX3_61 rfl rfl dX3_each_48 ?_
      refine V_iload C dX3_each_51 4 rfl ?_
      refine V_iload_n C 0 dX3_each_53 rfl 0 rfl ?_
      refine V_aload_n C 1 dX3_each_54 rfl 1 rfl ?_
      refine V_iload C dX3_each_55 4 rfl ?_
      obtain ⟨v_15, hv, h⟩ := bP_inv h
      refine V_callVo C 20 g_10 (gr_0in g_10 hg_10) (some (.int v_15)) (con_X1_cellFor hl g_10 a4_13 hg_10 hv) tb_X1_cellFor lk_RX3_77 rfl rfl rfl (by decide) (by decide) rfl (Nat.le_of_ble_eq_true rfl) rfl dX3_each_57 rfl ?_
      clear hv
      refine V_aload_n C 2 dX3_each_60 rfl 2 rfl ?_
      refine V_iload C dX3_each_61 4 rfl ?_
      obtain ⟨v_16, hv, h⟩ := bP_inv h
      refine V_callVo C 20 g_11 (gr_0in g_11 hg_11) (some (.int v_16)) (con_X1_cellFor hl g_11 a4_13 hg_11 hv) tb_X1_cellFor lk_RX3_77 rfl rfl rfl (by decide) (by decide) rfl (Nat.le_of_ble_eq_true rfl) rfl dX3_each_63 rfl ?_
      clear hv
      rcases bT_inv h with ⟨e_18, hv, h⟩ | ⟨v_17, hv, h⟩
      · cases h; exact V_callSe C e_18 (con_X3_work hl c0_9 v_15 v_16 hv) tb_X3_work lk_RX3_47 (by decide) (by decide) rfl (Nat.le_of_ble_eq_true rfl) rfl dX3_each_66 rfl
      refine V_callSo C (some (.int v_17)) (con_X3_work hl c0_9 v_15 v_16 hv) tb_X3_work lk_RX3_47 (by decide) (by decide) rfl (Nat.le_of_ble_eq_true rfl) rfl dX3_each_66 rfl ?_
      clear hv
      obtain ⟨hi9, h⟩ := gd_inv h
      refine V_iast C 22 g_12 (gr_2in g_12 hg_12) (fun _ => rfl) (inb_in hi9) dX3_each_69 ?_
      refine V_memn (fun μ_19 hn9 => ?_)
      replace h := lt_eq hn9 h; clear hn9
      obtain ⟨x_20, hn9⟩ : ∃ z : Int32, z = a4_13 + (1 : Int32) := ⟨_, rfl⟩
      replace h := lt_eq hn9 h
      refine V_iinc (L' := [(0, .int c0_9), (1, .ref (E.1 20 g_10)), (2, .ref (E.1 20 g_11)), (3, .ref (E.1 20 g_12)), (4, .int x_20)]) C x_20 dX3_each_70 4 rfl (by rw [hn9]; exact congrArg (a4_13 + ·) (by decide)) (by decide) [1, 2, 3, 4, 0] rfl ?_
      clear hn9
      refine V_goto C (tgt := 38) dX3_each_73 (by decide) ?_
      refine V_sub (LP := [(0, .int c0_9), (1, .ref (E.1 20 g_10)), (2, .ref (E.1 20 g_11)), (3, .ref (E.1 20 g_12)), (4, .int x_20)]) [0, 1, 2, 3, 4] rfl ?_
      exact ih _ _ h
set_option maxHeartbeats 4000000 in
set_option maxRecDepth 100000 in
theorem con_X3_each {l : Launch} {E : WE} (hl : l.stackTraces = false) (a0 : Int32) (g1 : Nat) (g2 : Nat) (g3 : Nat) (hg1 : g1 < 18) (hg2 : g2 < 18) (hg3 : g3 < 18) {μ : Mem} {x} (h : f_X3_each a0 g1 g2 g3 μ = some x) : Con l E lvC yX3_each cX3_each 5 none 3 [.int a0, .ref (E.1 20 g1), .ref (E.1 20 g2), .ref (E.1 20 g3)] μ (rBu x) := by
  refine Con.of (by decide) hl (Nat.le_of_ble_eq_true rfl) (fun Y C => ?_)
  replace C : Ok Y l E lvC 5 RX3 cX3_each none 3 := C
  show V Y l E lvC 5 (rBu x) 0 [(0, .int a0), (1, .ref (E.1 20 g1)), (2, .ref (E.1 20 g2)), (3, .ref (E.1 20 g3))] [] μ
  unfold f_X3_each at h
  refine V_aload_n C 1 dX3_each_0 rfl 1 rfl ?_
  obtain ⟨v_1, hv, h⟩ := bP_inv h
  refine V_callVo C 20 g1 (gr_0in g1 hg1) (some (.int v_1)) (con_X1_isScalar hl g1 hg1 hv) tb_X1_isScalar lk_RX3_69 rfl rfl rfl (by decide) (by decide) rfl (Nat.le_of_ble_eq_true rfl) rfl dX3_each_1 rfl ?_
  clear hv
  obtain ⟨j_2, hj_2, h⟩ := jn_ex h
  have J_2 : ∀ (_ : Unit) x, j_2 () = some x → V Y l E lvC 5 (rBu x) 19 [(0, .int a0), (1, .ref (E.1 20 g1)), (2, .ref (E.1 20 g2)), (3, .ref (E.1 20 g3))] [] μ := by
    intro _  x h
    rw [hj_2] at h; clear hj_2
    refine V_aload_n C 3 dX3_each_19 rfl 3 rfl ?_
    refine V_aload_n C 1 dX3_each_20 rfl 1 rfl ?_
    obtain ⟨v_3, hv, h⟩ := bP_inv h
    refine V_callVo C 20 g1 (gr_0in g1 hg1) (some (.int v_3)) (con_X1_isScalar hl g1 hg1 hv) tb_X1_isScalar lk_RX3_69 rfl rfl rfl (by decide) (by decide) rfl (Nat.le_of_ble_eq_true rfl) rfl dX3_each_21 rfl ?_
    clear hv
    obtain ⟨j_5, hj_5, h⟩ := jn_ex h
    have J_5 : ∀ (g_4 : Nat) (_ : g_4 < 18) x, j_5 g_4 = some x → V Y l E lvC 5 (rBu x) 32 [(0, .int a0), (1, .ref (E.1 20 g1)), (2, .ref (E.1 20 g2)), (3, .ref (E.1 20 g3))] [.ref (E.1 20 g_4), .ref (E.1 20 g3)] μ := by
      intro g_4 hg_4 x h
      rw [hj_5] at h; clear hj_5
      rcases bB_inv h with ⟨e_8, μ_7, hv, h⟩ | ⟨u_6, μ_7, hv, h⟩
      · cases h; exact V_callVe C 20 g3 (gr_0in g3 hg3) e_8 (con_X1_shapeLike hl g3 g_4 hg3 hg_4 hv) tb_X1_shapeLike lk_RX3_51 rfl rfl rfl (by decide) (by decide) rfl (Nat.le_of_ble_eq_true rfl) rfl dX3_each_32 rfl
      refine V_callVo C 20 g3 (gr_0in g3 hg3) none (con_X1_shapeLike hl g3 g_4 hg3 hg_4 hv) tb_X1_shapeLike lk_RX3_51 rfl rfl rfl (by decide) (by decide) rfl (Nat.le_of_ble_eq_true rfl) rfl dX3_each_32 rfl ?_
      clear hv
      refine V_iconst C (0 : Int32) dX3_each_35 (by decide) ?_
      refine V_istore (L' := [(0, .int a0), (1, .ref (E.1 20 g1)), (2, .ref (E.1 20 g2)), (3, .ref (E.1 20 g3)), (4, .int (0 : Int32))]) C dX3_each_36 (by decide) [1, 2, 3, 4, 0] rfl ?_
      refine V_sub (LP := [(0, .int a0), (1, .ref (E.1 20 g1)), (2, .ref (E.1 20 g2)), (3, .ref (E.1 20 g3)), (4, .int (0 : Int32))]) [0, 1, 2, 3, 4] rfl ?_
      refine lp_X3_each_38 hl C a0 g1 g2 g3 hg1 hg2 hg3 (fun μ_22 x h => ?_) 1000 _ _ h
      cases h
      exact V_return C rfl rfl dX3_each_76
    clear hj_5
    refine V_if_eq C (tgt := 31) dX3_each_24 (by decide) (fun hc => ?_) (fun hc => ?_)
    · replace h := (if_pos hc).symm.trans h
      refine V_aload_n C 1 dX3_each_31 rfl 1 rfl ?_
      refine V_sub (LP := [(0, .int a0), (1, .ref (E.1 20 g1)), (2, .ref (E.1 20 g2)), (3, .ref (E.1 20 g3))]) [0, 1, 2, 3] rfl ?_
      exact J_5 _ hg1 _ h
    · replace h := (if_neg hc).symm.trans h
      refine V_aload_n C 2 dX3_each_27 rfl 2 rfl ?_
      refine V_goto C (tgt := 32) dX3_each_28 (by decide) ?_
      refine V_sub (LP := [(0, .int a0), (1, .ref (E.1 20 g1)), (2, .ref (E.1 20 g2)), (3, .ref (E.1 20 g3))]) [0, 1, 2, 3] rfl ?_
      exact J_5 _ hg2 _ h
  clear hj_2
  refine V_if_ne C (tgt := 19) dX3_each_4 (by decide) (fun hc => ?_) (fun hc => ?_)
  · replace h := (if_neg hc).symm.trans h
    refine V_sub (LP := [(0, .int a0), (1, .ref (E.1 20 g1)), (2, .ref (E.1 20 g2)), (3, .ref (E.1 20 g3))]) [0, 1, 2, 3] rfl ?_
    exact J_2 () _ h
  · replace h := (if_pos hc).symm.trans h
    refine V_aload_n C 2 dX3_each_7 rfl 2 rfl ?_
    obtain ⟨v_23, hv, h⟩ := bP_inv h
    refine V_callVo C 20 g2 (gr_0in g2 hg2) (some (.int v_23)) (con_X1_isScalar hl g2 hg2 hv) tb_X1_isScalar lk_RX3_69 rfl rfl rfl (by decide) (by decide) rfl (Nat.le_of_ble_eq_true rfl) rfl dX3_each_8 rfl ?_
    clear hv
    refine V_if_ne C (tgt := 19) dX3_each_11 (by decide) (fun hc => ?_) (fun hc => ?_)
    · replace h := (if_neg hc).symm.trans h
      refine V_sub (LP := [(0, .int a0), (1, .ref (E.1 20 g1)), (2, .ref (E.1 20 g2)), (3, .ref (E.1 20 g3))]) [0, 1, 2, 3] rfl ?_
      exact J_2 () _ h
    · replace h := (if_pos hc).symm.trans h
      refine V_aload_n C 1 dX3_each_14 rfl 1 rfl ?_
      refine V_aload_n C 2 dX3_each_15 rfl 2 rfl ?_
      rcases bT_inv h with ⟨e_25, hv, h⟩ | ⟨u_24, hv, h⟩
      · cases h; exact V_callSe C e_25 (con_X3_needSameShape hl g1 g2 hg1 hg2 hv) tb_X3_needSameShape lk_RX3_73 (by decide) (by decide) rfl (Nat.le_of_ble_eq_true rfl) rfl dX3_each_16 rfl
      refine V_callSo C none (con_X3_needSameShape hl g1 g2 hg1 hg2 hv) tb_X3_needSameShape lk_RX3_73 (by decide) (by decide) rfl (Nat.le_of_ble_eq_true rfl) rfl dX3_each_16 rfl ?_
      clear hv
      refine V_sub (LP := [(0, .int a0), (1, .ref (E.1 20 g1)), (2, .ref (E.1 20 g2)), (3, .ref (E.1 20 g3))]) [0, 1, 2, 3] rfl ?_
      exact J_2 () _ h
