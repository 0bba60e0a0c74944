set_option maxHeartbeats 4000000 in
set_option maxRecDepth 100000 in
theorem lp_X8_folded_43 {Y : Mc} {l : Launch} {E : WE} (hl : l.stackTraces = false) (C : Ok Y l E lvM 5 RX8 cX8_folded (some .int) 2) {κ : Int32 → Mem → Option (Int32 × Mem)} (c1_3 : Int32)  (hκ : ∀ (a3_10 : Int32) (μ_11 : Mem) x, κ a3_10 μ_11 = some x → V Y l E lvM 5 (rWi x) 77 [(3, .int a3_10)] [] μ_11) : ∀ (n : Nat) (a3_4 : Int32) (a4_5 : Int32) (μ_6 : Mem) {x}, f_X8_folded_L43 κ c1_3 n a3_4 a4_5 μ_6 = some x → V Y l E lvM 5 (rWi x) 43 [(0, .ref (E.1 30 0)), (1, .int c1_3), (3, .int a3_4), (4, .int a4_5)] [] μ_6 := by
  intro n
  induction n with
  | zero =>
    intro a3_4 a4_5 μ_6 x h
    simp [f_X8_folded_L43] at h
  | succ n ih =>
    intro a3_4 a4_5 μ_6 x h
    rw [f_X8_folded_L43] at h
    refine V_iload C dX8_folded_43 3 rfl ?_
    refine V_if_lt C (tgt := 77) dX8_folded_45 (by decide) (fun hc => ?_) (fun hc => ?_)
    · replace h := (if_pos hc).symm.trans h
      refine V_sub (LP := [(3, .int a3_4)]) [2] rfl ?_
      exact hκ _ _ _ h
    · replace h := (if_neg hc).symm.trans h
      refine V_aload_n C 0 dX8_folded_48 rfl 0 rfl ?_
      refine V_getf (v := .int (μ_6 30 0 16)) C 30 0 m_30 fl_RX8_92 rfl rfl dX8_folded_49 ?_
      refine V_if_ne C (tgt := 77) dX8_folded_52 (by decide) (fun hc => ?_) (fun hc => ?_)
      · replace h := (if_neg hc).symm.trans h
        refine V_sub (LP := [(3, .int a3_4)]) [2] rfl ?_
        exact hκ _ _ _ h
      · replace h := (if_pos hc).symm.trans h
        refine V_aload_n C 0 dX8_folded_55 rfl 0 rfl ?_
        refine V_iload_n C 1 dX8_folded_56 rfl 1 rfl ?_
        refine V_aload_n C 0 dX8_folded_57 rfl 0 rfl ?_
        refine V_getf (v := .ref (E.1 42 0)) C 30 0 m_30 fl_RX8_44 rfl rfl dX8_folded_58 ?_
        refine V_iload C dX8_folded_61 3 rfl ?_
        obtain ⟨hi9, h⟩ := gd_inv h
        refine V_iald C 42 0 m_42 (fun _ => rfl) (inb_in hi9) dX8_folded_63 ?_
        refine V_i2l C dX8_folded_64 ?_
        refine V_iload_n C 3 dX8_folded_65 rfl 2 rfl ?_
        refine V_i2l C dX8_folded_66 ?_
        obtain ⟨v_7, μ_8, hv, h⟩ := bW_inv h
        refine V_callVo C 30 0 m_30 (some (.int v_7)) (con_X8_number hl c1_3 ((μ_6 42 0 (a4_5).toNatClampNeg)).toInt64 (a3_4).toInt64 hv) tb_X8_number lk_RX8_105 rfl rfl rfl (by decide) (by decide) rfl (Nat.le_of_ble_eq_true rfl) rfl dX8_folded_67 rfl ?_
        clear hv
        refine V_istore_n (L' := [(0, .ref (E.1 30 0)), (1, .int c1_3), (3, .int v_7), (4, .int a4_5)]) C 3 dX8_folded_70 rfl (by decide) [1, 2, 0, 3] rfl ?_
        obtain ⟨x_9, hn9⟩ : ∃ z : Int32, z = a4_5 + (-1 : Int32) := ⟨_, rfl⟩
        replace h := lt_eq hn9 h
        refine V_iinc (L' := [(0, .ref (E.1 30 0)), (1, .int c1_3), (3, .int v_7), (4, .int x_9)]) C x_9 dX8_folded_71 3 rfl (by rw [hn9]; exact congrArg (a4_5 + ·) (by decide)) (by decide) [1, 2, 3, 0] rfl ?_
        clear hn9
        refine V_goto C (tgt := 43) dX8_folded_74 (by decide) ?_
        refine V_sub (LP := [(0, .ref (E.1 30 0)), (1, .int c1_3), (3, .int v_7), (4, .int x_9)]) [0, 1, 2, 3] rfl ?_
        exact ih _ _ _ h
set_option maxHeartbeats 4000000 in
set_option maxRecDepth 100000 in
theorem con_X8_folded {l : Launch} {E : WE} (hl : l.stackTraces = false) (a1 : Int32) (a2 : Int32)  {μ : Mem} {x} (h : f_X8_folded a1 a2 μ = some x) : Con l E lvM yX8_folded cX8_folded 5 (some .int) 2 [.ref (E.1 30 0), .int a1, .int a2] μ (rWi x) := by
  refine Con.of (by decide) hl (Nat.le_of_ble_eq_true rfl) (fun Y C => ?_)
  replace C : Ok Y l E lvM 5 RX8 cX8_folded (some .int) 2 := C
  show V Y l E lvM 5 (rWi x) 0 [(0, .ref (E.1 30 0)), (1, .int a1), (2, .int a2)] [] μ
  unfold f_X8_folded at h
  refine V_iload_n C 2 dX8_folded_0 rfl 2 rfl ?_
  refine V_if_ne C (tgt := 29) dX8_folded_1 (by decide) (fun hc => ?_) (fun hc => ?_)
  · replace h := (if_neg hc).symm.trans h
    refine V_aload_n C 0 dX8_folded_29 rfl 0 rfl ?_
    refine V_getf (v := .ref (E.1 42 0)) C 30 0 m_30 fl_RX8_44 rfl rfl dX8_folded_30 ?_
    refine V_iload_n C 2 dX8_folded_33 rfl 2 rfl ?_
    refine V_iconst C (1 : Int32) dX8_folded_34 (by decide) ?_
    refine V_isub C dX8_folded_35 ?_
    obtain ⟨hi9, h⟩ := gd_inv h
    refine V_iald C 42 0 m_42 (fun _ => rfl) (inb_in hi9) dX8_folded_36 ?_
    refine V_topi (fun x_1 hn9 => ?_)
    replace h := lt_eq hn9 h; clear hn9
    refine V_istore_n (L' := [(0, .ref (E.1 30 0)), (1, .int a1), (2, .int a2), (3, .int x_1)]) C 3 dX8_folded_37 rfl (by decide) [1, 2, 3, 0] rfl ?_
    refine V_iload_n C 2 dX8_folded_38 rfl 2 rfl ?_
    refine V_iconst C (2 : Int32) dX8_folded_39 (by decide) ?_
    refine V_isub C dX8_folded_40 ?_
    refine V_topi (fun x_2 hn9 => ?_)
    replace h := lt_eq hn9 h; clear hn9
    refine V_istore (L' := [(0, .ref (E.1 30 0)), (1, .int a1), (2, .int a2), (3, .int x_1), (4, .int x_2)]) C dX8_folded_41 (by decide) [1, 2, 3, 4, 0] rfl ?_
    refine V_sub (LP := [(0, .ref (E.1 30 0)), (1, .int a1), (3, .int x_1), (4, .int x_2)]) [0, 1, 3, 4] rfl ?_
    refine lp_X8_folded_43 hl C a1 (fun a3_12 μ_13 x h => ?_) 1000 _ _ _ h
    refine V_iload_n C 3 dX8_folded_77 rfl 0 rfl ?_
    cases h
    exact V_ireturn C rfl rfl rfl dX8_folded_78
  · replace h := (if_pos hc).symm.trans h
    refine V_iload_n C 1 dX8_folded_4 rfl 1 rfl ?_
    obtain ⟨j_15, hj_15, h⟩ := jn_ex h
    have J_15 : ∀ (μ_14 : Mem) x, j_15 μ_14 = some x → V Y l E lvM 5 (rWi x) 18 [(1, .int a1)] [] μ_14 := by
      intro μ_14  x h
      rw [hj_15] at h; clear hj_15
      refine V_iload_n C 1 dX8_folded_18 rfl 0 rfl ?_
      refine V_iconst C (2 : Int32) dX8_folded_19 (by decide) ?_
      refine V_icmp_ne C (tgt := 27) dX8_folded_20 (by decide) (fun hc => ?_) (fun hc => ?_)
      · replace h := (if_neg hc).symm.trans h
        refine V_iconst C (0 : Int32) dX8_folded_27 (by decide) ?_
        cases h
        exact V_ireturn C rfl rfl rfl dX8_folded_28
      · replace h := (if_pos hc).symm.trans h
        refine V_iconst C (1 : Int32) dX8_folded_23 (by decide) ?_
        refine V_goto C (tgt := 28) dX8_folded_24 (by decide) ?_
        cases h
        exact V_ireturn C rfl rfl rfl dX8_folded_28
    clear hj_15
    refine V_if_eq C (tgt := 18) dX8_folded_5 (by decide) (fun hc => ?_) (fun hc => ?_)
    · replace h := (if_pos hc).symm.trans h
      refine V_sub (LP := [(1, .int a1)]) [1] rfl ?_
      exact J_15 _ _ h
    · replace h := (if_neg hc).symm.trans h
      refine V_iload_n C 1 dX8_folded_8 rfl 1 rfl ?_
      refine V_iconst C (2 : Int32) dX8_folded_9 (by decide) ?_
      refine V_icmp_eq C (tgt := 18) dX8_folded_10 (by decide) (fun hc => ?_) (fun hc => ?_)
      · replace h := (if_pos hc).symm.trans h
        refine V_sub (LP := [(1, .int a1)]) [1] rfl ?_
        exact J_15 _ _ h
      · replace h := (if_neg hc).symm.trans h
        refine V_aload_n C 0 dX8_folded_13 rfl 0 rfl ?_
        refine V_iconst C (2 : Int32) dX8_folded_14 (by decide) ?_
        refine V_putI C 30 0 m_30 fp_RX8_92 rfl rfl rfl rfl (Nat.le_of_ble_eq_true rfl) dX8_folded_15 ?_
        refine V_memn (fun μ_16 hn9 => ?_)
        replace h := lt_eq hn9 h; clear hn9
        refine V_sub (LP := [(1, .int a1)]) [1] rfl ?_
        exact J_15 _ _ h
set_option maxHeartbeats 4000000 in
set_option maxRecDepth 100000 in
theorem con_X8_last {l : Launch} {E : WE} (hl : l.stackTraces = false) (a1 : Int32)  {μ : Mem} {x} (h : f_X8_last a1 μ = some x) : Con l E lvM yX8_last cX8_last 2 (some .int) 1 [.ref (E.1 30 0), .int a1] μ (rPi x μ) := by
  refine Con.of (by decide) hl (Nat.le_of_ble_eq_true rfl) (fun Y C => ?_)
  replace C : Ok Y l E lvM 2 RX8 cX8_last (some .int) 1 := C
  show V Y l E lvM 2 (rPi x μ) 0 [(0, .ref (E.1 30 0)), (1, .int a1)] [] μ
  unfold f_X8_last at h
  refine V_aload_n C 0 dX8_last_0 rfl 0 rfl ?_
  refine V_getf (v := .ref (E.1 32 0)) C 30 0 m_30 fl_RX8_13 rfl rfl dX8_last_1 ?_
  refine V_iload_n C 1 dX8_last_4 rfl 1 rfl ?_
  obtain ⟨hi9, h⟩ := gd_inv h
  refine V_iald C 32 0 m_32 (fun _ => rfl) (inb_in hi9) dX8_last_5 ?_
  refine V_if_ne C (tgt := 13) dX8_last_6 (by decide) (fun hc => ?_) (fun hc => ?_)
  · replace h := (if_neg hc).symm.trans h
    refine V_aload_n C 0 dX8_last_13 rfl 0 rfl ?_
    refine V_iload_n C 1 dX8_last_14 rfl 1 rfl ?_
    refine V_aload_n C 0 dX8_last_15 rfl 0 rfl ?_
    refine V_getf (v := .ref (E.1 32 0)) C 30 0 m_30 fl_RX8_13 rfl rfl dX8_last_16 ?_
    refine V_iload_n C 1 dX8_last_19 rfl 1 rfl ?_
    obtain ⟨hi9, h⟩ := gd_inv h
    refine V_iald C 32 0 m_32 (fun _ => rfl) (inb_in hi9) dX8_last_20 ?_
    refine V_iconst C (1 : Int32) dX8_last_21 (by decide) ?_
    refine V_isub C dX8_last_22 ?_
    obtain ⟨v_1, hv, h⟩ := bP_inv h
    refine V_callVo C 30 0 m_30 (some (.int v_1)) (con_X8_axisOf hl a1 ((μ 32 0 (a1).toNatClampNeg) - (1 : Int32)) hv) tb_X8_axisOf lk_RX8_88 rfl rfl rfl (by decide) (by decide) rfl (Nat.le_of_ble_eq_true rfl) rfl dX8_last_23 rfl ?_
    clear hv
    cases h
    exact V_ireturn C rfl rfl rfl dX8_last_26
  · replace h := (if_pos hc).symm.trans h
    refine V_iconst C (1 : Int32) dX8_last_9 (by decide) ?_
    refine V_goto C (tgt := 26) dX8_last_10 (by decide) ?_
    cases h
    exact V_ireturn C rfl rfl rfl dX8_last_26
set_option maxHeartbeats 4000000 in
set_option maxRecDepth 100000 in
theorem con_X8_same {l : Launch} {E : WE} (hl : l.stackTraces = false)   {μ : Mem} {x} (h : f_X8_same  μ = some x) : Con l E lvM yX8_same cX8_same 1 (some .boolean) 1 [.ref (E.1 30 0)] μ (rWi x) := by
  refine Con.of (by decide) hl (Nat.le_of_ble_eq_true rfl) (fun Y C => ?_)
  replace C : Ok Y l E lvM 1 RX8 cX8_same (some .boolean) 1 := C
  show V Y l E lvM 1 (rWi x) 0 [(0, .ref (E.1 30 0))] [] μ
  unfold f_X8_same at h
  refine V_aload_n C 0 dX8_same_0 rfl 0 rfl ?_
  refine V_bipush C (19 : Int32) dX8_same_1 (by decide) ?_
  refine V_bipush C (8 : Int32) dX8_same_3 (by decide) ?_
  obtain ⟨u_1, μ_2, hv, h⟩ := bW_inv h
  refine V_callVo C 30 0 m_30 none (con_X8_copy hl (19 : Int32) (8 : Int32) hv) tb_X8_copy lk_RX8_138 rfl rfl rfl (by decide) (by decide) rfl (Nat.le_of_ble_eq_true rfl) rfl dX8_same_5 rfl ?_
  clear hv
  refine V_iconst C (1 : Int32) dX8_same_8 (by decide) ?_
  cases h
  exact V_ireturn C rfl rfl rfl dX8_same_9
set_option maxHeartbeats 4000000 in
set_option maxRecDepth 100000 in
theorem lp_X8_reduce_13 {Y : Mc} {l : Launch} {E : WE} (hl : l.stackTraces = false) (C : Ok Y l E lvM 7 RX8 cX8_reduce (some .boolean) 3) {κ : Int32 → Option (Int32 × Mem)} (c1_2 : Int32) (c3_3 : Int32) (μ_6 : Mem)  (hκ : ∀ (a4_10 : Int32) x, κ a4_10 = some x → V Y l E lvM 7 (rWi x) 46 [(0, .ref (E.1 30 0)), (1, .int c1_2), (3, .int c3_3), (4, .int a4_10)] [] μ_6) : ∀ (n : Nat) (a4_4 : Int32) (a5_5 : Int32) {x}, f_X8_reduce_L13 κ c1_2 c3_3 μ_6 n a4_4 a5_5 = some x → V Y l E lvM 7 (rWi x) 13 [(0, .ref (E.1 30 0)), (1, .int c1_2), (3, .int c3_3), (4, .int a4_4), (5, .int a5_5)] [] μ_6 := by
  intro n
  induction n with
  | zero =>
    intro a4_4 a5_5 x h
    simp [f_X8_reduce_L13] at h
  | succ n ih =>
    intro a4_4 a5_5 x h
    rw [f_X8_reduce_L13] at h
    refine V_iload C dX8_reduce_13 4 rfl ?_
    refine V_aload_n C 0 dX8_reduce_15 rfl 0 rfl ?_
    refine V_getf (v := .ref (E.1 32 0)) C 30 0 m_30 fl_RX8_13 rfl rfl dX8_reduce_16 ?_
    refine V_bipush C (19 : Int32) dX8_reduce_19 (by decide) ?_
    obtain ⟨hi9, h⟩ := gd_inv h
    refine V_iald C 32 0 m_32 (fun _ => rfl) (inb_in hi9) dX8_reduce_21 ?_
    refine V_iconst C (1 : Int32) dX8_reduce_22 (by decide) ?_
    refine V_isub C dX8_reduce_23 ?_
    refine V_icmp_ge C (tgt := 46) dX8_reduce_24 (by decide) (fun hc => ?_) (fun hc => ?_)
    · replace h := (if_pos hc).symm.trans h
      refine V_sub (LP := [(0, .ref (E.1 30 0)), (1, .int c1_2), (3, .int c3_3), (4, .int a4_4)]) [0, 1, 2, 3] rfl ?_
      exact hκ _ _ h
    · replace h := (if_neg hc).symm.trans h
      refine V_iload C dX8_reduce_27 3 rfl ?_
      refine V_aload_n C 0 dX8_reduce_29 rfl 0 rfl ?_
      refine V_bipush C (19 : Int32) dX8_reduce_30 (by decide) ?_
      refine V_iload C dX8_reduce_32 4 rfl ?_
      obtain ⟨v_7, hv, h⟩ := bP_inv h
      refine V_callVo C 30 0 m_30 (some (.int v_7)) (con_X8_axisOf hl (19 : Int32) a5_5 hv) tb_X8_axisOf lk_RX8_88 rfl rfl rfl (by decide) (by decide) rfl (Nat.le_of_ble_eq_true rfl) rfl dX8_reduce_34 rfl ?_
      clear hv
      refine V_imul C dX8_reduce_37 ?_
      refine V_topi (fun x_8 hn9 => ?_)
      replace h := lt_eq hn9 h; clear hn9
      refine V_istore (L' := [(0, .ref (E.1 30 0)), (1, .int c1_2), (3, .int c3_3), (4, .int x_8), (5, .int a5_5)]) C dX8_reduce_38 (by decide) [1, 2, 3, 0, 4] rfl ?_
      obtain ⟨x_9, hn9⟩ : ∃ z : Int32, z = a5_5 + (1 : Int32) := ⟨_, rfl⟩
      replace h := lt_eq hn9 h
      refine V_iinc (L' := [(0, .ref (E.1 30 0)), (1, .int c1_2), (3, .int c3_3), (4, .int x_8), (5, .int x_9)]) C x_9 dX8_reduce_40 4 rfl (by rw [hn9]; exact congrArg (a5_5 + ·) (by decide)) (by decide) [1, 2, 3, 4, 0] rfl ?_
      clear hn9
      refine V_goto C (tgt := 13) dX8_reduce_43 (by decide) ?_
      refine V_sub (LP := [(0, .ref (E.1 30 0)), (1, .int c1_2), (3, .int c3_3), (4, .int x_8), (5, .int x_9)]) [0, 1, 2, 3, 4] rfl ?_
      exact ih _ _ h
set_option maxHeartbeats 4000000 in
set_option maxRecDepth 100000 in
theorem lp_X8_reduce_99 {Y : Mc} {l : Launch} {E : WE} (hl : l.stackTraces = false) (C : Ok Y l E lvM 7 RX8 cX8_reduce (some .boolean) 3) {κ : Mem → Option (Int32 × Mem)} (c1_21 : Int32) (c3_22 : Int32) (c4_23 : Int32) (c5_24 : Int32)  (hκ : ∀  (μ_30 : Mem) x, κ  μ_30 = some x → V Y l E lvM 7 (rWi x) 131 [(0, .ref (E.1 30 0)), (1, .int c1_21), (3, .int c3_22), (4, .int c4_23), (5, .int c5_24)] [] μ_30) : ∀ (n : Nat) (a6_25 : Int32) (μ_26 : Mem) {x}, f_X8_reduce_L99 κ c1_21 c3_22 c4_23 c5_24 n a6_25 μ_26 = some x → V Y l E lvM 7 (rWi x) 99 [(0, .ref (E.1 30 0)), (1, .int c1_21), (3, .int c3_22), (4, .int c4_23), (5, .int c5_24), (6, .int a6_25)] [] μ_26 := by
  intro n
  induction n with
  | zero =>
    intro a6_25 μ_26 x h
    simp [f_X8_reduce_L99] at h
  | succ n ih =>
    intro a6_25 μ_26 x h
    rw [f_X8_reduce_L99] at h
    refine V_iload C dX8_reduce_99 5 rfl ?_
    refine V_iload_n C 3 dX8_reduce_101 rfl 2 rfl ?_
    refine V_icmp_ge C (tgt := 131) dX8_reduce_102 (by decide) (fun hc => ?_) (fun hc => ?_)
    · replace h := (if_pos hc).symm.trans h
      refine V_sub (LP := [(0, .ref (E.1 30 0)), (1, .int c1_21), (3, .int c3_22), (4, .int c4_23), (5, .int c5_24)]) [0, 1, 2, 3, 4] rfl ?_
      exact hκ _ _ h
    · replace h := (if_neg hc).symm.trans h
      refine V_aload_n C 0 dX8_reduce_105 rfl 0 rfl ?_
      refine V_getf (v := .ref (E.1 42 0)) C 30 0 m_30 fl_RX8_44 rfl rfl dX8_reduce_106 ?_
      refine V_iload C dX8_reduce_109 5 rfl ?_
      refine V_aload_n C 0 dX8_reduce_111 rfl 0 rfl ?_
      refine V_bipush C (19 : Int32) dX8_reduce_112 (by decide) ?_
      refine V_iload_n C 3 dX8_reduce_114 rfl 2 rfl ?_
      refine V_iload C dX8_reduce_115 4 rfl ?_
      refine V_imul C dX8_reduce_117 ?_
      refine V_iload C dX8_reduce_118 5 rfl ?_
      refine V_iadd C dX8_reduce_120 ?_
      obtain ⟨v_27, hv, h⟩ := bP_inv h
      refine V_callVo C 30 0 m_30 (some (.int v_27)) (con_X8_get hl (19 : Int32) ((c3_22 * c5_24) + a6_25) hv) tb_X8_get lk_RX8_119 rfl rfl rfl (by decide) (by decide) rfl (Nat.le_of_ble_eq_true rfl) rfl dX8_reduce_121 rfl ?_
      clear hv
      obtain ⟨hi9, h⟩ := gd_inv h
      refine V_iast C 42 0 m_42 (fun _ => rfl) (inb_in hi9) dX8_reduce_124 ?_
      refine V_memn (fun μ_28 hn9 => ?_)
      replace h := lt_eq hn9 h; clear hn9
      obtain ⟨x_29, hn9⟩ : ∃ z : Int32, z = a6_25 + (1 : Int32) := ⟨_, rfl⟩
      replace h := lt_eq hn9 h
      refine V_iinc (L' := [(0, .ref (E.1 30 0)), (1, .int c1_21), (3, .int c3_22), (4, .int c4_23), (5, .int c5_24), (6, .int x_29)]) C x_29 dX8_reduce_125 5 rfl (by rw [hn9]; exact congrArg (a6_25 + ·) (by decide)) (by decide) [1, 2, 3, 4, 5, 0] rfl ?_
      clear hn9
      refine V_goto C (tgt := 99) dX8_reduce_128 (by decide) ?_
      refine V_sub (LP := [(0, .ref (E.1 30 0)), (1, .int c1_21), (3, .int c3_22), (4, .int c4_23), (5, .int c5_24), (6, .int x_29)]) [0, 1, 2, 3, 4, 5] rfl ?_
      exact ih _ _ h
set_option maxHeartbeats 4000000 in
set_option maxRecDepth 100000 in
theorem lp_X8_reduce_82 {Y : Mc} {l : Launch} {E : WE} (hl : l.stackTraces = false) (C : Ok Y l E lvM 7 RX8 cX8_reduce (some .boolean) 3) {κ : Mem → Option (Int32 × Mem)} (c1_16 : Int32) (c3_17 : Int32) (c4_18 : Int32)  (hκ : ∀  (μ_37 : Mem) x, κ  μ_37 = some x → V Y l E lvM 7 (rWi x) 151 [(0, .ref (E.1 30 0))] [] μ_37) : ∀ (n : Nat) (a5_19 : Int32) (μ_20 : Mem) {x}, f_X8_reduce_L82 κ c1_16 c3_17 c4_18 n a5_19 μ_20 = some x → V Y l E lvM 7 (rWi x) 82 [(0, .ref (E.1 30 0)), (1, .int c1_16), (3, .int c3_17), (4, .int c4_18), (5, .int a5_19)] [] μ_20 := by
  intro n
  induction n with
  | zero =>
    intro a5_19 μ_20 x h
    simp [f_X8_reduce_L82] at h
  | succ n ih =>
    intro a5_19 μ_20 x h
    rw [f_X8_reduce_L82] at h
    refine V_iload C dX8_reduce_82 4 rfl ?_
    refine V_iload C dX8_reduce_84 3 rfl ?_
    refine V_icmp_ge C (tgt := 151) dX8_reduce_86 (by decide) (fun hc => ?_) (fun hc => ?_)
    · replace h := (if_pos hc).symm.trans h
      refine V_sub (LP := [(0, .ref (E.1 30 0))]) [0] rfl ?_
      exact hκ _ _ h
    · replace h := (if_neg hc).symm.trans h
      refine V_aload_n C 0 dX8_reduce_89 rfl 0 rfl ?_
      refine V_getf (v := .int (μ_20 30 0 16)) C 30 0 m_30 fl_RX8_92 rfl rfl dX8_reduce_90 ?_
      refine V_if_ne C (tgt := 151) dX8_reduce_93 (by decide) (fun hc => ?_) (fun hc => ?_)
      · replace h := (if_neg hc).symm.trans h
        refine V_sub (LP := [(0, .ref (E.1 30 0))]) [0] rfl ?_
        exact hκ _ _ h
      · replace h := (if_pos hc).symm.trans h
        refine V_iconst C (0 : Int32) dX8_reduce_96 (by decide) ?_
        refine V_istore (L' := [(0, .ref (E.1 30 0)), (1, .int c1_16), (3, .int c3_17), (4, .int c4_18), (5, .int a5_19), (6, .int (0 : Int32))]) C dX8_reduce_97 (by decide) [1, 2, 3, 4, 5, 0] rfl ?_
        refine V_sub (LP := [(0, .ref (E.1 30 0)), (1, .int c1_16), (3, .int c3_17), (4, .int c4_18), (5, .int a5_19), (6, .int (0 : Int32))]) [0, 1, 2, 3, 4, 5] rfl ?_
        refine lp_X8_reduce_99 hl C c1_16 c3_17 c4_18 a5_19 (fun μ_31 x h => ?_) 1000 _ _ h
        refine V_aload_n C 0 dX8_reduce_131 rfl 0 rfl ?_
        refine V_bipush C (8 : Int32) dX8_reduce_132 (by decide) ?_
        refine V_iload C dX8_reduce_134 4 rfl ?_
        refine V_aload_n C 0 dX8_reduce_136 rfl 0 rfl ?_
        refine V_iload_n C 1 dX8_reduce_137 rfl 1 rfl ?_
        refine V_iload_n C 3 dX8_reduce_138 rfl 2 rfl ?_
        obtain ⟨v_32, μ_33, hv, h⟩ := bW_inv h
        refine V_callVo C 30 0 m_30 (some (.int v_32)) (con_X8_folded hl c1_16 c3_17 hv) tb_X8_folded lk_RX8_145 rfl rfl rfl (by decide) (by decide) rfl (Nat.le_of_ble_eq_true rfl) rfl dX8_reduce_139 rfl ?_
        clear hv
        obtain ⟨u_34, μ_35, hv, h⟩ := bW_inv h
        refine V_callVo C 30 0 m_30 none (con_X8_set hl (8 : Int32) a5_19 v_32 hv) tb_X8_set lk_RX8_122 rfl rfl rfl (by decide) (by decide) rfl (Nat.le_of_ble_eq_true rfl) rfl dX8_reduce_142 rfl ?_
        clear hv
        obtain ⟨x_36, hn9⟩ : ∃ z : Int32, z = a5_19 + (1 : Int32) := ⟨_, rfl⟩
        replace h := lt_eq hn9 h
        refine V_iinc (L' := [(0, .ref (E.1 30 0)), (1, .int c1_16), (3, .int c3_17), (4, .int c4_18), (5, .int x_36)]) C x_36 dX8_reduce_145 4 rfl (by rw [hn9]; exact congrArg (a5_19 + ·) (by decide)) (by decide) [1, 2, 3, 4, 0] rfl ?_
        clear hn9
        refine V_goto C (tgt := 82) dX8_reduce_148 (by decide) ?_
        refine V_sub (LP := [(0, .ref (E.1 30 0)), (1, .int c1_16), (3, .int c3_17), (4, .int c4_18), (5, .int x_36)]) [0, 1, 2, 3, 4] rfl ?_
        exact ih _ _ h
set_option maxHeartbeats 4000000 in
set_option maxRecDepth 100000 in
theorem con_X8_reduce {l : Launch} {E : WE} (hl : l.stackTraces = false) (a1 : Int32) (a2 : Int32)  {μ : Mem} {x} (h : f_X8_reduce a1 a2 μ = some x) : Con l E lvM yX8_reduce cX8_reduce 7 (some .boolean) 3 [.ref (E.1 30 0), .int a1, .int a2] μ (rWi x) := by
  refine Con.of (by decide) hl (Nat.le_of_ble_eq_true rfl) (fun Y C => ?_)
  replace C : Ok Y l E lvM 7 RX8 cX8_reduce (some .boolean) 3 := C
  show V Y l E lvM 7 (rWi x) 0 [(0, .ref (E.1 30 0)), (1, .int a1), (2, .int a2)] [] μ
  unfold f_X8_reduce at h
  refine V_aload_n C 0 dX8_reduce_0 rfl 0 rfl ?_
  refine V_bipush C (19 : Int32) dX8_reduce_1 (by decide) ?_
  obtain ⟨v_1, hv, h⟩ := bP_inv h
  refine V_callVo C 30 0 m_30 (some (.int v_1)) (con_X8_last hl (19 : Int32) hv) tb_X8_last lk_RX8_142 rfl rfl rfl (by decide) (by decide) rfl (Nat.le_of_ble_eq_true rfl) rfl dX8_reduce_3 rfl ?_
  clear hv
  refine V_istore_n (L' := [(0, .ref (E.1 30 0)), (1, .int a1), (2, .int a2), (3, .int v_1)]) C 3 dX8_reduce_6 rfl (by decide) [1, 2, 3, 0] rfl ?_
  refine V_iconst C (1 : Int32) dX8_reduce_7 (by decide) ?_
  refine V_istore (L' := [(0, .ref (E.1 30 0)), (1, .int a1), (2, .int a2), (3, .int v_1), (4, .int (1 : Int32))]) C dX8_reduce_8 (by decide) [1, 2, 3, 4, 0] rfl ?_
  refine V_iconst C (0 : Int32) dX8_reduce_10 (by decide) ?_
  refine V_istore (L' := [(0, .ref (E.1 30 0)), (1, .int a1), (2, .int a2), (3, .int v_1), (4, .int (1 : Int32)), (5, .int (0 : Int32))]) C dX8_reduce_11 (by decide) [1, 2, 3, 4, 5, 0] rfl ?_
  refine V_sub (LP := [(0, .ref (E.1 30 0)), (1, .int a1), (3, .int v_1), (4, .int (1 : Int32)), (5, .int (0 : Int32))]) [0, 1, 3, 4, 5] rfl ?_
  refine lp_X8_reduce_13 hl C a1 v_1 μ (fun a4_11 x h => ?_) 1000 _ _ h
  refine V_aload_n C 0 dX8_reduce_46 rfl 0 rfl ?_
  refine V_aload_n C 0 dX8_reduce_47 rfl 0 rfl ?_
  refine V_getf (v := .ref (E.1 32 0)) C 30 0 m_30 fl_RX8_13 rfl rfl dX8_reduce_48 ?_
  refine V_bipush C (19 : Int32) dX8_reduce_51 (by decide) ?_
  obtain ⟨hi9, h⟩ := gd_inv h
  refine V_iald C 32 0 m_32 (fun _ => rfl) (inb_in hi9) dX8_reduce_53 ?_
  refine V_iconst C (1 : Int32) dX8_reduce_54 (by decide) ?_
  refine V_isub C dX8_reduce_55 ?_
  refine V_aload_n C 0 dX8_reduce_56 rfl 0 rfl ?_
  refine V_bipush C (19 : Int32) dX8_reduce_57 (by decide) ?_
  refine V_iconst C (0 : Int32) dX8_reduce_59 (by decide) ?_
  obtain ⟨v_12, hv, h⟩ := bP_inv h
  refine V_callVo C 30 0 m_30 (some (.int v_12)) (con_X8_axisOf hl (19 : Int32) (0 : Int32) hv) tb_X8_axisOf lk_RX8_88 rfl rfl rfl (by decide) (by decide) rfl (Nat.le_of_ble_eq_true rfl) rfl dX8_reduce_60 rfl ?_
  clear hv
  refine V_aload_n C 0 dX8_reduce_63 rfl 0 rfl ?_
  refine V_bipush C (19 : Int32) dX8_reduce_64 (by decide) ?_
  refine V_iconst C (1 : Int32) dX8_reduce_66 (by decide) ?_
  obtain ⟨v_13, hv, h⟩ := bP_inv h
  refine V_callVo C 30 0 m_30 (some (.int v_13)) (con_X8_axisOf hl (19 : Int32) (1 : Int32) hv) tb_X8_axisOf lk_RX8_88 rfl rfl rfl (by decide) (by decide) rfl (Nat.le_of_ble_eq_true rfl) rfl dX8_reduce_67 rfl ?_
  clear hv
  refine V_iconst C (0 : Int32) dX8_reduce_70 (by decide) ?_
  obtain ⟨v_14, μ_15, hv, h⟩ := bW_inv h
  refine V_callVo C 30 0 m_30 (some (.int v_14)) (con_X8_shape hl ((μ 32 0 ((19 : Int32)).toNatClampNeg) - (1 : Int32)) v_12 v_13 (0 : Int32) hv) tb_X8_shape lk_RX8_128 rfl rfl rfl (by decide) (by decide) rfl (Nat.le_of_ble_eq_true rfl) rfl dX8_reduce_71 rfl ?_
  clear hv
  refine V_if_ne C (tgt := 79) dX8_reduce_74 (by decide) (fun hc => ?_) (fun hc => ?_)
  · replace h := (if_neg hc).symm.trans h
    refine V_iconst C (0 : Int32) dX8_reduce_79 (by decide) ?_
    refine V_istore (L' := [(0, .ref (E.1 30 0)), (1, .int a1), (3, .int v_1), (4, .int a4_11), (5, .int (0 : Int32))]) C dX8_reduce_80 (by decide) [1, 2, 3, 4, 0] rfl ?_
    refine V_sub (LP := [(0, .ref (E.1 30 0)), (1, .int a1), (3, .int v_1), (4, .int a4_11), (5, .int (0 : Int32))]) [0, 1, 2, 3, 4] rfl ?_
    refine lp_X8_reduce_82 hl C a1 v_1 a4_11 (fun μ_38 x h => ?_) 1000 _ _ h
    refine V_aload_n C 0 dX8_reduce_151 rfl 0 rfl ?_
    refine V_getf (v := .int (μ_38 30 0 16)) C 30 0 m_30 fl_RX8_92 rfl rfl dX8_reduce_152 ?_
    refine V_if_ne C (tgt := 162) dX8_reduce_155 (by decide) (fun hc => ?_) (fun hc => ?_)
    · replace h := (if_neg hc).symm.trans h
      refine V_iconst C (0 : Int32) dX8_reduce_162 (by decide) ?_
      cases h
      exact V_ireturn C rfl rfl rfl dX8_reduce_163
    · replace h := (if_pos hc).symm.trans h
      refine V_iconst C (1 : Int32) dX8_reduce_158 (by decide) ?_
      refine V_goto C (tgt := 163) dX8_reduce_159 (by decide) ?_
      cases h
      exact V_ireturn C rfl rfl rfl dX8_reduce_163
  · replace h := (if_pos hc).symm.trans h
    refine V_iconst C (0 : Int32) dX8_reduce_77 (by decide) ?_
    cases h
    exact V_ireturn C rfl rfl rfl dX8_reduce_78
set_option maxHeartbeats 4000000 in
set_option maxRecDepth 100000 in
theorem lp_X8_scan_41 {Y : Mc} {l : Launch} {E : WE} (hl : l.stackTraces = false) (C : Ok Y l E lvM 8 RX8 cX8_scan (some .boolean) 3) {κ : Mem → Option (Int32 × Mem)} (c1_11 : Int32) (c2_12 : Int32) (c3_13 : Int32) (c4_14 : Int32) (c5_15 : Int32) (c6_16 : Int32)  (hκ : ∀  (μ_22 : Mem) x, κ  μ_22 = some x → V Y l E lvM 8 (rWi x) 72 [(0, .ref (E.1 30 0)), (1, .int c1_11), (2, .int c2_12), (3, .int c3_13), (4, .int c4_14), (5, .int c5_15), (6, .int c6_16)] [] μ_22) : ∀ (n : Nat) (a7_17 : Int32) (μ_18 : Mem) {x}, f_X8_scan_L41 κ c1_11 c2_12 c3_13 c4_14 c5_15 c6_16 n a7_17 μ_18 = some x → V Y l E lvM 8 (rWi x) 41 [(0, .ref (E.1 30 0)), (1, .int c1_11), (2, .int c2_12), (3, .int c3_13), (4, .int c4_14), (5, .int c5_15), (6, .int c6_16), (7, .int a7_17)] [] μ_18 := by
  intro n
  induction n with
  | zero =>
    intro a7_17 μ_18 x h
    simp [f_X8_scan_L41] at h
  | succ n ih =>
    intro a7_17 μ_18 x h
    rw [f_X8_scan_L41] at h
    refine V_iload C dX8_scan_41 7 rfl ?_
    refine V_iload C dX8_scan_43 5 rfl ?_
    refine V_icmp_gt C (tgt := 72) dX8_scan_45 (by decide) (fun hc => ?_) (fun hc => ?_)
    · replace h := (if_pos hc).symm.trans h
      refine V_sub (LP := [(0, .ref (E.1 30 0)), (1, .int c1_11), (2, .int c2_12), (3, .int c3_13), (4, .int c4_14), (5, .int c5_15), (6, .int c6_16)]) [0, 1, 2, 3, 4, 5, 6] rfl ?_
      exact hκ _ _ h
    · replace h := (if_neg hc).symm.trans h
      refine V_aload_n C 0 dX8_scan_48 rfl 0 rfl ?_
      refine V_getf (v := .ref (E.1 42 0)) C 30 0 m_30 fl_RX8_44 rfl rfl dX8_scan_49 ?_
      refine V_iload C dX8_scan_52 7 rfl ?_
      refine V_iload C dX8_scan_54 6 rfl ?_
      refine V_isub C dX8_scan_56 ?_
      refine V_aload_n C 0 dX8_scan_57 rfl 0 rfl ?_
      refine V_bipush C (19 : Int32) dX8_scan_58 (by decide) ?_
      refine V_iload C dX8_scan_60 7 rfl ?_
      obtain ⟨v_19, hv, h⟩ := bP_inv h
      refine V_callVo C 30 0 m_30 (some (.int v_19)) (con_X8_get hl (19 : Int32) a7_17 hv) tb_X8_get lk_RX8_119 rfl rfl rfl (by decide) (by decide) rfl (Nat.le_of_ble_eq_true rfl) rfl dX8_scan_62 rfl ?_
      clear hv
      obtain ⟨hi9, h⟩ := gd_inv h
      refine V_iast C 42 0 m_42 (fun _ => rfl) (inb_in hi9) dX8_scan_65 ?_
      refine V_memn (fun μ_20 hn9 => ?_)
      replace h := lt_eq hn9 h; clear hn9
      obtain ⟨x_21, hn9⟩ : ∃ z : Int32, z = a7_17 + (1 : Int32) := ⟨_, rfl⟩
      replace h := lt_eq hn9 h
      refine V_iinc (L' := [(0, .ref (E.1 30 0)), (1, .int c1_11), (2, .int c2_12), (3, .int c3_13), (4, .int c4_14), (5, .int c5_15), (6, .int c6_16), (7, .int x_21)]) C x_21 dX8_scan_66 7 rfl (by rw [hn9]; exact congrArg (a7_17 + ·) (by decide)) (by decide) [1, 2, 3, 4, 5, 6, 7, 0] rfl ?_
      clear hn9
      refine V_goto C (tgt := 41) dX8_scan_69 (by decide) ?_
      refine V_sub (LP := [(0, .ref (E.1 30 0)), (1, .int c1_11), (2, .int c2_12), (3, .int c3_13), (4, .int c4_14), (5, .int c5_15), (6, .int c6_16), (7, .int x_21)]) [0, 1, 2, 3, 4, 5, 6, 7] rfl ?_
      exact ih _ _ h
set_option maxHeartbeats 4000000 in
set_option maxRecDepth 100000 in
theorem lp_X8_scan_16 {Y : Mc} {l : Launch} {E : WE} (hl : l.stackTraces = false) (C : Ok Y l E lvM 8 RX8 cX8_scan (some .boolean) 3) {κ : Mem → Option (Int32 × Mem)} (c1_4 : Int32) (c2_5 : Int32) (c3_6 : Int32) (c4_7 : Int32)  (hκ : ∀  (μ_29 : Mem) x, κ  μ_29 = some x → V Y l E lvM 8 (rWi x) 98 [(0, .ref (E.1 30 0)), (4, .int c4_7)] [] μ_29) : ∀ (n : Nat) (a5_8 : Int32) (μ_9 : Mem) {x}, f_X8_scan_L16 κ c1_4 c2_5 c3_6 c4_7 n a5_8 μ_9 = some x → V Y l E lvM 8 (rWi x) 16 [(0, .ref (E.1 30 0)), (1, .int c1_4), (2, .int c2_5), (3, .int c3_6), (4, .int c4_7), (5, .int a5_8)] [] μ_9 := by
  intro n
  induction n with
  | zero =>
    intro a5_8 μ_9 x h
    simp [f_X8_scan_L16] at h
  | succ n ih =>
    intro a5_8 μ_9 x h
    rw [f_X8_scan_L16] at h
    refine V_iload C dX8_scan_16 5 rfl ?_
    refine V_iload_n C 2 dX8_scan_18 rfl 2 rfl ?_
    refine V_icmp_ge C (tgt := 98) dX8_scan_19 (by decide) (fun hc => ?_) (fun hc => ?_)
    · replace h := (if_pos hc).symm.trans h
      refine V_sub (LP := [(0, .ref (E.1 30 0)), (4, .int c4_7)]) [0, 4] rfl ?_
      exact hκ _ _ h
    · replace h := (if_neg hc).symm.trans h
      refine V_aload_n C 0 dX8_scan_22 rfl 0 rfl ?_
      refine V_getf (v := .int (μ_9 30 0 16)) C 30 0 m_30 fl_RX8_92 rfl rfl dX8_scan_23 ?_
      refine V_if_ne C (tgt := 98) dX8_scan_26 (by decide) (fun hc => ?_) (fun hc => ?_)
      · replace h := (if_neg hc).symm.trans h
        refine V_sub (LP := [(0, .ref (E.1 30 0)), (4, .int c4_7)]) [0, 4] rfl ?_
        exact hκ _ _ h
      · replace h := (if_pos hc).symm.trans h
        refine V_iload C dX8_scan_29 5 rfl ?_
        refine V_iload_n C 3 dX8_scan_31 rfl 3 rfl ?_
        obtain ⟨hz9, h⟩ := gd_inv h
        refine V_idiv C dX8_scan_32 (nz_ne hz9) ?_
        refine V_iload_n C 3 dX8_scan_33 rfl 3 rfl ?_
        refine V_imul C dX8_scan_34 ?_
        refine V_topi (fun x_10 hn9 => ?_)
        replace h := lt_eq hn9 h; clear hn9
        refine V_istore (L' := [(0, .ref (E.1 30 0)), (1, .int c1_4), (2, .int c2_5), (3, .int c3_6), (4, .int c4_7), (5, .int a5_8), (6, .int x_10)]) C dX8_scan_35 (by decide) [1, 2, 3, 4, 5, 6, 0] rfl ?_
        refine V_iload C dX8_scan_37 6 rfl ?_
        refine V_istore (L' := [(0, .ref (E.1 30 0)), (1, .int c1_4), (2, .int c2_5), (3, .int c3_6), (4, .int c4_7), (5, .int a5_8), (6, .int x_10), (7, .int x_10)]) C dX8_scan_39 (by decide) [1, 2, 3, 4, 5, 6, 7, 0] rfl ?_
        refine V_sub (LP := [(0, .ref (E.1 30 0)), (1, .int c1_4), (2, .int c2_5), (3, .int c3_6), (4, .int c4_7), (5, .int a5_8), (6, .int x_10), (7, .int x_10)]) [0, 1, 2, 3, 4, 5, 6, 7] rfl ?_
        refine lp_X8_scan_41 hl C c1_4 c2_5 c3_6 c4_7 a5_8 x_10 (fun μ_23 x h => ?_) 1000 _ _ h
        refine V_aload_n C 0 dX8_scan_72 rfl 0 rfl ?_
        refine V_bipush C (8 : Int32) dX8_scan_73 (by decide) ?_
        refine V_iload C dX8_scan_75 5 rfl ?_
        refine V_aload_n C 0 dX8_scan_77 rfl 0 rfl ?_
        refine V_iload_n C 1 dX8_scan_78 rfl 1 rfl ?_
        refine V_iload C dX8_scan_79 5 rfl ?_
        refine V_iload C dX8_scan_81 6 rfl ?_
        refine V_isub C dX8_scan_83 ?_
        refine V_iconst C (1 : Int32) dX8_scan_84 (by decide) ?_
        refine V_iadd C dX8_scan_85 ?_
        obtain ⟨v_24, μ_25, hv, h⟩ := bW_inv h
        refine V_callVo C 30 0 m_30 (some (.int v_24)) (con_X8_folded hl c1_4 ((a5_8 - x_10) + (1 : Int32)) hv) tb_X8_folded lk_RX8_145 rfl rfl rfl (by decide) (by decide) rfl (Nat.le_of_ble_eq_true rfl) rfl dX8_scan_86 rfl ?_
        clear hv
        obtain ⟨u_26, μ_27, hv, h⟩ := bW_inv h
        refine V_callVo C 30 0 m_30 none (con_X8_set hl (8 : Int32) a5_8 v_24 hv) tb_X8_set lk_RX8_122 rfl rfl rfl (by decide) (by decide) rfl (Nat.le_of_ble_eq_true rfl) rfl dX8_scan_89 rfl ?_
        clear hv
        obtain ⟨x_28, hn9⟩ : ∃ z : Int32, z = a5_8 + (1 : Int32) := ⟨_, rfl⟩
        replace h := lt_eq hn9 h
        refine V_iinc (L' := [(0, .ref (E.1 30 0)), (1, .int c1_4), (2, .int c2_5), (3, .int c3_6), (4, .int c4_7), (5, .int x_28), (6, .int x_10)]) C x_28 dX8_scan_92 5 rfl (by rw [hn9]; exact congrArg (a5_8 + ·) (by decide)) (by decide) [1, 2, 3, 4, 5, 0, 6] rfl ?_
        clear hn9
        refine V_goto C (tgt := 16) dX8_scan_95 (by decide) ?_
        refine V_sub (LP := [(0, .ref (E.1 30 0)), (1, .int c1_4), (2, .int c2_5), (3, .int c3_6), (4, .int c4_7), (5, .int x_28)]) [0, 1, 2, 3, 4, 5] rfl ?_
        exact ih _ _ h
set_option maxHeartbeats 4000000 in
set_option maxRecDepth 100000 in
theorem con_X8_scan {l : Launch} {E : WE} (hl : l.stackTraces = false) (a1 : Int32) (a2 : Int32)  {μ : Mem} {x} (h : f_X8_scan a1 a2 μ = some x) : Con l E lvM yX8_scan cX8_scan 8 (some .boolean) 3 [.ref (E.1 30 0), .int a1, .int a2] μ (rWi x) := by
  refine Con.of (by decide) hl (Nat.le_of_ble_eq_true rfl) (fun Y C => ?_)
  replace C : Ok Y l E lvM 8 RX8 cX8_scan (some .boolean) 3 := C
  show V Y l E lvM 8 (rWi x) 0 [(0, .ref (E.1 30 0)), (1, .int a1), (2, .int a2)] [] μ
  unfold f_X8_scan at h
  refine V_aload_n C 0 dX8_scan_0 rfl 0 rfl ?_
  refine V_bipush C (19 : Int32) dX8_scan_1 (by decide) ?_
  obtain ⟨v_1, hv, h⟩ := bP_inv h
  refine V_callVo C 30 0 m_30 (some (.int v_1)) (con_X8_last hl (19 : Int32) hv) tb_X8_last lk_RX8_142 rfl rfl rfl (by decide) (by decide) rfl (Nat.le_of_ble_eq_true rfl) rfl dX8_scan_3 rfl ?_
  clear hv
  refine V_istore_n (L' := [(0, .ref (E.1 30 0)), (1, .int a1), (2, .int a2), (3, .int v_1)]) C 3 dX8_scan_6 rfl (by decide) [1, 2, 3, 0] rfl ?_
  refine V_aload_n C 0 dX8_scan_7 rfl 0 rfl ?_
  obtain ⟨v_2, μ_3, hv, h⟩ := bW_inv h
  refine V_callVo C 30 0 m_30 (some (.int v_2)) (con_X8_same hl hv) tb_X8_same lk_RX8_109 rfl rfl rfl (by decide) (by decide) rfl (Nat.le_of_ble_eq_true rfl) rfl dX8_scan_8 rfl ?_
  clear hv
  refine V_istore (L' := [(0, .ref (E.1 30 0)), (1, .int a1), (2, .int a2), (3, .int v_1), (4, .int v_2)]) C dX8_scan_11 (by decide) [1, 2, 3, 4, 0] rfl ?_
  refine V_iconst C (0 : Int32) dX8_scan_13 (by decide) ?_
  refine V_istore (L' := [(0, .ref (E.1 30 0)), (1, .int a1), (2, .int a2), (3, .int v_1), (4, .int v_2), (5, .int (0 : Int32))]) C dX8_scan_14 (by decide) [1, 2, 3, 4, 5, 0] rfl ?_
  refine V_sub (LP := [(0, .ref (E.1 30 0)), (1, .int a1), (2, .int a2), (3, .int v_1), (4, .int v_2), (5, .int (0 : Int32))]) [0, 1, 2, 3, 4, 5] rfl ?_
  refine lp_X8_scan_16 hl C a1 a2 v_1 v_2 (fun μ_30 x h => ?_) 1000 _ _ h
  refine V_iload C dX8_scan_98 1 rfl ?_
  obtain ⟨j_31, hj_31, h⟩ := jn_ex h
  have J_31 : ∀ (_ : Unit) x, j_31 () = some x → V Y l E lvM 8 (rWi x) 114 [] [] μ_30 := by
    intro _  x h
    rw [hj_31] at h; clear hj_31
    refine V_iconst C (0 : Int32) dX8_scan_114 (by decide) ?_
    cases h
    exact V_ireturn C rfl rfl rfl dX8_scan_115
  clear hj_31
  refine V_if_eq C (tgt := 114) dX8_scan_100 (by decide) (fun hc => ?_) (fun hc => ?_)
  · replace h := (if_pos hc).symm.trans h
    refine V_sub (LP := []) [] rfl ?_
    exact J_31 () _ h
  · replace h := (if_neg hc).symm.trans h
    refine V_aload_n C 0 dX8_scan_103 rfl 0 rfl ?_
    refine V_getf (v := .int (μ_30 30 0 16)) C 30 0 m_30 fl_RX8_92 rfl rfl dX8_scan_104 ?_
    refine V_if_ne C (tgt := 114) dX8_scan_107 (by decide) (fun hc => ?_) (fun hc => ?_)
    · replace h := (if_neg hc).symm.trans h
      refine V_sub (LP := []) [] rfl ?_
      exact J_31 () _ h
    · replace h := (if_pos hc).symm.trans h
      refine V_iconst C (1 : Int32) dX8_scan_110 (by decide) ?_
      refine V_goto C (tgt := 115) dX8_scan_111 (by decide) ?_
      cases h
      exact V_ireturn C rfl rfl rfl dX8_scan_115
set_option maxHeartbeats 4000000 in
set_option maxRecDepth 100000 in
theorem lp_X8_count_61 {Y : Mc} {l : Launch} {E : WE} (hl : l.stackTraces = false) (C : Ok Y l E lvM 4 RX8 cX8_count (some .boolean) 3) {κ : Mem → Option (Int32 × Mem)} (c2_4 : Int32)  (hκ : ∀  (μ_10 : Mem) x, κ  μ_10 = some x → V Y l E lvM 4 (rWi x) 80 [] [] μ_10) : ∀ (n : Nat) (a3_5 : Int32) (μ_6 : Mem) {x}, f_X8_count_L61 κ c2_4 n a3_5 μ_6 = some x → V Y l E lvM 4 (rWi x) 61 [(0, .ref (E.1 30 0)), (2, .int c2_4), (3, .int a3_5)] [] μ_6 := by
  intro n
  induction n with
  | zero =>
    intro a3_5 μ_6 x h
    simp [f_X8_count_L61] at h
  | succ n ih =>
    intro a3_5 μ_6 x h
    rw [f_X8_count_L61] at h
    refine V_iload_n C 3 dX8_count_61 rfl 2 rfl ?_
    refine V_iload_n C 2 dX8_count_62 rfl 1 rfl ?_
    refine V_icmp_ge C (tgt := 80) dX8_count_63 (by decide) (fun hc => ?_) (fun hc => ?_)
    · replace h := (if_pos hc).symm.trans h
      refine V_sub (LP := []) [] rfl ?_
      exact hκ _ _ h
    · replace h := (if_neg hc).symm.trans h
      refine V_aload_n C 0 dX8_count_66 rfl 0 rfl ?_
      refine V_bipush C (8 : Int32) dX8_count_67 (by decide) ?_
      refine V_iload_n C 3 dX8_count_69 rfl 2 rfl ?_
      refine V_iload_n C 3 dX8_count_70 rfl 2 rfl ?_
      obtain ⟨u_7, μ_8, hv, h⟩ := bW_inv h
      refine V_callVo C 30 0 m_30 none (con_X8_set hl (8 : Int32) a3_5 a3_5 hv) tb_X8_set lk_RX8_122 rfl rfl rfl (by decide) (by decide) rfl (Nat.le_of_ble_eq_true rfl) rfl dX8_count_71 rfl ?_
      clear hv
      obtain ⟨x_9, hn9⟩ : ∃ z : Int32, z = a3_5 + (1 : Int32) := ⟨_, rfl⟩
      replace h := lt_eq hn9 h
      refine V_iinc (L' := [(0, .ref (E.1 30 0)), (2, .int c2_4), (3, .int x_9)]) C x_9 dX8_count_74 2 rfl (by rw [hn9]; exact congrArg (a3_5 + ·) (by decide)) (by decide) [1, 2, 0] rfl ?_
      clear hn9
      refine V_goto C (tgt := 61) dX8_count_77 (by decide) ?_
      refine V_sub (LP := [(0, .ref (E.1 30 0)), (2, .int c2_4), (3, .int x_9)]) [0, 1, 2] rfl ?_
      exact ih _ _ h
set_option maxHeartbeats 4000000 in
set_option maxRecDepth 100000 in
theorem con_X8_count {l : Launch} {E : WE} (hl : l.stackTraces = false) (a1 : Int32)  {μ : Mem} {x} (h : f_X8_count a1 μ = some x) : Con l E lvM yX8_count cX8_count 4 (some .boolean) 3 [.ref (E.1 30 0), .int a1] μ (rWi x) := by
  refine Con.of (by decide) hl (Nat.le_of_ble_eq_true rfl) (fun Y C => ?_)
  replace C : Ok Y l E lvM 4 RX8 cX8_count (some .boolean) 3 := C
  show V Y l E lvM 4 (rWi x) 0 [(0, .ref (E.1 30 0)), (1, .int a1)] [] μ
  unfold f_X8_count at h
  refine V_aload_n C 0 dX8_count_0 rfl 0 rfl ?_
  refine V_getf (v := .ref (E.1 32 0)) C 30 0 m_30 fl_RX8_13 rfl rfl dX8_count_1 ?_
  refine V_bipush C (19 : Int32) dX8_count_4 (by decide) ?_
  obtain ⟨hi9, h⟩ := gd_inv h
  refine V_iald C 32 0 m_32 (fun _ => rfl) (inb_in hi9) dX8_count_6 ?_
  refine V_iconst C (1 : Int32) dX8_count_7 (by decide) ?_
  refine V_icmp_le C (tgt := 17) dX8_count_8 (by decide) (fun hc => ?_) (fun hc => ?_)
  · replace h := (if_pos hc).symm.trans h
    refine V_iload_n C 1 dX8_count_17 rfl 1 rfl ?_
    refine V_iconst C (1 : Int32) dX8_count_18 (by decide) ?_
    refine V_icmp_eq C (tgt := 28) dX8_count_19 (by decide) (fun hc => ?_) (fun hc => ?_)
    · replace h := (if_pos hc).symm.trans h
      refine V_aload_n C 0 dX8_count_28 rfl 0 rfl ?_
      refine V_bipush C (19 : Int32) dX8_count_29 (by decide) ?_
      refine V_iconst C (0 : Int32) dX8_count_31 (by decide) ?_
      obtain ⟨v_1, hv, h⟩ := bP_inv h
      refine V_callVo C 30 0 m_30 (some (.int v_1)) (con_X8_get hl (19 : Int32) (0 : Int32) hv) tb_X8_get lk_RX8_119 rfl rfl rfl (by decide) (by decide) rfl (Nat.le_of_ble_eq_true rfl) rfl dX8_count_32 rfl ?_
      clear hv
      refine V_istore_n (L' := [(0, .ref (E.1 30 0)), (1, .int a1), (2, .int v_1)]) C 2 dX8_count_35 rfl (by decide) [1, 2, 0] rfl ?_
      refine V_iload_n C 2 dX8_count_36 rfl 2 rfl ?_
      refine V_if_ge C (tgt := 46) dX8_count_37 (by decide) (fun hc => ?_) (fun hc => ?_)
      · replace h := (if_pos hc).symm.trans h
        refine V_aload_n C 0 dX8_count_46 rfl 0 rfl ?_
        refine V_iconst C (1 : Int32) dX8_count_47 (by decide) ?_
        refine V_iload_n C 2 dX8_count_48 rfl 2 rfl ?_
        refine V_iconst C (0 : Int32) dX8_count_49 (by decide) ?_
        refine V_iconst C (0 : Int32) dX8_count_50 (by decide) ?_
        obtain ⟨v_2, μ_3, hv, h⟩ := bW_inv h
        refine V_callVo C 30 0 m_30 (some (.int v_2)) (con_X8_shape hl (1 : Int32) v_1 (0 : Int32) (0 : Int32) hv) tb_X8_shape lk_RX8_128 rfl rfl rfl (by decide) (by decide) rfl (Nat.le_of_ble_eq_true rfl) rfl dX8_count_51 rfl ?_
        clear hv
        refine V_if_ne C (tgt := 59) dX8_count_54 (by decide) (fun hc => ?_) (fun hc => ?_)
        · replace h := (if_neg hc).symm.trans h
          refine V_iconst C (0 : Int32) dX8_count_59 (by decide) ?_
          refine V_istore_n (L' := [(0, .ref (E.1 30 0)), (1, .int a1), (2, .int v_1), (3, .int (0 : Int32))]) C 3 dX8_count_60 rfl (by decide) [1, 2, 3, 0] rfl ?_
          refine V_sub (LP := [(0, .ref (E.1 30 0)), (2, .int v_1), (3, .int (0 : Int32))]) [0, 2, 3] rfl ?_
          refine lp_X8_count_61 hl C v_1 (fun μ_11 x h => ?_) 1000 _ _ h
          refine V_iconst C (1 : Int32) dX8_count_80 (by decide) ?_
          cases h
          exact V_ireturn C rfl rfl rfl dX8_count_81
        · replace h := (if_pos hc).symm.trans h
          refine V_iconst C (0 : Int32) dX8_count_57 (by decide) ?_
          cases h
          exact V_ireturn C rfl rfl rfl dX8_count_58
      · replace h := (if_neg hc).symm.trans h
        refine V_aload_n C 0 dX8_count_40 rfl 0 rfl ?_
        refine V_iconst C (2 : Int32) dX8_count_41 (by decide) ?_
        obtain ⟨v_12, μ_13, hv, h⟩ := bW_inv h
        refine V_callVo C 30 0 m_30 (some (.int v_12)) (con_X8_stop hl (2 : Int32) hv) tb_X8_stop lk_RX8_95 rfl rfl rfl (by decide) (by decide) rfl (Nat.le_of_ble_eq_true rfl) rfl dX8_count_42 rfl ?_
        clear hv
        obtain ⟨hr9, h⟩ := gd_inv h
        cases h
        exact V_ireturn C rfl (isb_nar hr9) rfl dX8_count_45
    · replace h := (if_neg hc).symm.trans h
      refine V_aload_n C 0 dX8_count_22 rfl 0 rfl ?_
      refine V_iconst C (3 : Int32) dX8_count_23 (by decide) ?_
      obtain ⟨v_14, μ_15, hv, h⟩ := bW_inv h
      refine V_callVo C 30 0 m_30 (some (.int v_14)) (con_X8_stop hl (3 : Int32) hv) tb_X8_stop lk_RX8_95 rfl rfl rfl (by decide) (by decide) rfl (Nat.le_of_ble_eq_true rfl) rfl dX8_count_24 rfl ?_
      clear hv
      obtain ⟨hr9, h⟩ := gd_inv h
      cases h
      exact V_ireturn C rfl (isb_nar hr9) rfl dX8_count_27
  · replace h := (if_neg hc).symm.trans h
    refine V_aload_n C 0 dX8_count_11 rfl 0 rfl ?_
    refine V_iconst C (4 : Int32) dX8_count_12 (by decide) ?_
    obtain ⟨v_16, μ_17, hv, h⟩ := bW_inv h
    refine V_callVo C 30 0 m_30 (some (.int v_16)) (con_X8_stop hl (4 : Int32) hv) tb_X8_stop lk_RX8_95 rfl rfl rfl (by decide) (by decide) rfl (Nat.le_of_ble_eq_true rfl) rfl dX8_count_13 rfl ?_
    clear hv
    obtain ⟨hr9, h⟩ := gd_inv h
    cases h
    exact V_ireturn C rfl (isb_nar hr9) rfl dX8_count_16
set_option maxHeartbeats 4000000 in
set_option maxRecDepth 100000 in
theorem lp_X8_turn_16 {Y : Mc} {l : Launch} {E : WE} (hl : l.stackTraces = false) (C : Ok Y l E lvM 11 RX8 cX8_turn (some .boolean) 2) {κ : Mem → Option (Int32 × Mem)} (c1_4 : Int32) (c2_5 : Int32) (c3_6 : Int32)  (hκ : ∀  (μ_12 : Mem) x, κ  μ_12 = some x → V Y l E lvM 11 (rWi x) 50 [(0, .ref (E.1 30 0)), (1, .int c1_4), (2, .int c2_5), (3, .int c3_6)] [] μ_12) : ∀ (n : Nat) (a4_7 : Int32) (μ_8 : Mem) {x}, f_X8_turn_L16 κ c1_4 c2_5 c3_6 n a4_7 μ_8 = some x → V Y l E lvM 11 (rWi x) 16 [(0, .ref (E.1 30 0)), (1, .int c1_4), (2, .int c2_5), (3, .int c3_6), (4, .int a4_7)] [] μ_8 := by
  intro n
  induction n with
  | zero =>
    intro a4_7 μ_8 x h
    simp [f_X8_turn_L16] at h
  | succ n ih =>
    intro a4_7 μ_8 x h
    rw [f_X8_turn_L16] at h
    refine V_iload C dX8_turn_16 4 rfl ?_
    refine V_iload_n C 2 dX8_turn_18 rfl 2 rfl ?_
    refine V_icmp_ge C (tgt := 50) dX8_turn_19 (by decide) (fun hc => ?_) (fun hc => ?_)
    · replace h := (if_pos hc).symm.trans h
      refine V_sub (LP := [(0, .ref (E.1 30 0)), (1, .int c1_4), (2, .int c2_5), (3, .int c3_6)]) [0, 1, 2, 3] rfl ?_
      exact hκ _ _ h
    · replace h := (if_neg hc).symm.trans h
      refine V_aload_n C 0 dX8_turn_22 rfl 0 rfl ?_
      refine V_getf (v := .ref (E.1 33 0)) C 30 0 m_30 fl_RX8_16 rfl rfl dX8_turn_23 ?_
      refine V_bipush C (24 : Int32) dX8_turn_26 (by decide) ?_
      refine V_iload C dX8_turn_28 4 rfl ?_
      refine V_iadd C dX8_turn_30 ?_
      refine V_aload_n C 0 dX8_turn_31 rfl 0 rfl ?_
      refine V_bipush C (19 : Int32) dX8_turn_32 (by decide) ?_
      refine V_iload_n C 2 dX8_turn_34 rfl 2 rfl ?_
      refine V_iconst C (1 : Int32) dX8_turn_35 (by decide) ?_
      refine V_isub C dX8_turn_36 ?_
      refine V_iload C dX8_turn_37 4 rfl ?_
      refine V_isub C dX8_turn_39 ?_
      obtain ⟨v_9, hv, h⟩ := bP_inv h
      refine V_callVo C 30 0 m_30 (some (.int v_9)) (con_X8_axisOf hl (19 : Int32) ((c2_5 - (1 : Int32)) - a4_7) hv) tb_X8_axisOf lk_RX8_88 rfl rfl rfl (by decide) (by decide) rfl (Nat.le_of_ble_eq_true rfl) rfl dX8_turn_40 rfl ?_
      clear hv
      obtain ⟨hi9, h⟩ := gd_inv h
      refine V_iast C 33 0 m_33 (fun _ => rfl) (inb_in hi9) dX8_turn_43 ?_
      refine V_memn (fun μ_10 hn9 => ?_)
      replace h := lt_eq hn9 h; clear hn9
      obtain ⟨x_11, hn9⟩ : ∃ z : Int32, z = a4_7 + (1 : Int32) := ⟨_, rfl⟩
      replace h := lt_eq hn9 h
      refine V_iinc (L' := [(0, .ref (E.1 30 0)), (1, .int c1_4), (2, .int c2_5), (3, .int c3_6), (4, .int x_11)]) C x_11 dX8_turn_44 4 rfl (by rw [hn9]; exact congrArg (a4_7 + ·) (by decide)) (by decide) [1, 2, 3, 4, 0] rfl ?_
      clear hn9
      refine V_goto C (tgt := 16) dX8_turn_47 (by decide) ?_
      refine V_sub (LP := [(0, .ref (E.1 30 0)), (1, .int c1_4), (2, .int c2_5), (3, .int c3_6), (4, .int x_11)]) [0, 1, 2, 3, 4] rfl ?_
      exact ih _ _ h
set_option maxHeartbeats 4000000 in
set_option maxRecDepth 100000 in
theorem lp_X8_turn_111 {Y : Mc} {l : Launch} {E : WE} (hl : l.stackTraces = false) (C : Ok Y l E lvM 11 RX8 cX8_turn (some .boolean) 2) {κ : Int32 → Option (Int32 × Mem)} (c1_33 : Int32) (c2_34 : Int32) (c3_35 : Int32) (c4_36 : Int32) (c5_37 : Int32) (c6_38 : Int32) (c7_39 : Int32) (c8_40 : Int32) (μ_43 : Mem)  (hκ : ∀ (a9_47 : Int32) x, κ a9_47 = some x → V Y l E lvM 11 (rWi x) 136 [(0, .ref (E.1 30 0)), (1, .int c1_33), (2, .int c2_34), (3, .int c3_35), (4, .int c4_36), (5, .int c5_37), (6, .int c6_38), (7, .int c7_39), (8, .int c8_40), (9, .int a9_47)] [] μ_43) : ∀ (n : Nat) (a9_41 : Int32) (a10_42 : Int32) {x}, f_X8_turn_L111 κ c1_33 c2_34 c3_35 c4_36 c5_37 c6_38 c7_39 c8_40 μ_43 n a9_41 a10_42 = some x → V Y l E lvM 11 (rWi x) 111 [(0, .ref (E.1 30 0)), (1, .int c1_33), (2, .int c2_34), (3, .int c3_35), (4, .int c4_36), (5, .int c5_37), (6, .int c6_38), (7, .int c7_39), (8, .int c8_40), (9, .int a9_41), (10, .int a10_42)] [] μ_43 := by
  intro n
  induction n with
  | zero =>
    intro a9_41 a10_42 x h
    simp [f_X8_turn_L111] at h
  | succ n ih =>
    intro a9_41 a10_42 x h
    rw [f_X8_turn_L111] at h
    refine V_iload C dX8_turn_111 10 rfl ?_
    refine V_iload_n C 2 dX8_turn_113 rfl 2 rfl ?_
    refine V_icmp_ge C (tgt := 136) dX8_turn_114 (by decide) (fun hc => ?_) (fun hc => ?_)
    · replace h := (if_pos hc).symm.trans h
      refine V_sub (LP := [(0, .ref (E.1 30 0)), (1, .int c1_33), (2, .int c2_34), (3, .int c3_35), (4, .int c4_36), (5, .int c5_37), (6, .int c6_38), (7, .int c7_39), (8, .int c8_40), (9, .int a9_41)]) [0, 1, 2, 3, 4, 5, 6, 7, 8, 9] rfl ?_
      exact hκ _ _ h
    · replace h := (if_neg hc).symm.trans h
      refine V_iload C dX8_turn_117 9 rfl ?_
      refine V_aload_n C 0 dX8_turn_119 rfl 0 rfl ?_
      refine V_bipush C (19 : Int32) dX8_turn_120 (by decide) ?_
      refine V_iload C dX8_turn_122 10 rfl ?_
      obtain ⟨v_44, hv, h⟩ := bP_inv h
      refine V_callVo C 30 0 m_30 (some (.int v_44)) (con_X8_axisOf hl (19 : Int32) a10_42 hv) tb_X8_axisOf lk_RX8_88 rfl rfl rfl (by decide) (by decide) rfl (Nat.le_of_ble_eq_true rfl) rfl dX8_turn_124 rfl ?_
      clear hv
      refine V_imul C dX8_turn_127 ?_
      refine V_topi (fun x_45 hn9 => ?_)
      replace h := lt_eq hn9 h; clear hn9
      refine V_istore (L' := [(0, .ref (E.1 30 0)), (1, .int c1_33), (2, .int c2_34), (3, .int c3_35), (4, .int c4_36), (5, .int c5_37), (6, .int c6_38), (7, .int c7_39), (8, .int c8_40), (9, .int x_45), (10, .int a10_42)]) C dX8_turn_128 (by decide) [1, 2, 3, 4, 5, 6, 7, 8, 9, 0, 10] rfl ?_
      obtain ⟨x_46, hn9⟩ : ∃ z : Int32, z = a10_42 + (1 : Int32) := ⟨_, rfl⟩
      replace h := lt_eq hn9 h
      refine V_iinc (L' := [(0, .ref (E.1 30 0)), (1, .int c1_33), (2, .int c2_34), (3, .int c3_35), (4, .int c4_36), (5, .int c5_37), (6, .int c6_38), (7, .int c7_39), (8, .int c8_40), (9, .int x_45), (10, .int x_46)]) C x_46 dX8_turn_130 10 rfl (by rw [hn9]; exact congrArg (a10_42 + ·) (by decide)) (by decide) [1, 2, 3, 4, 5, 6, 7, 8, 9, 10, 0] rfl ?_
      clear hn9
      refine V_goto C (tgt := 111) dX8_turn_133 (by decide) ?_
      refine V_sub (LP := [(0, .ref (E.1 30 0)), (1, .int c1_33), (2, .int c2_34), (3, .int c3_35), (4, .int c4_36), (5, .int c5_37), (6, .int c6_38), (7, .int c7_39), (8, .int c8_40), (9, .int x_45), (10, .int x_46)]) [0, 1, 2, 3, 4, 5, 6, 7, 8, 9, 10] rfl ?_
      exact ih _ _ h
set_option maxHeartbeats 4000000 in
set_option maxRecDepth 100000 in
theorem lp_X8_turn_71 {Y : Mc} {l : Launch} {E : WE} (hl : l.stackTraces = false) (C : Ok Y l E lvM 11 RX8 cX8_turn (some .boolean) 2) {κ : Int32 → Option (Int32 × Mem)} (c1_20 : Int32) (c2_21 : Int32) (c3_22 : Int32) (c4_23 : Int32) (μ_27 : Mem)  (hκ : ∀ (a6_51 : Int32) x, κ a6_51 = some x → V Y l E lvM 11 (rWi x) 152 [(0, .ref (E.1 30 0)), (1, .int c1_20), (2, .int c2_21), (3, .int c3_22), (4, .int c4_23), (6, .int a6_51)] [] μ_27) : ∀ (n : Nat) (a5_24 : Int32) (a6_25 : Int32) (a7_26 : Int32) {x}, f_X8_turn_L71 κ c1_20 c2_21 c3_22 c4_23 μ_27 n a5_24 a6_25 a7_26 = some x → V Y l E lvM 11 (rWi x) 71 [(0, .ref (E.1 30 0)), (1, .int c1_20), (2, .int c2_21), (3, .int c3_22), (4, .int c4_23), (5, .int a5_24), (6, .int a6_25), (7, .int a7_26)] [] μ_27 := by
  intro n
  induction n with
  | zero =>
    intro a5_24 a6_25 a7_26 x h
    simp [f_X8_turn_L71] at h
  | succ n ih =>
    intro a5_24 a6_25 a7_26 x h
    rw [f_X8_turn_L71] at h
    refine V_iload C dX8_turn_71 7 rfl ?_
    refine V_if_lt C (tgt := 152) dX8_turn_73 (by decide) (fun hc => ?_) (fun hc => ?_)
    · replace h := (if_pos hc).symm.trans h
      refine V_sub (LP := [(0, .ref (E.1 30 0)), (1, .int c1_20), (2, .int c2_21), (3, .int c3_22), (4, .int c4_23), (6, .int a6_25)]) [0, 1, 2, 3, 4, 6] rfl ?_
      exact hκ _ _ h
    · replace h := (if_neg hc).symm.trans h
      refine V_iload C dX8_turn_76 5 rfl ?_
      refine V_aload_n C 0 dX8_turn_78 rfl 0 rfl ?_
      refine V_bipush C (8 : Int32) dX8_turn_79 (by decide) ?_
      refine V_iload C dX8_turn_81 7 rfl ?_
      obtain ⟨v_28, hv, h⟩ := bP_inv h
      refine V_callVo C 30 0 m_30 (some (.int v_28)) (con_X8_axisOf hl (8 : Int32) a7_26 hv) tb_X8_axisOf lk_RX8_88 rfl rfl rfl (by decide) (by decide) rfl (Nat.le_of_ble_eq_true rfl) rfl dX8_turn_83 rfl ?_
      clear hv
      obtain ⟨hz9, h⟩ := gd_inv h
      refine V_irem C dX8_turn_86 (nz_ne hz9) ?_
      refine V_topi (fun x_29 hn9 => ?_)
      replace h := lt_eq hn9 h; clear hn9
      refine V_istore (L' := [(0, .ref (E.1 30 0)), (1, .int c1_20), (2, .int c2_21), (3, .int c3_22), (4, .int c4_23), (5, .int a5_24), (6, .int a6_25), (7, .int a7_26), (8, .int x_29)]) C dX8_turn_87 (by decide) [1, 2, 3, 4, 5, 6, 7, 8, 0] rfl ?_
      refine V_iload C dX8_turn_89 5 rfl ?_
      refine V_aload_n C 0 dX8_turn_91 rfl 0 rfl ?_
      refine V_bipush C (8 : Int32) dX8_turn_92 (by decide) ?_
      refine V_iload C dX8_turn_94 7 rfl ?_
      obtain ⟨v_30, hv, h⟩ := bP_inv h
      refine V_callVo C 30 0 m_30 (some (.int v_30)) (con_X8_axisOf hl (8 : Int32) a7_26 hv) tb_X8_axisOf lk_RX8_88 rfl rfl rfl (by decide) (by decide) rfl (Nat.le_of_ble_eq_true rfl) rfl dX8_turn_96 rfl ?_
      clear hv
      obtain ⟨hz9, h⟩ := gd_inv h
      refine V_idiv C dX8_turn_99 (nz_ne hz9) ?_
      refine V_topi (fun x_31 hn9 => ?_)
      replace h := lt_eq hn9 h; clear hn9
      refine V_istore (L' := [(0, .ref (E.1 30 0)), (1, .int c1_20), (2, .int c2_21), (3, .int c3_22), (4, .int c4_23), (5, .int x_31), (6, .int a6_25), (7, .int a7_26), (8, .int x_29)]) C dX8_turn_100 (by decide) [1, 2, 3, 4, 5, 0, 6, 7, 8] rfl ?_
      refine V_iconst C (1 : Int32) dX8_turn_102 (by decide) ?_
      refine V_istore (L' := [(0, .ref (E.1 30 0)), (1, .int c1_20), (2, .int c2_21), (3, .int c3_22), (4, .int c4_23), (5, .int x_31), (6, .int a6_25), (7, .int a7_26), (8, .int x_29), (9, .int (1 : Int32))]) C dX8_turn_103 (by decide) [1, 2, 3, 4, 5, 6, 7, 8, 9, 0] rfl ?_
      refine V_iload_n C 2 dX8_turn_105 rfl 2 rfl ?_
      refine V_iload C dX8_turn_106 7 rfl ?_
      refine V_isub C dX8_turn_108 ?_
      refine V_topi (fun x_32 hn9 => ?_)
      replace h := lt_eq hn9 h; clear hn9
      refine V_istore (L' := [(0, .ref (E.1 30 0)), (1, .int c1_20), (2, .int c2_21), (3, .int c3_22), (4, .int c4_23), (5, .int x_31), (6, .int a6_25), (7, .int a7_26), (8, .int x_29), (9, .int (1 : Int32)), (10, .int x_32)]) C dX8_turn_109 (by decide) [1, 2, 3, 4, 5, 6, 7, 8, 9, 10, 0] rfl ?_
      refine V_sub (LP := [(0, .ref (E.1 30 0)), (1, .int c1_20), (2, .int c2_21), (3, .int c3_22), (4, .int c4_23), (5, .int x_31), (6, .int a6_25), (7, .int a7_26), (8, .int x_29), (9, .int (1 : Int32)), (10, .int x_32)]) [0, 1, 2, 3, 4, 5, 6, 7, 8, 9, 10] rfl ?_
      refine lp_X8_turn_111 hl C c1_20 c2_21 c3_22 c4_23 x_31 a6_25 a7_26 x_29 μ_27 (fun a9_48 x h => ?_) 1000 _ _ h
      refine V_iload C dX8_turn_136 6 rfl ?_
      refine V_iload C dX8_turn_138 8 rfl ?_
      refine V_iload C dX8_turn_140 9 rfl ?_
      refine V_imul C dX8_turn_142 ?_
      refine V_iadd C dX8_turn_143 ?_
      refine V_topi (fun x_49 hn9 => ?_)
      replace h := lt_eq hn9 h; clear hn9
      refine V_istore (L' := [(0, .ref (E.1 30 0)), (1, .int c1_20), (2, .int c2_21), (3, .int c3_22), (4, .int c4_23), (5, .int x_31), (6, .int x_49), (7, .int a7_26), (8, .int x_29), (9, .int a9_48)]) C dX8_turn_144 (by decide) [1, 2, 3, 4, 5, 6, 0, 7, 8, 9] rfl ?_
      obtain ⟨x_50, hn9⟩ : ∃ z : Int32, z = a7_26 + (-1 : Int32) := ⟨_, rfl⟩
      replace h := lt_eq hn9 h
      refine V_iinc (L' := [(0, .ref (E.1 30 0)), (1, .int c1_20), (2, .int c2_21), (3, .int c3_22), (4, .int c4_23), (5, .int x_31), (6, .int x_49), (7, .int x_50), (8, .int x_29), (9, .int a9_48)]) C x_50 dX8_turn_146 7 rfl (by rw [hn9]; exact congrArg (a7_26 + ·) (by decide)) (by decide) [1, 2, 3, 4, 5, 6, 7, 0, 8, 9] rfl ?_
      clear hn9
      refine V_goto C (tgt := 71) dX8_turn_149 (by decide) ?_
      refine V_sub (LP := [(0, .ref (E.1 30 0)), (1, .int c1_20), (2, .int c2_21), (3, .int c3_22), (4, .int c4_23), (5, .int x_31), (6, .int x_49), (7, .int x_50)]) [0, 1, 2, 3, 4, 5, 6, 7] rfl ?_
      exact ih _ _ _ h
set_option maxHeartbeats 4000000 in
set_option maxRecDepth 100000 in
theorem lp_X8_turn_53 {Y : Mc} {l : Launch} {E : WE} (hl : l.stackTraces = false) (C : Ok Y l E lvM 11 RX8 cX8_turn (some .boolean) 2) {κ : Mem → Option (Int32 × Mem)} (c1_14 : Int32) (c2_15 : Int32) (c3_16 : Int32)  (hκ : ∀  (μ_57 : Mem) x, κ  μ_57 = some x → V Y l E lvM 11 (rWi x) 174 [(3, .int c3_16)] [] μ_57) : ∀ (n : Nat) (a4_17 : Int32) (μ_18 : Mem) {x}, f_X8_turn_L53 κ c1_14 c2_15 c3_16 n a4_17 μ_18 = some x → V Y l E lvM 11 (rWi x) 53 [(0, .ref (E.1 30 0)), (1, .int c1_14), (2, .int c2_15), (3, .int c3_16), (4, .int a4_17)] [] μ_18 := by
  intro n
  induction n with
  | zero =>
    intro a4_17 μ_18 x h
    simp [f_X8_turn_L53] at h
  | succ n ih =>
    intro a4_17 μ_18 x h
    rw [f_X8_turn_L53] at h
    refine V_iload C dX8_turn_53 4 rfl ?_
    refine V_iload_n C 1 dX8_turn_55 rfl 1 rfl ?_
    refine V_icmp_ge C (tgt := 174) dX8_turn_56 (by decide) (fun hc => ?_) (fun hc => ?_)
    · replace h := (if_pos hc).symm.trans h
      refine V_sub (LP := [(3, .int c3_16)]) [3] rfl ?_
      exact hκ _ _ h
    · replace h := (if_neg hc).symm.trans h
      refine V_iload C dX8_turn_59 4 rfl ?_
      refine V_istore (L' := [(0, .ref (E.1 30 0)), (1, .int c1_14), (2, .int c2_15), (3, .int c3_16), (4, .int a4_17), (5, .int a4_17)]) C dX8_turn_61 (by decide) [1, 2, 3, 4, 5, 0] rfl ?_
      refine V_iconst C (0 : Int32) dX8_turn_63 (by decide) ?_
      refine V_istore (L' := [(0, .ref (E.1 30 0)), (1, .int c1_14), (2, .int c2_15), (3, .int c3_16), (4, .int a4_17), (5, .int a4_17), (6, .int (0 : Int32))]) C dX8_turn_64 (by decide) [1, 2, 3, 4, 5, 6, 0] rfl ?_
      refine V_iload_n C 2 dX8_turn_66 rfl 2 rfl ?_
      refine V_iconst C (1 : Int32) dX8_turn_67 (by decide) ?_
      refine V_isub C dX8_turn_68 ?_
      refine V_topi (fun x_19 hn9 => ?_)
      replace h := lt_eq hn9 h; clear hn9
      refine V_istore (L' := [(0, .ref (E.1 30 0)), (1, .int c1_14), (2, .int c2_15), (3, .int c3_16), (4, .int a4_17), (5, .int a4_17), (6, .int (0 : Int32)), (7, .int x_19)]) C dX8_turn_69 (by decide) [1, 2, 3, 4, 5, 6, 7, 0] rfl ?_
      refine V_sub (LP := [(0, .ref (E.1 30 0)), (1, .int c1_14), (2, .int c2_15), (3, .int c3_16), (4, .int a4_17), (5, .int a4_17), (6, .int (0 : Int32)), (7, .int x_19)]) [0, 1, 2, 3, 4, 5, 6, 7] rfl ?_
      refine lp_X8_turn_71 hl C c1_14 c2_15 c3_16 a4_17 μ_18 (fun a6_52 x h => ?_) 1000 _ _ _ h
      refine V_aload_n C 0 dX8_turn_152 rfl 0 rfl ?_
      refine V_bipush C (8 : Int32) dX8_turn_153 (by decide) ?_
      refine V_iload C dX8_turn_155 4 rfl ?_
      refine V_aload_n C 0 dX8_turn_157 rfl 0 rfl ?_
      refine V_bipush C (19 : Int32) dX8_turn_158 (by decide) ?_
      refine V_iload C dX8_turn_160 5 rfl ?_
      obtain ⟨v_53, hv, h⟩ := bP_inv h
      refine V_callVo C 30 0 m_30 (some (.int v_53)) (con_X8_get hl (19 : Int32) a6_52 hv) tb_X8_get lk_RX8_119 rfl rfl rfl (by decide) (by decide) rfl (Nat.le_of_ble_eq_true rfl) rfl dX8_turn_162 rfl ?_
      clear hv
      obtain ⟨u_54, μ_55, hv, h⟩ := bW_inv h
      refine V_callVo C 30 0 m_30 none (con_X8_set hl (8 : Int32) a4_17 v_53 hv) tb_X8_set lk_RX8_122 rfl rfl rfl (by decide) (by decide) rfl (Nat.le_of_ble_eq_true rfl) rfl dX8_turn_165 rfl ?_
      clear hv
      obtain ⟨x_56, hn9⟩ : ∃ z : Int32, z = a4_17 + (1 : Int32) := ⟨_, rfl⟩
      replace h := lt_eq hn9 h
      refine V_iinc (L' := [(0, .ref (E.1 30 0)), (1, .int c1_14), (2, .int c2_15), (3, .int c3_16), (4, .int x_56), (6, .int a6_52)]) C x_56 dX8_turn_168 4 rfl (by rw [hn9]; exact congrArg (a4_17 + ·) (by decide)) (by decide) [1, 2, 3, 4, 0, 5] rfl ?_
      clear hn9
      refine V_goto C (tgt := 53) dX8_turn_171 (by decide) ?_
      refine V_sub (LP := [(0, .ref (E.1 30 0)), (1, .int c1_14), (2, .int c2_15), (3, .int c3_16), (4, .int x_56)]) [0, 1, 2, 3, 4] rfl ?_
      exact ih _ _ h
set_option maxHeartbeats 4000000 in
set_option maxRecDepth 100000 in
theorem con_X8_turn {l : Launch} {E : WE} (hl : l.stackTraces = false) (a1 : Int32)  {μ : Mem} {x} (h : f_X8_turn a1 μ = some x) : Con l E lvM yX8_turn cX8_turn 11 (some .boolean) 2 [.ref (E.1 30 0), .int a1] μ (rWi x) := by
  refine Con.of (by decide) hl (Nat.le_of_ble_eq_true rfl) (fun Y C => ?_)
  replace C : Ok Y l E lvM 11 RX8 cX8_turn (some .boolean) 2 := C
  show V Y l E lvM 11 (rWi x) 0 [(0, .ref (E.1 30 0)), (1, .int a1)] [] μ
  unfold f_X8_turn at h
  refine V_aload_n C 0 dX8_turn_0 rfl 0 rfl ?_
  refine V_getf (v := .ref (E.1 32 0)) C 30 0 m_30 fl_RX8_13 rfl rfl dX8_turn_1 ?_
  refine V_bipush C (19 : Int32) dX8_turn_4 (by decide) ?_
  obtain ⟨hi9, h⟩ := gd_inv h
  refine V_iald C 32 0 m_32 (fun _ => rfl) (inb_in hi9) dX8_turn_6 ?_
  refine V_topi (fun x_1 hn9 => ?_)
  replace h := lt_eq hn9 h; clear hn9
  refine V_istore_n (L' := [(0, .ref (E.1 30 0)), (1, .int a1), (2, .int x_1)]) C 2 dX8_turn_7 rfl (by decide) [1, 2, 0] rfl ?_
  refine V_aload_n C 0 dX8_turn_8 rfl 0 rfl ?_
  obtain ⟨v_2, μ_3, hv, h⟩ := bW_inv h
  refine V_callVo C 30 0 m_30 (some (.int v_2)) (con_X8_same hl hv) tb_X8_same lk_RX8_109 rfl rfl rfl (by decide) (by decide) rfl (Nat.le_of_ble_eq_true rfl) rfl dX8_turn_9 rfl ?_
  clear hv
  refine V_istore_n (L' := [(0, .ref (E.1 30 0)), (1, .int a1), (2, .int x_1), (3, .int v_2)]) C 3 dX8_turn_12 rfl (by decide) [1, 2, 3, 0] rfl ?_
  refine V_iconst C (0 : Int32) dX8_turn_13 (by decide) ?_
  refine V_istore (L' := [(0, .ref (E.1 30 0)), (1, .int a1), (2, .int x_1), (3, .int v_2), (4, .int (0 : Int32))]) C dX8_turn_14 (by decide) [1, 2, 3, 4, 0] rfl ?_
  refine V_sub (LP := [(0, .ref (E.1 30 0)), (1, .int a1), (2, .int x_1), (3, .int v_2), (4, .int (0 : Int32))]) [0, 1, 2, 3, 4] rfl ?_
  refine lp_X8_turn_16 hl C a1 x_1 v_2 (fun μ_13 x h => ?_) 1000 _ _ h
  refine V_iconst C (0 : Int32) dX8_turn_50 (by decide) ?_
  refine V_istore (L' := [(0, .ref (E.1 30 0)), (1, .int a1), (2, .int x_1), (3, .int v_2), (4, .int (0 : Int32))]) C dX8_turn_51 (by decide) [1, 2, 3, 4, 0] rfl ?_
  refine V_sub (LP := [(0, .ref (E.1 30 0)), (1, .int a1), (2, .int x_1), (3, .int v_2), (4, .int (0 : Int32))]) [0, 1, 2, 3, 4] rfl ?_
  refine lp_X8_turn_53 hl C a1 x_1 v_2 (fun μ_58 x h => ?_) 1000 _ _ h
  refine V_iload_n C 3 dX8_turn_174 rfl 0 rfl ?_
  obtain ⟨hr9, h⟩ := gd_inv h
  cases h
  exact V_ireturn C rfl (isb_nar hr9) rfl dX8_turn_175
set_option maxHeartbeats 4000000 in
set_option maxRecDepth 100000 in
theorem lp_X8_reverse_15 {Y : Mc} {l : Launch} {E : WE} (hl : l.stackTraces = false) (C : Ok Y l E lvM 5 RX8 cX8_reverse (some .boolean) 2) {κ : Mem → Option (Int32 × Mem)} (c1_4 : Int32) (c2_5 : Int32) (c3_6 : Int32)  (hκ : ∀  (μ_13 : Mem) x, κ  μ_13 = some x → V Y l E lvM 5 (rWi x) 56 [(3, .int c3_6)] [] μ_13) : ∀ (n : Nat) (a4_7 : Int32) (μ_8 : Mem) {x}, f_X8_reverse_L15 κ c1_4 c2_5 c3_6 n a4_7 μ_8 = some x → V Y l E lvM 5 (rWi x) 15 [(0, .ref (E.1 30 0)), (1, .int c1_4), (2, .int c2_5), (3, .int c3_6), (4, .int a4_7)] [] μ_8 := by
  intro n
  induction n with
  | zero =>
    intro a4_7 μ_8 x h
    simp [f_X8_reverse_L15] at h
  | succ n ih =>
    intro a4_7 μ_8 x h
    rw [f_X8_reverse_L15] at h
    refine V_iload C dX8_reverse_15 4 rfl ?_
    refine V_iload_n C 1 dX8_reverse_17 rfl 1 rfl ?_
    refine V_icmp_ge C (tgt := 56) dX8_reverse_18 (by decide) (fun hc => ?_) (fun hc => ?_)
    · replace h := (if_pos hc).symm.trans h
      refine V_sub (LP := [(3, .int c3_6)]) [3] rfl ?_
      exact hκ _ _ h
    · replace h := (if_neg hc).symm.trans h
      refine V_aload_n C 0 dX8_reverse_21 rfl 0 rfl ?_
      refine V_bipush C (8 : Int32) dX8_reverse_22 (by decide) ?_
      refine V_iload C dX8_reverse_24 4 rfl ?_
      refine V_aload_n C 0 dX8_reverse_26 rfl 0 rfl ?_
      refine V_bipush C (19 : Int32) dX8_reverse_27 (by decide) ?_
      refine V_iload C dX8_reverse_29 4 rfl ?_
      refine V_iload_n C 2 dX8_reverse_31 rfl 2 rfl ?_
      obtain ⟨hz9, h⟩ := gd_inv h
      refine V_idiv C dX8_reverse_32 (nz_ne hz9) ?_
      refine V_iload_n C 2 dX8_reverse_33 rfl 2 rfl ?_
      refine V_imul C dX8_reverse_34 ?_
      refine V_iload_n C 2 dX8_reverse_35 rfl 2 rfl ?_
      refine V_iconst C (1 : Int32) dX8_reverse_36 (by decide) ?_
      refine V_isub C dX8_reverse_37 ?_
      refine V_iload C dX8_reverse_38 4 rfl ?_
      refine V_iload_n C 2 dX8_reverse_40 rfl 2 rfl ?_
      obtain ⟨hz9, h⟩ := gd_inv h
      refine V_irem C dX8_reverse_41 (nz_ne hz9) ?_
      refine V_isub C dX8_reverse_42 ?_
      refine V_iadd C dX8_reverse_43 ?_
      obtain ⟨v_9, hv, h⟩ := bP_inv h
      refine V_callVo C 30 0 m_30 (some (.int v_9)) (con_X8_get hl (19 : Int32) (((a4_7 / c2_5) * c2_5) + ((c2_5 - (1 : Int32)) - (a4_7 - a4_7 / c2_5 * c2_5))) hv) tb_X8_get lk_RX8_119 rfl rfl rfl (by decide) (by decide) rfl (Nat.le_of_ble_eq_true rfl) rfl dX8_reverse_44 rfl ?_
      clear hv
      obtain ⟨u_10, μ_11, hv, h⟩ := bW_inv h
      refine V_callVo C 30 0 m_30 none (con_X8_set hl (8 : Int32) a4_7 v_9 hv) tb_X8_set lk_RX8_122 rfl rfl rfl (by decide) (by decide) rfl (Nat.le_of_ble_eq_true rfl) rfl dX8_reverse_47 rfl ?_
      clear hv
      obtain ⟨x_12, hn9⟩ : ∃ z : Int32, z = a4_7 + (1 : Int32) := ⟨_, rfl⟩
      replace h := lt_eq hn9 h
      refine V_iinc (L' := [(0, .ref (E.1 30 0)), (1, .int c1_4), (2, .int c2_5), (3, .int c3_6), (4, .int x_12)]) C x_12 dX8_reverse_50 4 rfl (by rw [hn9]; exact congrArg (a4_7 + ·) (by decide)) (by decide) [1, 2, 3, 4, 0] rfl ?_
      clear hn9
      refine V_goto C (tgt := 15) dX8_reverse_53 (by decide) ?_
      refine V_sub (LP := [(0, .ref (E.1 30 0)), (1, .int c1_4), (2, .int c2_5), (3, .int c3_6), (4, .int x_12)]) [0, 1, 2, 3, 4] rfl ?_
      exact ih _ _ h
set_option maxHeartbeats 4000000 in
set_option maxRecDepth 100000 in
theorem con_X8_reverse {l : Launch} {E : WE} (hl : l.stackTraces = false) (a1 : Int32)  {μ : Mem} {x} (h : f_X8_reverse a1 μ = some x) : Con l E lvM yX8_reverse cX8_reverse 5 (some .boolean) 2 [.ref (E.1 30 0), .int a1] μ (rWi x) := by
  refine Con.of (by decide) hl (Nat.le_of_ble_eq_true rfl) (fun Y C => ?_)
  replace C : Ok Y l E lvM 5 RX8 cX8_reverse (some .boolean) 2 := C
  show V Y l E lvM 5 (rWi x) 0 [(0, .ref (E.1 30 0)), (1, .int a1)] [] μ
  unfold f_X8_reverse at h
  refine V_aload_n C 0 dX8_reverse_0 rfl 0 rfl ?_
  refine V_bipush C (19 : Int32) dX8_reverse_1 (by decide) ?_
  obtain ⟨v_1, hv, h⟩ := bP_inv h
  refine V_callVo C 30 0 m_30 (some (.int v_1)) (con_X8_last hl (19 : Int32) hv) tb_X8_last lk_RX8_142 rfl rfl rfl (by decide) (by decide) rfl (Nat.le_of_ble_eq_true rfl) rfl dX8_reverse_3 rfl ?_
  clear hv
  refine V_istore_n (L' := [(0, .ref (E.1 30 0)), (1, .int a1), (2, .int v_1)]) C 2 dX8_reverse_6 rfl (by decide) [1, 2, 0] rfl ?_
  refine V_aload_n C 0 dX8_reverse_7 rfl 0 rfl ?_
  obtain ⟨v_2, μ_3, hv, h⟩ := bW_inv h
  refine V_callVo C 30 0 m_30 (some (.int v_2)) (con_X8_same hl hv) tb_X8_same lk_RX8_109 rfl rfl rfl (by decide) (by decide) rfl (Nat.le_of_ble_eq_true rfl) rfl dX8_reverse_8 rfl ?_
  clear hv
  refine V_istore_n (L' := [(0, .ref (E.1 30 0)), (1, .int a1), (2, .int v_1), (3, .int v_2)]) C 3 dX8_reverse_11 rfl (by decide) [1, 2, 3, 0] rfl ?_
  refine V_iconst C (0 : Int32) dX8_reverse_12 (by decide) ?_
  refine V_istore (L' := [(0, .ref (E.1 30 0)), (1, .int a1), (2, .int v_1), (3, .int v_2), (4, .int (0 : Int32))]) C dX8_reverse_13 (by decide) [1, 2, 3, 4, 0] rfl ?_
  refine V_sub (LP := [(0, .ref (E.1 30 0)), (1, .int a1), (2, .int v_1), (3, .int v_2), (4, .int (0 : Int32))]) [0, 1, 2, 3, 4] rfl ?_
  refine lp_X8_reverse_15 hl C a1 v_1 v_2 (fun μ_14 x h => ?_) 1000 _ _ h
  refine V_iload_n C 3 dX8_reverse_56 rfl 0 rfl ?_
  obtain ⟨hr9, h⟩ := gd_inv h
  cases h
  exact V_ireturn C rfl (isb_nar hr9) rfl dX8_reverse_57
