set_option maxHeartbeats 4000000 in
set_option maxRecDepth 100000 in
theorem con_X8_thrown {l : Launch} {E : WE} (hl : l.stackTraces = false)   {μ : Mem} {x} (h : f_X8_thrown  μ = some x) : Con l E lvM yX8_thrown cX8_thrown 1 (some .int) 0 [.ref (E.1 30 0)] μ (rPi x μ) := by
  refine Con.of (by decide) hl (Nat.le_of_ble_eq_true rfl) (fun Y C => ?_)
  replace C : Ok Y l E lvM 1 RX8 cX8_thrown (some .int) 0 := C
  show V Y l E lvM 1 (rPi x μ) 0 [(0, .ref (E.1 30 0))] [] μ
  unfold f_X8_thrown at h
  refine V_aload_n C 0 dX8_thrown_0 rfl 0 rfl ?_
  refine V_getf (v := .int (μ 30 0 17)) C 30 0 m_30 fl_RX8_47 rfl rfl dX8_thrown_1 ?_
  cases h
  exact V_ireturn C rfl rfl rfl dX8_thrown_4
set_option maxHeartbeats 4000000 in
set_option maxRecDepth 100000 in
theorem lp_X8_feed_9 {Y : Mc} {l : Launch} {E : WE} (hl : l.stackTraces = false) (C : Ok Y l E lvM 4 RX8 cX8_feed (some .int) 0) {κ : Int32 → Option (Int32 × Mem)} (c1_2 : Int32) (μ_5 : Mem)  (hκ : ∀ (a2_10 : Int32) x, κ a2_10 = some x → V Y l E lvM 4 (rWi x) 42 [(0, .ref (E.1 30 0)), (1, .int c1_2), (2, .int a2_10)] [] μ_5) : ∀ (n : Nat) (a2_3 : Int32) (a3_4 : Int32) {x}, f_X8_feed_L9 κ c1_2 μ_5 n a2_3 a3_4 = some x → V Y l E lvM 4 (rWi x) 9 [(0, .ref (E.1 30 0)), (1, .int c1_2), (2, .int a2_3), (3, .int a3_4)] [] μ_5 := by
  intro n
  induction n with
  | zero =>
    intro a2_3 a3_4 x h
    simp [f_X8_feed_L9] at h
  | succ n ih =>
    intro a2_3 a3_4 x h
    rw [f_X8_feed_L9] at h
    refine V_iload_n C 3 dX8_feed_9 rfl 3 rfl ?_
    refine V_iconst C (4 : Int32) dX8_feed_10 (by decide) ?_
    refine V_icmp_ge C (tgt := 42) dX8_feed_11 (by decide) (fun hc => ?_) (fun hc => ?_)
    · replace h := (if_pos hc).symm.trans h
      refine V_sub (LP := [(0, .ref (E.1 30 0)), (1, .int c1_2), (2, .int a2_3)]) [0, 1, 2] rfl ?_
      exact hκ _ _ h
    · replace h := (if_neg hc).symm.trans h
      refine V_iload_n C 2 dX8_feed_14 rfl 2 rfl ?_
      refine V_iload_n C 3 dX8_feed_15 rfl 3 rfl ?_
      obtain ⟨j_7, hj_7, h⟩ := jn_ex h
      have J_7 : ∀ (a2_6 : Int32) x, j_7 a2_6 = some x → V Y l E lvM 4 (rWi x) 36 [(0, .ref (E.1 30 0)), (1, .int c1_2), (2, .int a2_6), (3, .int a3_4)] [] μ_5 := by
        intro a2_6  x h
        rw [hj_7] at h; clear hj_7
        obtain ⟨x_8, hn9⟩ : ∃ z : Int32, z = a3_4 + (1 : Int32) := ⟨_, rfl⟩
        replace h := lt_eq hn9 h
        refine V_iinc (L' := [(0, .ref (E.1 30 0)), (1, .int c1_2), (2, .int a2_6), (3, .int x_8)]) C x_8 dX8_feed_36 3 rfl (by rw [hn9]; exact congrArg (a3_4 + ·) (by decide)) (by decide) [1, 2, 3, 0] rfl ?_
        clear hn9
        refine V_goto C (tgt := 9) dX8_feed_39 (by decide) ?_
        refine V_sub (LP := [(0, .ref (E.1 30 0)), (1, .int c1_2), (2, .int a2_6), (3, .int x_8)]) [0, 1, 2, 3] rfl ?_
        exact ih _ _ h
      clear hj_7
      refine V_icmp_ne C (tgt := 36) dX8_feed_16 (by decide) (fun hc => ?_) (fun hc => ?_)
      · replace h := (if_neg hc).symm.trans h
        refine V_sub (LP := [(0, .ref (E.1 30 0)), (1, .int c1_2), (2, .int a2_3), (3, .int a3_4)]) [0, 1, 2, 3] rfl ?_
        exact J_7 _ _ h
      · replace h := (if_pos hc).symm.trans h
        refine V_iload_n C 1 dX8_feed_19 rfl 1 rfl ?_
        refine V_bipush C (8 : Int32) dX8_feed_20 (by decide) ?_
        refine V_iload_n C 3 dX8_feed_22 rfl 3 rfl ?_
        refine V_imul C dX8_feed_23 ?_
        refine V_ishr C dX8_feed_24 ?_
        refine V_sipush C (255 : Int32) dX8_feed_25 (by decide) ?_
        refine V_iand C dX8_feed_28 ?_
        refine V_if_eq C (tgt := 36) dX8_feed_29 (by decide) (fun hc => ?_) (fun hc => ?_)
        · replace h := (if_pos hc).symm.trans h
          refine V_sub (LP := [(0, .ref (E.1 30 0)), (1, .int c1_2), (2, .int a2_3), (3, .int a3_4)]) [0, 1, 2, 3] rfl ?_
          exact J_7 _ _ h
        · replace h := (if_neg hc).symm.trans h
          refine V_iload_n C 2 dX8_feed_32 rfl 2 rfl ?_
          refine V_iconst C (1 : Int32) dX8_feed_33 (by decide) ?_
          refine V_iadd C dX8_feed_34 ?_
          refine V_topi (fun x_9 hn9 => ?_)
          replace h := lt_eq hn9 h; clear hn9
          refine V_istore_n (L' := [(0, .ref (E.1 30 0)), (1, .int c1_2), (2, .int x_9), (3, .int a3_4)]) C 2 dX8_feed_35 rfl (by decide) [1, 2, 0, 3] rfl ?_
          refine V_sub (LP := [(0, .ref (E.1 30 0)), (1, .int c1_2), (2, .int x_9), (3, .int a3_4)]) [0, 1, 2, 3] rfl ?_
          exact J_7 _ _ h
set_option maxHeartbeats 4000000 in
set_option maxRecDepth 100000 in
theorem lp_X8_feed_58 {Y : Mc} {l : Launch} {E : WE} (hl : l.stackTraces = false) (C : Ok Y l E lvM 4 RX8 cX8_feed (some .int) 0) {κ : Mem → Option (Int32 × Mem)} (c1_12 : Int32) (c2_13 : Int32)  (hκ : ∀  (μ_18 : Mem) x, κ  μ_18 = some x → V Y l E lvM 4 (rWi x) 90 [(0, .ref (E.1 30 0)), (2, .int c2_13)] [] μ_18) : ∀ (n : Nat) (a3_14 : Int32) (μ_15 : Mem) {x}, f_X8_feed_L58 κ c1_12 c2_13 n a3_14 μ_15 = some x → V Y l E lvM 4 (rWi x) 58 [(0, .ref (E.1 30 0)), (1, .int c1_12), (2, .int c2_13), (3, .int a3_14)] [] μ_15 := by
  intro n
  induction n with
  | zero =>
    intro a3_14 μ_15 x h
    simp [f_X8_feed_L58] at h
  | succ n ih =>
    intro a3_14 μ_15 x h
    rw [f_X8_feed_L58] at h
    refine V_iload_n C 3 dX8_feed_58 rfl 3 rfl ?_
    refine V_iload_n C 2 dX8_feed_59 rfl 2 rfl ?_
    refine V_icmp_ge C (tgt := 90) dX8_feed_60 (by decide) (fun hc => ?_) (fun hc => ?_)
    · replace h := (if_pos hc).symm.trans h
      refine V_sub (LP := [(0, .ref (E.1 30 0)), (2, .int c2_13)]) [0, 2] rfl ?_
      exact hκ _ _ h
    · replace h := (if_neg hc).symm.trans h
      refine V_aload_n C 0 dX8_feed_63 rfl 0 rfl ?_
      refine V_getf (v := .ref (E.1 31 0)) C 30 0 m_30 fl_RX8_7 rfl rfl dX8_feed_64 ?_
      refine V_aload_n C 0 dX8_feed_67 rfl 0 rfl ?_
      refine V_getf (v := .int (μ_15 30 0 1)) C 30 0 m_30 fl_RX8_51 rfl rfl dX8_feed_68 ?_
      refine V_iload_n C 3 dX8_feed_71 rfl 3 rfl ?_
      refine V_iadd C dX8_feed_72 ?_
      refine V_iload_n C 1 dX8_feed_73 rfl 1 rfl ?_
      refine V_bipush C (8 : Int32) dX8_feed_74 (by decide) ?_
      refine V_iload_n C 3 dX8_feed_76 rfl 3 rfl ?_
      refine V_imul C dX8_feed_77 ?_
      refine V_ishr C dX8_feed_78 ?_
      refine V_sipush C (255 : Int32) dX8_feed_79 (by decide) ?_
      refine V_iand C dX8_feed_82 ?_
      obtain ⟨hi9, h⟩ := gd_inv h
      refine V_iast C 31 0 m_31 (fun _ => rfl) (inb_in hi9) dX8_feed_83 ?_
      refine V_memn (fun μ_16 hn9 => ?_)
      replace h := lt_eq hn9 h; clear hn9
      obtain ⟨x_17, hn9⟩ : ∃ z : Int32, z = a3_14 + (1 : Int32) := ⟨_, rfl⟩
      replace h := lt_eq hn9 h
      refine V_iinc (L' := [(0, .ref (E.1 30 0)), (1, .int c1_12), (2, .int c2_13), (3, .int x_17)]) C x_17 dX8_feed_84 3 rfl (by rw [hn9]; exact congrArg (a3_14 + ·) (by decide)) (by decide) [1, 2, 3, 0] rfl ?_
      clear hn9
      refine V_goto C (tgt := 58) dX8_feed_87 (by decide) ?_
      refine V_sub (LP := [(0, .ref (E.1 30 0)), (1, .int c1_12), (2, .int c2_13), (3, .int x_17)]) [0, 1, 2, 3] rfl ?_
      exact ih _ _ h
set_option maxHeartbeats 4000000 in
set_option maxRecDepth 100000 in
theorem con_X8_feed {l : Launch} {E : WE} (hl : l.stackTraces = false) (a1 : Int32)  {μ : Mem} {x} (h : f_X8_feed a1 μ = some x) : Con l E lvM yX8_feed cX8_feed 4 (some .int) 0 [.ref (E.1 30 0), .int a1] μ (rWi x) := by
  refine Con.of (by decide) hl (Nat.le_of_ble_eq_true rfl) (fun Y C => ?_)
  replace C : Ok Y l E lvM 4 RX8 cX8_feed (some .int) 0 := C
  show V Y l E lvM 4 (rWi x) 0 [(0, .ref (E.1 30 0)), (1, .int a1)] [] μ
  unfold f_X8_feed at h
  refine V_aload_n C 0 dX8_feed_0 rfl 0 rfl ?_
  refine V_iconst C (0 : Int32) dX8_feed_1 (by decide) ?_
  refine V_putI C 30 0 m_30 fp_RX8_47 rfl rfl rfl rfl (Nat.le_of_ble_eq_true rfl) dX8_feed_2 ?_
  refine V_memn (fun μ_1 hn9 => ?_)
  replace h := lt_eq hn9 h; clear hn9
  refine V_iconst C (0 : Int32) dX8_feed_5 (by decide) ?_
  refine V_istore_n (L' := [(0, .ref (E.1 30 0)), (1, .int a1), (2, .int (0 : Int32))]) C 2 dX8_feed_6 rfl (by decide) [1, 2, 0] rfl ?_
  refine V_iconst C (0 : Int32) dX8_feed_7 (by decide) ?_
  refine V_istore_n (L' := [(0, .ref (E.1 30 0)), (1, .int a1), (2, .int (0 : Int32)), (3, .int (0 : Int32))]) C 3 dX8_feed_8 rfl (by decide) [1, 2, 3, 0] rfl ?_
  refine V_sub (LP := [(0, .ref (E.1 30 0)), (1, .int a1), (2, .int (0 : Int32)), (3, .int (0 : Int32))]) [0, 1, 2, 3] rfl ?_
  refine lp_X8_feed_9 hl C a1 μ_1 (fun a2_11 x h => ?_) 1000 _ _ h
  refine V_aload_n C 0 dX8_feed_42 rfl 0 rfl ?_
  refine V_getf (v := .int (μ_1 30 0 1)) C 30 0 m_30 fl_RX8_51 rfl rfl dX8_feed_43 ?_
  refine V_iload_n C 2 dX8_feed_46 rfl 2 rfl ?_
  refine V_iadd C dX8_feed_47 ?_
  refine V_sipush C (200 : Int32) dX8_feed_48 (by decide) ?_
  refine V_icmp_le C (tgt := 56) dX8_feed_51 (by decide) (fun hc => ?_) (fun hc => ?_)
  · replace h := (if_pos hc).symm.trans h
    refine V_iconst C (0 : Int32) dX8_feed_56 (by decide) ?_
    refine V_istore_n (L' := [(0, .ref (E.1 30 0)), (1, .int a1), (2, .int a2_11), (3, .int (0 : Int32))]) C 3 dX8_feed_57 rfl (by decide) [1, 2, 3, 0] rfl ?_
    refine V_sub (LP := [(0, .ref (E.1 30 0)), (1, .int a1), (2, .int a2_11), (3, .int (0 : Int32))]) [0, 1, 2, 3] rfl ?_
    refine lp_X8_feed_58 hl C a1 a2_11 (fun μ_19 x h => ?_) 1000 _ _ h
    refine V_aload_n C 0 dX8_feed_90 rfl 0 rfl ?_
    refine V_aload_n C 0 dX8_feed_91 rfl 0 rfl ?_
    refine V_getf (v := .int (μ_19 30 0 1)) C 30 0 m_30 fl_RX8_51 rfl rfl dX8_feed_92 ?_
    refine V_iload_n C 2 dX8_feed_95 rfl 1 rfl ?_
    refine V_iadd C dX8_feed_96 ?_
    refine V_putI C 30 0 m_30 fp_RX8_51 rfl rfl rfl rfl (Nat.le_of_ble_eq_true rfl) dX8_feed_97 ?_
    refine V_memn (fun μ_20 hn9 => ?_)
    replace h := lt_eq hn9 h; clear hn9
    refine V_iload_n C 2 dX8_feed_100 rfl 1 rfl ?_
    cases h
    exact V_ireturn C rfl rfl rfl dX8_feed_101
  · replace h := (if_neg hc).symm.trans h
    refine V_iconst C (-1 : Int32) dX8_feed_54 (by decide) ?_
    cases h
    exact V_ireturn C rfl rfl rfl dX8_feed_55
set_option maxHeartbeats 4000000 in
set_option maxRecDepth 100000 in
theorem con_X8_clear {l : Launch} {E : WE} (hl : l.stackTraces = false)   {μ : Mem} {x} (h : f_X8_clear  μ = some x) : Con l E lvM yX8_clear cX8_clear 1 none 0 [.ref (E.1 30 0)] μ (rWu x) := by
  refine Con.of (by decide) hl (Nat.le_of_ble_eq_true rfl) (fun Y C => ?_)
  replace C : Ok Y l E lvM 1 RX8 cX8_clear none 0 := C
  show V Y l E lvM 1 (rWu x) 0 [(0, .ref (E.1 30 0))] [] μ
  unfold f_X8_clear at h
  refine V_aload_n C 0 dX8_clear_0 rfl 0 rfl ?_
  refine V_iconst C (0 : Int32) dX8_clear_1 (by decide) ?_
  refine V_putI C 30 0 m_30 fp_RX8_47 rfl rfl rfl rfl (Nat.le_of_ble_eq_true rfl) dX8_clear_2 ?_
  refine V_memn (fun μ_1 hn9 => ?_)
  replace h := lt_eq hn9 h; clear hn9
  refine V_aload_n C 0 dX8_clear_5 rfl 0 rfl ?_
  refine V_iconst C (0 : Int32) dX8_clear_6 (by decide) ?_
  refine V_putI C 30 0 m_30 fp_RX8_51 rfl rfl rfl rfl (Nat.le_of_ble_eq_true rfl) dX8_clear_7 ?_
  refine V_memn (fun μ_2 hn9 => ?_)
  replace h := lt_eq hn9 h; clear hn9
  cases h
  exact V_return C rfl rfl dX8_clear_10
set_option maxHeartbeats 4000000 in
set_option maxRecDepth 100000 in
theorem lp_X8_ahead_2 {Y : Mc} {l : Launch} {E : WE} (hl : l.stackTraces = false) (C : Ok Y l E lvM 2 RX8 cX8_ahead (some .int) 0) {κ : Mem → Option (Int32 × Mem)}   (hκ : ∀  (μ_7 : Mem) x, κ  μ_7 = some x → V Y l E lvM 2 (rWi x) 50 [(0, .ref (E.1 30 0))] [] μ_7) : ∀ (n : Nat) (a1_1 : Int32) (μ_2 : Mem) {x}, f_X8_ahead_L2 κ  n a1_1 μ_2 = some x → V Y l E lvM 2 (rWi x) 2 [(0, .ref (E.1 30 0)), (1, .int a1_1)] [] μ_2 := by
  intro n
  induction n with
  | zero =>
    intro a1_1 μ_2 x h
    simp [f_X8_ahead_L2] at h
  | succ n ih =>
    intro a1_1 μ_2 x h
    rw [f_X8_ahead_L2] at h
    refine V_iload_n C 1 dX8_ahead_2 rfl 1 rfl ?_
    refine V_sipush C (200 : Int32) dX8_ahead_3 (by decide) ?_
    refine V_icmp_ge C (tgt := 50) dX8_ahead_6 (by decide) (fun hc => ?_) (fun hc => ?_)
    · replace h := (if_pos hc).symm.trans h
      refine V_sub (LP := [(0, .ref (E.1 30 0))]) [0] rfl ?_
      exact hκ _ _ h
    · replace h := (if_neg hc).symm.trans h
      refine V_aload_n C 0 dX8_ahead_9 rfl 0 rfl ?_
      refine V_getf (v := .int (μ_2 30 0 11)) C 30 0 m_30 fl_RX8_54 rfl rfl dX8_ahead_10 ?_
      refine V_aload_n C 0 dX8_ahead_13 rfl 0 rfl ?_
      refine V_getf (v := .int (μ_2 30 0 1)) C 30 0 m_30 fl_RX8_51 rfl rfl dX8_ahead_14 ?_
      obtain ⟨j_4, hj_4, h⟩ := jn_ex h
      have J_4 : ∀ (μ_3 : Mem) x, j_4 μ_3 = some x → V Y l E lvM 2 (rWi x) 44 [(0, .ref (E.1 30 0)), (1, .int a1_1)] [] μ_3 := by
        intro μ_3  x h
        rw [hj_4] at h; clear hj_4
        obtain ⟨x_5, hn9⟩ : ∃ z : Int32, z = a1_1 + (1 : Int32) := ⟨_, rfl⟩
        replace h := lt_eq hn9 h
        refine V_iinc (L' := [(0, .ref (E.1 30 0)), (1, .int x_5)]) C x_5 dX8_ahead_44 1 rfl (by rw [hn9]; exact congrArg (a1_1 + ·) (by decide)) (by decide) [1, 0] rfl ?_
        clear hn9
        refine V_goto C (tgt := 2) dX8_ahead_47 (by decide) ?_
        refine V_sub (LP := [(0, .ref (E.1 30 0)), (1, .int x_5)]) [0, 1] rfl ?_
        exact ih _ _ h
      clear hj_4
      refine V_icmp_ge C (tgt := 44) dX8_ahead_17 (by decide) (fun hc => ?_) (fun hc => ?_)
      · replace h := (if_pos hc).symm.trans h
        refine V_sub (LP := [(0, .ref (E.1 30 0)), (1, .int a1_1)]) [0, 1] rfl ?_
        exact J_4 _ _ h
      · replace h := (if_neg hc).symm.trans h
        refine V_aload_n C 0 dX8_ahead_20 rfl 0 rfl ?_
        refine V_getf (v := .ref (E.1 31 0)) C 30 0 m_30 fl_RX8_7 rfl rfl dX8_ahead_21 ?_
        refine V_aload_n C 0 dX8_ahead_24 rfl 0 rfl ?_
        refine V_getf (v := .int (μ_2 30 0 11)) C 30 0 m_30 fl_RX8_54 rfl rfl dX8_ahead_25 ?_
        obtain ⟨hi9, h⟩ := gd_inv h
        refine V_iald C 31 0 m_31 (fun _ => rfl) (inb_in hi9) dX8_ahead_28 ?_
        refine V_bipush C (32 : Int32) dX8_ahead_29 (by decide) ?_
        refine V_icmp_ne C (tgt := 44) dX8_ahead_31 (by decide) (fun hc => ?_) (fun hc => ?_)
        · replace h := (if_neg hc).symm.trans h
          refine V_sub (LP := [(0, .ref (E.1 30 0)), (1, .int a1_1)]) [0, 1] rfl ?_
          exact J_4 _ _ h
        · replace h := (if_pos hc).symm.trans h
          refine V_aload_n C 0 dX8_ahead_34 rfl 0 rfl ?_
          refine V_aload_n C 0 dX8_ahead_35 rfl 0 rfl ?_
          refine V_getf (v := .int (μ_2 30 0 11)) C 30 0 m_30 fl_RX8_54 rfl rfl dX8_ahead_36 ?_
          refine V_iconst C (1 : Int32) dX8_ahead_39 (by decide) ?_
          refine V_iadd C dX8_ahead_40 ?_
          refine V_putI C 30 0 m_30 fp_RX8_54 rfl rfl rfl rfl (Nat.le_of_ble_eq_true rfl) dX8_ahead_41 ?_
          refine V_memn (fun μ_6 hn9 => ?_)
          replace h := lt_eq hn9 h; clear hn9
          refine V_sub (LP := [(0, .ref (E.1 30 0)), (1, .int a1_1)]) [0, 1] rfl ?_
          exact J_4 _ _ h
set_option maxHeartbeats 4000000 in
set_option maxRecDepth 100000 in
theorem con_X8_ahead {l : Launch} {E : WE} (hl : l.stackTraces = false)   {μ : Mem} {x} (h : f_X8_ahead  μ = some x) : Con l E lvM yX8_ahead cX8_ahead 2 (some .int) 0 [.ref (E.1 30 0)] μ (rWi x) := by
  refine Con.of (by decide) hl (Nat.le_of_ble_eq_true rfl) (fun Y C => ?_)
  replace C : Ok Y l E lvM 2 RX8 cX8_ahead (some .int) 0 := C
  show V Y l E lvM 2 (rWi x) 0 [(0, .ref (E.1 30 0))] [] μ
  unfold f_X8_ahead at h
  refine V_iconst C (0 : Int32) dX8_ahead_0 (by decide) ?_
  refine V_istore_n (L' := [(0, .ref (E.1 30 0)), (1, .int (0 : Int32))]) C 1 dX8_ahead_1 rfl (by decide) [1, 0] rfl ?_
  refine V_sub (LP := [(0, .ref (E.1 30 0)), (1, .int (0 : Int32))]) [0, 1] rfl ?_
  refine lp_X8_ahead_2 hl C (fun μ_8 x h => ?_) 1000 _ _ h
  refine V_aload_n C 0 dX8_ahead_50 rfl 0 rfl ?_
  refine V_getf (v := .int (μ_8 30 0 11)) C 30 0 m_30 fl_RX8_54 rfl rfl dX8_ahead_51 ?_
  refine V_aload_n C 0 dX8_ahead_54 rfl 0 rfl ?_
  refine V_getf (v := .int (μ_8 30 0 1)) C 30 0 m_30 fl_RX8_51 rfl rfl dX8_ahead_55 ?_
  refine V_icmp_ge C (tgt := 73) dX8_ahead_58 (by decide) (fun hc => ?_) (fun hc => ?_)
  · replace h := (if_pos hc).symm.trans h
    refine V_iconst C (0 : Int32) dX8_ahead_73 (by decide) ?_
    cases h
    exact V_ireturn C rfl rfl rfl dX8_ahead_74
  · replace h := (if_neg hc).symm.trans h
    refine V_aload_n C 0 dX8_ahead_61 rfl 0 rfl ?_
    refine V_getf (v := .ref (E.1 31 0)) C 30 0 m_30 fl_RX8_7 rfl rfl dX8_ahead_62 ?_
    refine V_aload_n C 0 dX8_ahead_65 rfl 0 rfl ?_
    refine V_getf (v := .int (μ_8 30 0 11)) C 30 0 m_30 fl_RX8_54 rfl rfl dX8_ahead_66 ?_
    obtain ⟨hi9, h⟩ := gd_inv h
    refine V_iald C 31 0 m_31 (fun _ => rfl) (inb_in hi9) dX8_ahead_69 ?_
    refine V_goto C (tgt := 74) dX8_ahead_70 (by decide) ?_
    cases h
    exact V_ireturn C rfl rfl rfl dX8_ahead_74
set_option maxHeartbeats 4000000 in
set_option maxRecDepth 100000 in
theorem con_X8_digit {l : Launch} {E : WE} (hl : l.stackTraces = false) (a0 : Int32)  {μ : Mem} {x} (h : f_X8_digit a0 μ = some x) : Con l E lvM yX8_digit cX8_digit 1 (some .boolean) 0 [.int a0] μ (rPi x μ) := by
  refine Con.of (by decide) hl (Nat.le_of_ble_eq_true rfl) (fun Y C => ?_)
  replace C : Ok Y l E lvM 1 RX8 cX8_digit (some .boolean) 0 := C
  show V Y l E lvM 1 (rPi x μ) 0 [(0, .int a0)] [] μ
  unfold f_X8_digit at h
  refine V_iload_n C 0 dX8_digit_0 rfl 0 rfl ?_
  refine V_bipush C (48 : Int32) dX8_digit_1 (by decide) ?_
  obtain ⟨j_1, hj_1, h⟩ := jn_ex h
  have J_1 : ∀ (_ : Unit) x, j_1 () = some x → V Y l E lvM 1 (rPi x μ) 16 [] [] μ := by
    intro _  x h
    rw [hj_1] at h; clear hj_1
    refine V_iconst C (0 : Int32) dX8_digit_16 (by decide) ?_
    cases h
    exact V_ireturn C rfl rfl rfl dX8_digit_17
  clear hj_1
  refine V_icmp_lt C (tgt := 16) dX8_digit_3 (by decide) (fun hc => ?_) (fun hc => ?_)
  · replace h := (if_pos hc).symm.trans h
    refine V_sub (LP := []) [] rfl ?_
    exact J_1 () _ h
  · replace h := (if_neg hc).symm.trans h
    refine V_iload_n C 0 dX8_digit_6 rfl 0 rfl ?_
    refine V_bipush C (57 : Int32) dX8_digit_7 (by decide) ?_
    refine V_icmp_gt C (tgt := 16) dX8_digit_9 (by decide) (fun hc => ?_) (fun hc => ?_)
    · replace h := (if_pos hc).symm.trans h
      refine V_sub (LP := []) [] rfl ?_
      exact J_1 () _ h
    · replace h := (if_neg hc).symm.trans h
      refine V_iconst C (1 : Int32) dX8_digit_12 (by decide) ?_
      refine V_goto C (tgt := 17) dX8_digit_13 (by decide) ?_
      cases h
      exact V_ireturn C rfl rfl rfl dX8_digit_17
set_option maxHeartbeats 4000000 in
set_option maxRecDepth 100000 in
theorem con_X8_plain {l : Launch} {E : WE} (hl : l.stackTraces = false) (a0 : Int32)  {μ : Mem} {x} (h : f_X8_plain a0 μ = some x) : Con l E lvM yX8_plain cX8_plain 1 (some .int) 0 [.int a0] μ (rPi x μ) := by
  refine Con.of (by decide) hl (Nat.le_of_ble_eq_true rfl) (fun Y C => ?_)
  replace C : Ok Y l E lvM 1 RX8 cX8_plain (some .int) 0 := C
  show V Y l E lvM 1 (rPi x μ) 0 [(0, .int a0)] [] μ
  unfold f_X8_plain at h
  refine V_iload_n C 0 dX8_plain_0 rfl 0 rfl ?_
  by_cases hk0 : a0 = (37 : Int32)
  · replace h := (if_pos hk0).symm.trans h
    refine V_lookup C (97) 98 dX8_plain_1 (by decide +kernel) (by rw [hk0]; decide +kernel) (by decide) ?_
    refine V_iconst C (3 : Int32) dX8_plain_98 (by decide) ?_
    cases h
    exact V_ireturn C rfl rfl rfl dX8_plain_99
  replace h := (if_neg hk0).symm.trans h
  by_cases hk1 : a0 = (38 : Int32)
  · replace h := (if_pos hk1).symm.trans h
    refine V_lookup C (109) 110 dX8_plain_1 (by decide +kernel) (by rw [hk1]; decide +kernel) (by decide) ?_
    refine V_bipush C (8 : Int32) dX8_plain_110 (by decide) ?_
    cases h
    exact V_ireturn C rfl rfl rfl dX8_plain_112
  replace h := (if_neg hk1).symm.trans h
  by_cases hk2 : a0 = (42 : Int32)
  · replace h := (if_pos hk2).symm.trans h
    refine V_lookup C (95) 96 dX8_plain_1 (by decide +kernel) (by rw [hk2]; decide +kernel) (by decide) ?_
    refine V_iconst C (2 : Int32) dX8_plain_96 (by decide) ?_
    cases h
    exact V_ireturn C rfl rfl rfl dX8_plain_97
  replace h := (if_neg hk2).symm.trans h
  by_cases hk3 : a0 = (43 : Int32)
  · replace h := (if_pos hk3).symm.trans h
    refine V_lookup C (91) 92 dX8_plain_1 (by decide +kernel) (by rw [hk3]; decide +kernel) (by decide) ?_
    refine V_iconst C (0 : Int32) dX8_plain_92 (by decide) ?_
    cases h
    exact V_ireturn C rfl rfl rfl dX8_plain_93
  replace h := (if_neg hk3).symm.trans h
  by_cases hk4 : a0 = (45 : Int32)
  · replace h := (if_pos hk4).symm.trans h
    refine V_lookup C (93) 94 dX8_plain_1 (by decide +kernel) (by rw [hk4]; decide +kernel) (by decide) ?_
    refine V_iconst C (1 : Int32) dX8_plain_94 (by decide) ?_
    cases h
    exact V_ireturn C rfl rfl rfl dX8_plain_95
  replace h := (if_neg hk4).symm.trans h
  by_cases hk5 : a0 = (60 : Int32)
  · replace h := (if_pos hk5).symm.trans h
    refine V_lookup C (101) 102 dX8_plain_1 (by decide +kernel) (by rw [hk5]; decide +kernel) (by decide) ?_
    refine V_iconst C (5 : Int32) dX8_plain_102 (by decide) ?_
    cases h
    exact V_ireturn C rfl rfl rfl dX8_plain_103
  replace h := (if_neg hk5).symm.trans h
  by_cases hk6 : a0 = (61 : Int32)
  · replace h := (if_pos hk6).symm.trans h
    refine V_lookup C (106) 107 dX8_plain_1 (by decide +kernel) (by rw [hk6]; decide +kernel) (by decide) ?_
    refine V_bipush C (7 : Int32) dX8_plain_107 (by decide) ?_
    cases h
    exact V_ireturn C rfl rfl rfl dX8_plain_109
  replace h := (if_neg hk6).symm.trans h
  by_cases hk7 : a0 = (62 : Int32)
  · replace h := (if_pos hk7).symm.trans h
    refine V_lookup C (103) 104 dX8_plain_1 (by decide +kernel) (by rw [hk7]; decide +kernel) (by decide) ?_
    refine V_bipush C (6 : Int32) dX8_plain_104 (by decide) ?_
    cases h
    exact V_ireturn C rfl rfl rfl dX8_plain_106
  replace h := (if_neg hk7).symm.trans h
  by_cases hk8 : a0 = (94 : Int32)
  · replace h := (if_pos hk8).symm.trans h
    refine V_lookup C (112) 113 dX8_plain_1 (by decide +kernel) (by rw [hk8]; decide +kernel) (by decide) ?_
    refine V_bipush C (9 : Int32) dX8_plain_113 (by decide) ?_
    cases h
    exact V_ireturn C rfl rfl rfl dX8_plain_115
  replace h := (if_neg hk8).symm.trans h
  by_cases hk9 : a0 = (124 : Int32)
  · replace h := (if_pos hk9).symm.trans h
    refine V_lookup C (99) 100 dX8_plain_1 (by decide +kernel) (by rw [hk9]; decide +kernel) (by decide) ?_
    refine V_iconst C (4 : Int32) dX8_plain_100 (by decide) ?_
    cases h
    exact V_ireturn C rfl rfl rfl dX8_plain_101
  replace h := (if_neg hk9).symm.trans h
  refine V_lookup C (115) 116 dX8_plain_1 (by decide +kernel) ((lv_osw hk0 (by decide +kernel)).trans ((lv_osw hk1 (by decide +kernel)).trans ((lv_osw hk2 (by decide +kernel)).trans ((lv_osw hk3 (by decide +kernel)).trans ((lv_osw hk4 (by decide +kernel)).trans ((lv_osw hk5 (by decide +kernel)).trans ((lv_osw hk6 (by decide +kernel)).trans ((lv_osw hk7 (by decide +kernel)).trans ((lv_osw hk8 (by decide +kernel)).trans ((lv_osw hk9 (by decide +kernel)).trans rfl)))))))))) (by decide) ?_
  refine V_iconst C (-1 : Int32) dX8_plain_116 (by decide) ?_
  cases h
  exact V_ireturn C rfl rfl rfl dX8_plain_117
set_option maxHeartbeats 4000000 in
set_option maxRecDepth 100000 in
theorem con_X8_add {l : Launch} {E : WE} (hl : l.stackTraces = false) (a1 : Int32) (a2 : Int32) (a3 : Int32)  {μ : Mem} {x} (h : f_X8_add a1 a2 a3 μ = some x) : Con l E lvM yX8_add cX8_add 4 none 0 [.ref (E.1 30 0), .int a1, .int a2, .int a3] μ (rWu x) := by
  refine Con.of (by decide) hl (Nat.le_of_ble_eq_true rfl) (fun Y C => ?_)
  replace C : Ok Y l E lvM 4 RX8 cX8_add none 0 := C
  show V Y l E lvM 4 (rWu x) 0 [(0, .ref (E.1 30 0)), (1, .int a1), (2, .int a2), (3, .int a3)] [] μ
  unfold f_X8_add at h
  refine V_aload_n C 0 dX8_add_0 rfl 0 rfl ?_
  refine V_getf (v := .ref (E.1 35 0)) C 30 0 m_30 fl_RX8_22 rfl rfl dX8_add_1 ?_
  refine V_aload_n C 0 dX8_add_4 rfl 0 rfl ?_
  refine V_getf (v := .int (μ 30 0 9)) C 30 0 m_30 fl_RX8_57 rfl rfl dX8_add_5 ?_
  refine V_iload_n C 1 dX8_add_8 rfl 1 rfl ?_
  obtain ⟨hi9, h⟩ := gd_inv h
  refine V_iast C 35 0 m_35 (fun _ => rfl) (inb_in hi9) dX8_add_9 ?_
  refine V_memn (fun μ_1 hn9 => ?_)
  replace h := lt_eq hn9 h; clear hn9
  refine V_aload_n C 0 dX8_add_10 rfl 0 rfl ?_
  refine V_getf (v := .ref (E.1 36 0)) C 30 0 m_30 fl_RX8_25 rfl rfl dX8_add_11 ?_
  refine V_aload_n C 0 dX8_add_14 rfl 0 rfl ?_
  refine V_getf (v := .int (μ_1 30 0 9)) C 30 0 m_30 fl_RX8_57 rfl rfl dX8_add_15 ?_
  refine V_iload_n C 2 dX8_add_18 rfl 2 rfl ?_
  obtain ⟨hi9, h⟩ := gd_inv h
  refine V_iast C 36 0 m_36 (fun _ => rfl) (inb_in hi9) dX8_add_19 ?_
  refine V_memn (fun μ_2 hn9 => ?_)
  replace h := lt_eq hn9 h; clear hn9
  refine V_aload_n C 0 dX8_add_20 rfl 0 rfl ?_
  refine V_getf (v := .ref (E.1 37 0)) C 30 0 m_30 fl_RX8_28 rfl rfl dX8_add_21 ?_
  refine V_aload_n C 0 dX8_add_24 rfl 0 rfl ?_
  refine V_getf (v := .int (μ_2 30 0 9)) C 30 0 m_30 fl_RX8_57 rfl rfl dX8_add_25 ?_
  refine V_iload_n C 3 dX8_add_28 rfl 3 rfl ?_
  obtain ⟨hi9, h⟩ := gd_inv h
  refine V_iast C 37 0 m_37 (fun _ => rfl) (inb_in hi9) dX8_add_29 ?_
  refine V_memn (fun μ_3 hn9 => ?_)
  replace h := lt_eq hn9 h; clear hn9
  refine V_aload_n C 0 dX8_add_30 rfl 0 rfl ?_
  refine V_aload_n C 0 dX8_add_31 rfl 0 rfl ?_
  refine V_getf (v := .int (μ_3 30 0 9)) C 30 0 m_30 fl_RX8_57 rfl rfl dX8_add_32 ?_
  refine V_iconst C (1 : Int32) dX8_add_35 (by decide) ?_
  refine V_iadd C dX8_add_36 ?_
  refine V_putI C 30 0 m_30 fp_RX8_57 rfl rfl rfl rfl (Nat.le_of_ble_eq_true rfl) dX8_add_37 ?_
  refine V_memn (fun μ_4 hn9 => ?_)
  replace h := lt_eq hn9 h; clear hn9
  cases h
  exact V_return C rfl rfl dX8_add_40
set_option maxHeartbeats 4000000 in
set_option maxRecDepth 100000 in
theorem lp_X8_row_68 {Y : Mc} {l : Launch} {E : WE} (hl : l.stackTraces = false) (C : Ok Y l E lvM 7 RX8 cX8_row (some .boolean) 1) {κ : Int32 → Int32 → Mem → Option (Int32 × Mem)} (c1_13 : Int32) (c2_14 : Int32) (c4_15 : Int32)  (hκ : ∀ (a5_23 : Int32) (a6_24 : Int32) (μ_25 : Mem) x, κ a5_23 a6_24 μ_25 = some x → V Y l E lvM 7 (rWi x) 140 [(0, .ref (E.1 30 0)), (1, .int c1_13), (2, .int c2_14), (4, .int c4_15), (5, .int a5_23), (6, .int a6_24)] [] μ_25) : ∀ (n : Nat) (a5_16 : Int32) (a6_17 : Int32) (μ_18 : Mem) {x}, f_X8_row_L68 κ c1_13 c2_14 c4_15 n a5_16 a6_17 μ_18 = some x → V Y l E lvM 7 (rWi x) 68 [(0, .ref (E.1 30 0)), (1, .int c1_13), (2, .int c2_14), (4, .int c4_15), (5, .int a5_16), (6, .int a6_17)] [] μ_18 := by
  intro n
  induction n with
  | zero =>
    intro a5_16 a6_17 μ_18 x h
    simp [f_X8_row_L68] at h
  | succ n ih =>
    intro a5_16 a6_17 μ_18 x h
    rw [f_X8_row_L68] at h
    refine V_aload_n C 0 dX8_row_68 rfl 0 rfl ?_
    refine V_getf (v := .int (μ_18 30 0 11)) C 30 0 m_30 fl_RX8_54 rfl rfl dX8_row_69 ?_
    refine V_aload_n C 0 dX8_row_72 rfl 0 rfl ?_
    refine V_getf (v := .int (μ_18 30 0 1)) C 30 0 m_30 fl_RX8_51 rfl rfl dX8_row_73 ?_
    refine V_icmp_ge C (tgt := 140) dX8_row_76 (by decide) (fun hc => ?_) (fun hc => ?_)
    · replace h := (if_pos hc).symm.trans h
      refine V_sub (LP := [(0, .ref (E.1 30 0)), (1, .int c1_13), (2, .int c2_14), (4, .int c4_15), (5, .int a5_16), (6, .int a6_17)]) [0, 1, 2, 3, 4, 5] rfl ?_
      exact hκ _ _ _ _ h
    · replace h := (if_neg hc).symm.trans h
      refine V_aload_n C 0 dX8_row_79 rfl 0 rfl ?_
      refine V_getf (v := .ref (E.1 31 0)) C 30 0 m_30 fl_RX8_7 rfl rfl dX8_row_80 ?_
      refine V_aload_n C 0 dX8_row_83 rfl 0 rfl ?_
      refine V_getf (v := .int (μ_18 30 0 11)) C 30 0 m_30 fl_RX8_54 rfl rfl dX8_row_84 ?_
      obtain ⟨hi9, h⟩ := gd_inv h
      refine V_iald C 31 0 m_31 (fun _ => rfl) (inb_in hi9) dX8_row_87 ?_
      obtain ⟨v_19, hv, h⟩ := bP_inv h
      refine V_callSo C (some (.int v_19)) (con_X8_digit hl (μ_18 31 0 ((μ_18 30 0 11)).toNatClampNeg) hv) tb_X8_digit lk_RX8_67 (by decide) (by decide) rfl (Nat.le_of_ble_eq_true rfl) rfl dX8_row_88 rfl ?_
      clear hv
      refine V_if_eq C (tgt := 140) dX8_row_91 (by decide) (fun hc => ?_) (fun hc => ?_)
      · replace h := (if_pos hc).symm.trans h
        refine V_sub (LP := [(0, .ref (E.1 30 0)), (1, .int c1_13), (2, .int c2_14), (4, .int c4_15), (5, .int a5_16), (6, .int a6_17)]) [0, 1, 2, 3, 4, 5] rfl ?_
        exact hκ _ _ _ _ h
      · replace h := (if_neg hc).symm.trans h
        refine V_iload C dX8_row_94 5 rfl ?_
        refine V_bipush C (9 : Int32) dX8_row_96 (by decide) ?_
        refine V_icmp_ge C (tgt := 140) dX8_row_98 (by decide) (fun hc => ?_) (fun hc => ?_)
        · replace h := (if_pos hc).symm.trans h
          refine V_sub (LP := [(0, .ref (E.1 30 0)), (1, .int c1_13), (2, .int c2_14), (4, .int c4_15), (5, .int a5_16), (6, .int a6_17)]) [0, 1, 2, 3, 4, 5] rfl ?_
          exact hκ _ _ _ _ h
        · replace h := (if_neg hc).symm.trans h
          refine V_bipush C (10 : Int32) dX8_row_101 (by decide) ?_
          refine V_iload C dX8_row_103 4 rfl ?_
          refine V_imul C dX8_row_105 ?_
          refine V_aload_n C 0 dX8_row_106 rfl 0 rfl ?_
          refine V_getf (v := .ref (E.1 31 0)) C 30 0 m_30 fl_RX8_7 rfl rfl dX8_row_107 ?_
          refine V_aload_n C 0 dX8_row_110 rfl 0 rfl ?_
          refine V_getf (v := .int (μ_18 30 0 11)) C 30 0 m_30 fl_RX8_54 rfl rfl dX8_row_111 ?_
          obtain ⟨hi9, h⟩ := gd_inv h
          refine V_iald C 31 0 m_31 (fun _ => rfl) (inb_in hi9) dX8_row_114 ?_
          refine V_iadd C dX8_row_115 ?_
          refine V_bipush C (48 : Int32) dX8_row_116 (by decide) ?_
          refine V_isub C dX8_row_118 ?_
          refine V_topi (fun x_20 hn9 => ?_)
          replace h := lt_eq hn9 h; clear hn9
          refine V_istore (L' := [(0, .ref (E.1 30 0)), (1, .int c1_13), (2, .int c2_14), (4, .int c4_15), (5, .int x_20), (6, .int a6_17)]) C dX8_row_119 (by decide) [1, 2, 3, 4, 0, 5] rfl ?_
          refine V_iload C dX8_row_121 5 rfl ?_
          refine V_iconst C (1 : Int32) dX8_row_123 (by decide) ?_
          refine V_iadd C dX8_row_124 ?_
          refine V_topi (fun x_21 hn9 => ?_)
          replace h := lt_eq hn9 h; clear hn9
          refine V_istore (L' := [(0, .ref (E.1 30 0)), (1, .int c1_13), (2, .int c2_14), (4, .int c4_15), (5, .int x_20), (6, .int x_21)]) C dX8_row_125 (by decide) [1, 2, 3, 4, 5, 0] rfl ?_
          refine V_aload_n C 0 dX8_row_127 rfl 0 rfl ?_
          refine V_aload_n C 0 dX8_row_128 rfl 0 rfl ?_
          refine V_getf (v := .int (μ_18 30 0 11)) C 30 0 m_30 fl_RX8_54 rfl rfl dX8_row_129 ?_
          refine V_iconst C (1 : Int32) dX8_row_132 (by decide) ?_
          refine V_iadd C dX8_row_133 ?_
          refine V_putI C 30 0 m_30 fp_RX8_54 rfl rfl rfl rfl (Nat.le_of_ble_eq_true rfl) dX8_row_134 ?_
          refine V_memn (fun μ_22 hn9 => ?_)
          replace h := lt_eq hn9 h; clear hn9
          refine V_goto C (tgt := 68) dX8_row_137 (by decide) ?_
          refine V_sub (LP := [(0, .ref (E.1 30 0)), (1, .int c1_13), (2, .int c2_14), (4, .int c4_15), (5, .int x_20), (6, .int x_21)]) [0, 1, 2, 3, 4, 5] rfl ?_
          exact ih _ _ _ h
set_option maxHeartbeats 4000000 in
set_option maxRecDepth 100000 in
theorem lp_X8_row_7 {Y : Mc} {l : Launch} {E : WE} (hl : l.stackTraces = false) (C : Ok Y l E lvM 7 RX8 cX8_row (some .boolean) 1) {κ : Mem → Option (Int32 × Mem)} (c1_2 : Int32)  (hκ : ∀  (μ_37 : Mem) x, κ  μ_37 = some x → V Y l E lvM 7 (rWi x) 225 [(0, .ref (E.1 30 0)), (1, .int c1_2)] [] μ_37) : ∀ (n : Nat) (a2_3 : Int32) (μ_4 : Mem) {x}, f_X8_row_L7 κ c1_2 n a2_3 μ_4 = some x → V Y l E lvM 7 (rWi x) 7 [(0, .ref (E.1 30 0)), (1, .int c1_2), (2, .int a2_3)] [] μ_4 := by
  intro n
  induction n with
  | zero =>
    intro a2_3 μ_4 x h
    simp [f_X8_row_L7] at h
  | succ n ih =>
    intro a2_3 μ_4 x h
    rw [f_X8_row_L7] at h
    refine V_iload_n C 2 dX8_row_7 rfl 2 rfl ?_
    refine V_bipush C (101 : Int32) dX8_row_8 (by decide) ?_
    refine V_icmp_ge C (tgt := 225) dX8_row_10 (by decide) (fun hc => ?_) (fun hc => ?_)
    · replace h := (if_pos hc).symm.trans h
      refine V_sub (LP := [(0, .ref (E.1 30 0)), (1, .int c1_2)]) [0, 1] rfl ?_
      exact hκ _ _ h
    · replace h := (if_neg hc).symm.trans h
      refine V_aload_n C 0 dX8_row_13 rfl 0 rfl ?_
      obtain ⟨v_5, μ_6, hv, h⟩ := bW_inv h
      refine V_callVo C 30 0 m_30 (some (.int v_5)) (con_X8_ahead hl hv) tb_X8_ahead lk_RX8_63 rfl rfl rfl (by decide) (by decide) rfl (Nat.le_of_ble_eq_true rfl) rfl dX8_row_14 rfl ?_
      clear hv
      refine V_istore_n (L' := [(0, .ref (E.1 30 0)), (1, .int c1_2), (2, .int a2_3), (3, .int v_5)]) C 3 dX8_row_17 rfl (by decide) [1, 2, 3, 0] rfl ?_
      refine V_iload_n C 3 dX8_row_18 rfl 3 rfl ?_
      obtain ⟨v_7, hv, h⟩ := bP_inv h
      refine V_callSo C (some (.int v_7)) (con_X8_digit hl v_5 hv) tb_X8_digit lk_RX8_67 (by decide) (by decide) rfl (Nat.le_of_ble_eq_true rfl) rfl dX8_row_19 rfl ?_
      clear hv
      obtain ⟨j_8, hj_8, h⟩ := jn_ex h
      have J_8 : ∀ (_ : Unit) x, j_8 () = some x → V Y l E lvM 7 (rWi x) 34 [(0, .ref (E.1 30 0)), (1, .int c1_2), (2, .int a2_3), (3, .int v_5)] [] μ_6 := by
        intro _  x h
        rw [hj_8] at h; clear hj_8
        refine V_iload_n C 3 dX8_row_34 rfl 3 rfl ?_
        refine V_bipush C (95 : Int32) dX8_row_35 (by decide) ?_
        obtain ⟨j_10, hj_10, h⟩ := jn_ex h
        have J_10 : ∀ (s_9 : Int32) x, j_10 s_9 = some x → V Y l E lvM 7 (rWi x) 45 [(0, .ref (E.1 30 0)), (1, .int c1_2), (2, .int a2_3)] [.int s_9] μ_6 := by
          intro s_9  x h
          rw [hj_10] at h; clear hj_10
          refine V_istore (L' := [(0, .ref (E.1 30 0)), (1, .int c1_2), (2, .int a2_3), (4, .int s_9)]) C dX8_row_45 (by decide) [1, 2, 3, 0] rfl ?_
          refine V_iload C dX8_row_47 3 rfl ?_
          obtain ⟨j_12, hj_12, h⟩ := jn_ex h
          have J_12 : ∀ (μ_11 : Mem) x, j_12 μ_11 = some x → V Y l E lvM 7 (rWi x) 62 [(0, .ref (E.1 30 0)), (1, .int c1_2), (2, .int a2_3), (4, .int s_9)] [] μ_11 := by
            intro μ_11  x h
            rw [hj_12] at h; clear hj_12
            refine V_iconst C (0 : Int32) dX8_row_62 (by decide) ?_
            refine V_istore (L' := [(0, .ref (E.1 30 0)), (1, .int c1_2), (2, .int a2_3), (4, .int s_9), (5, .int (0 : Int32))]) C dX8_row_63 (by decide) [1, 2, 3, 4, 0] rfl ?_
            refine V_iconst C (0 : Int32) dX8_row_65 (by decide) ?_
            refine V_istore (L' := [(0, .ref (E.1 30 0)), (1, .int c1_2), (2, .int a2_3), (4, .int s_9), (5, .int (0 : Int32)), (6, .int (0 : Int32))]) C dX8_row_66 (by decide) [1, 2, 3, 4, 5, 0] rfl ?_
            refine V_sub (LP := [(0, .ref (E.1 30 0)), (1, .int c1_2), (2, .int a2_3), (4, .int s_9), (5, .int (0 : Int32)), (6, .int (0 : Int32))]) [0, 1, 2, 3, 4, 5] rfl ?_
            refine lp_X8_row_68 hl C c1_2 a2_3 s_9 (fun a5_26 a6_27 μ_28 x h => ?_) 1000 _ _ _ h
            refine V_iload C dX8_row_140 5 rfl ?_
            refine V_if_eq C (tgt := 185) dX8_row_142 (by decide) (fun hc => ?_) (fun hc => ?_)
            · replace h := (if_pos hc).symm.trans h
              refine V_iconst C (0 : Int32) dX8_row_185 (by decide) ?_
              cases h
              exact V_ireturn C rfl rfl rfl dX8_row_186
            · replace h := (if_neg hc).symm.trans h
              refine V_aload_n C 0 dX8_row_145 rfl 0 rfl ?_
              refine V_getf (v := .int (μ_28 30 0 11)) C 30 0 m_30 fl_RX8_54 rfl rfl dX8_row_146 ?_
              refine V_aload_n C 0 dX8_row_149 rfl 0 rfl ?_
              refine V_getf (v := .int (μ_28 30 0 1)) C 30 0 m_30 fl_RX8_51 rfl rfl dX8_row_150 ?_
              obtain ⟨j_29, hj_29, h⟩ := jn_ex h
              have J_29 : ∀ (_ : Unit) x, j_29 () = some x → V Y l E lvM 7 (rWi x) 187 [(0, .ref (E.1 30 0)), (1, .int c1_2), (2, .int a2_3), (4, .int s_9), (5, .int a5_26)] [] μ_28 := by
                intro _  x h
                rw [hj_29] at h; clear hj_29
                refine V_aload_n C 0 dX8_row_187 rfl 0 rfl ?_
                refine V_getf (v := .ref (E.1 38 0)) C 30 0 m_30 fl_RX8_31 rfl rfl dX8_row_188 ?_
                refine V_aload_n C 0 dX8_row_191 rfl 0 rfl ?_
                refine V_getf (v := .int (μ_28 30 0 10)) C 30 0 m_30 fl_RX8_60 rfl rfl dX8_row_192 ?_
                refine V_iload C dX8_row_195 3 rfl ?_
                obtain ⟨j_31, hj_31, h⟩ := jn_ex h
                have J_31 : ∀ (s_30 : Int32) x, j_31 s_30 = some x → V Y l E lvM 7 (rWi x) 208 [(0, .ref (E.1 30 0)), (1, .int c1_2), (2, .int a2_3)] [.int s_30, .int (μ_28 30 0 10), .ref (E.1 38 0)] μ_28 := by
                  intro s_30  x h
                  rw [hj_31] at h; clear hj_31
                  obtain ⟨hi9, h⟩ := gd_inv h
                  refine V_iast C 38 0 m_38 (fun _ => rfl) (inb_in hi9) dX8_row_208 ?_
                  refine V_memn (fun μ_32 hn9 => ?_)
                  replace h := lt_eq hn9 h; clear hn9
                  refine V_aload_n C 0 dX8_row_209 rfl 0 rfl ?_
                  refine V_aload_n C 0 dX8_row_210 rfl 0 rfl ?_
                  refine V_getf (v := .int (μ_32 30 0 10)) C 30 0 m_30 fl_RX8_60 rfl rfl dX8_row_211 ?_
                  refine V_iconst C (1 : Int32) dX8_row_214 (by decide) ?_
                  refine V_iadd C dX8_row_215 ?_
                  refine V_putI C 30 0 m_30 fp_RX8_60 rfl rfl rfl rfl (Nat.le_of_ble_eq_true rfl) dX8_row_216 ?_
                  refine V_memn (fun μ_33 hn9 => ?_)
                  replace h := lt_eq hn9 h; clear hn9
                  obtain ⟨x_34, hn9⟩ : ∃ z : Int32, z = a2_3 + (1 : Int32) := ⟨_, rfl⟩
                  replace h := lt_eq hn9 h
                  refine V_iinc (L' := [(0, .ref (E.1 30 0)), (1, .int c1_2), (2, .int x_34)]) C x_34 dX8_row_219 2 rfl (by rw [hn9]; exact congrArg (a2_3 + ·) (by decide)) (by decide) [1, 2, 0] rfl ?_
                  clear hn9
                  refine V_goto C (tgt := 7) dX8_row_222 (by decide) ?_
                  refine V_sub (LP := [(0, .ref (E.1 30 0)), (1, .int c1_2), (2, .int x_34)]) [0, 1, 2] rfl ?_
                  exact ih _ _ h
                clear hj_31
                refine V_if_eq C (tgt := 206) dX8_row_197 (by decide) (fun hc => ?_) (fun hc => ?_)
                · replace h := (if_pos hc).symm.trans h
                  refine V_iload C dX8_row_206 4 rfl ?_
                  refine V_sub (LP := [(0, .ref (E.1 30 0)), (1, .int c1_2), (2, .int a2_3)]) [0, 1, 2] rfl ?_
                  exact J_31 _ _ h
                · replace h := (if_neg hc).symm.trans h
                  refine V_iload C dX8_row_200 4 rfl ?_
                  refine V_ineg C dX8_row_202 ?_
                  refine V_goto C (tgt := 208) dX8_row_203 (by decide) ?_
                  refine V_sub (LP := [(0, .ref (E.1 30 0)), (1, .int c1_2), (2, .int a2_3)]) [0, 1, 2] rfl ?_
                  exact J_31 _ _ h
              clear hj_29
              refine V_icmp_ge C (tgt := 187) dX8_row_153 (by decide) (fun hc => ?_) (fun hc => ?_)
              · replace h := (if_pos hc).symm.trans h
                refine V_sub (LP := [(0, .ref (E.1 30 0)), (1, .int c1_2), (2, .int a2_3), (4, .int s_9), (5, .int a5_26)]) [0, 1, 2, 3, 4] rfl ?_
                exact J_29 () _ h
              · replace h := (if_neg hc).symm.trans h
                refine V_aload_n C 0 dX8_row_156 rfl 0 rfl ?_
                refine V_getf (v := .ref (E.1 31 0)) C 30 0 m_30 fl_RX8_7 rfl rfl dX8_row_157 ?_
                refine V_aload_n C 0 dX8_row_160 rfl 0 rfl ?_
                refine V_getf (v := .int (μ_28 30 0 11)) C 30 0 m_30 fl_RX8_54 rfl rfl dX8_row_161 ?_
                obtain ⟨hi9, h⟩ := gd_inv h
                refine V_iald C 31 0 m_31 (fun _ => rfl) (inb_in hi9) dX8_row_164 ?_
                obtain ⟨v_35, hv, h⟩ := bP_inv h
                refine V_callSo C (some (.int v_35)) (con_X8_digit hl (μ_28 31 0 ((μ_28 30 0 11)).toNatClampNeg) hv) tb_X8_digit lk_RX8_67 (by decide) (by decide) rfl (Nat.le_of_ble_eq_true rfl) rfl dX8_row_165 rfl ?_
                clear hv
                refine V_if_ne C (tgt := 185) dX8_row_168 (by decide) (fun hc => ?_) (fun hc => ?_)
                · replace h := (if_neg hc).symm.trans h
                  refine V_iconst C (0 : Int32) dX8_row_185 (by decide) ?_
                  cases h
                  exact V_ireturn C rfl rfl rfl dX8_row_186
                · replace h := (if_pos hc).symm.trans h
                  refine V_aload_n C 0 dX8_row_171 rfl 0 rfl ?_
                  refine V_getf (v := .ref (E.1 31 0)) C 30 0 m_30 fl_RX8_7 rfl rfl dX8_row_172 ?_
                  refine V_aload_n C 0 dX8_row_175 rfl 0 rfl ?_
                  refine V_getf (v := .int (μ_28 30 0 11)) C 30 0 m_30 fl_RX8_54 rfl rfl dX8_row_176 ?_
                  obtain ⟨hi9, h⟩ := gd_inv h
                  refine V_iald C 31 0 m_31 (fun _ => rfl) (inb_in hi9) dX8_row_179 ?_
                  refine V_bipush C (95 : Int32) dX8_row_180 (by decide) ?_
                  refine V_icmp_ne C (tgt := 187) dX8_row_182 (by decide) (fun hc => ?_) (fun hc => ?_)
                  · replace h := (if_neg hc).symm.trans h
                    refine V_sub (LP := [(0, .ref (E.1 30 0)), (1, .int c1_2), (2, .int a2_3), (4, .int s_9), (5, .int a5_26)]) [0, 1, 2, 3, 4] rfl ?_
                    exact J_29 () _ h
                  · replace h := (if_pos hc).symm.trans h
                    refine V_iconst C (0 : Int32) dX8_row_185 (by decide) ?_
                    cases h
                    exact V_ireturn C rfl rfl rfl dX8_row_186
          clear hj_12
          refine V_if_eq C (tgt := 62) dX8_row_49 (by decide) (fun hc => ?_) (fun hc => ?_)
          · replace h := (if_pos hc).symm.trans h
            refine V_sub (LP := [(0, .ref (E.1 30 0)), (1, .int c1_2), (2, .int a2_3), (4, .int s_9)]) [0, 1, 2, 3] rfl ?_
            exact J_12 _ _ h
          · replace h := (if_neg hc).symm.trans h
            refine V_aload_n C 0 dX8_row_52 rfl 0 rfl ?_
            refine V_aload_n C 0 dX8_row_53 rfl 0 rfl ?_
            refine V_getf (v := .int (μ_6 30 0 11)) C 30 0 m_30 fl_RX8_54 rfl rfl dX8_row_54 ?_
            refine V_iconst C (1 : Int32) dX8_row_57 (by decide) ?_
            refine V_iadd C dX8_row_58 ?_
            refine V_putI C 30 0 m_30 fp_RX8_54 rfl rfl rfl rfl (Nat.le_of_ble_eq_true rfl) dX8_row_59 ?_
            refine V_memn (fun μ_36 hn9 => ?_)
            replace h := lt_eq hn9 h; clear hn9
            refine V_sub (LP := [(0, .ref (E.1 30 0)), (1, .int c1_2), (2, .int a2_3), (4, .int s_9)]) [0, 1, 2, 3] rfl ?_
            exact J_12 _ _ h
        clear hj_10
        refine V_icmp_ne C (tgt := 44) dX8_row_37 (by decide) (fun hc => ?_) (fun hc => ?_)
        · replace h := (if_neg hc).symm.trans h
          refine V_iconst C (0 : Int32) dX8_row_44 (by decide) ?_
          refine V_sub (LP := [(0, .ref (E.1 30 0)), (1, .int c1_2), (2, .int a2_3)]) [0, 1, 2] rfl ?_
          exact J_10 _ _ h
        · replace h := (if_pos hc).symm.trans h
          refine V_iconst C (1 : Int32) dX8_row_40 (by decide) ?_
          refine V_goto C (tgt := 45) dX8_row_41 (by decide) ?_
          refine V_sub (LP := [(0, .ref (E.1 30 0)), (1, .int c1_2), (2, .int a2_3)]) [0, 1, 2] rfl ?_
          exact J_10 _ _ h
      clear hj_8
      refine V_if_ne C (tgt := 34) dX8_row_22 (by decide) (fun hc => ?_) (fun hc => ?_)
      · replace h := (if_neg hc).symm.trans h
        refine V_sub (LP := [(0, .ref (E.1 30 0)), (1, .int c1_2), (2, .int a2_3), (3, .int v_5)]) [0, 1, 2, 3] rfl ?_
        exact J_8 () _ h
      · replace h := (if_pos hc).symm.trans h
        refine V_iload_n C 3 dX8_row_25 rfl 3 rfl ?_
        refine V_bipush C (95 : Int32) dX8_row_26 (by decide) ?_
        refine V_icmp_eq C (tgt := 34) dX8_row_28 (by decide) (fun hc => ?_) (fun hc => ?_)
        · replace h := (if_pos hc).symm.trans h
          refine V_sub (LP := [(0, .ref (E.1 30 0)), (1, .int c1_2), (2, .int a2_3), (3, .int v_5)]) [0, 1, 2, 3] rfl ?_
          exact J_8 () _ h
        · replace h := (if_neg hc).symm.trans h
          refine V_goto C (tgt := 225) dX8_row_31 (by decide) ?_
          refine V_sub (LP := [(0, .ref (E.1 30 0)), (1, .int c1_2)]) [0, 1] rfl ?_
          exact hκ _ _ h
set_option maxHeartbeats 4000000 in
set_option maxRecDepth 100000 in
theorem con_X8_row {l : Launch} {E : WE} (hl : l.stackTraces = false)   {μ : Mem} {x} (h : f_X8_row  μ = some x) : Con l E lvM yX8_row cX8_row 7 (some .boolean) 1 [.ref (E.1 30 0)] μ (rWi x) := by
  refine Con.of (by decide) hl (Nat.le_of_ble_eq_true rfl) (fun Y C => ?_)
  replace C : Ok Y l E lvM 7 RX8 cX8_row (some .boolean) 1 := C
  show V Y l E lvM 7 (rWi x) 0 [(0, .ref (E.1 30 0))] [] μ
  unfold f_X8_row at h
  refine V_aload_n C 0 dX8_row_0 rfl 0 rfl ?_
  refine V_getf (v := .int (μ 30 0 10)) C 30 0 m_30 fl_RX8_60 rfl rfl dX8_row_1 ?_
  refine V_topi (fun x_1 hn9 => ?_)
  replace h := lt_eq hn9 h; clear hn9
  refine V_istore_n (L' := [(0, .ref (E.1 30 0)), (1, .int x_1)]) C 1 dX8_row_4 rfl (by decide) [1, 0] rfl ?_
  refine V_iconst C (0 : Int32) dX8_row_5 (by decide) ?_
  refine V_istore_n (L' := [(0, .ref (E.1 30 0)), (1, .int x_1), (2, .int (0 : Int32))]) C 2 dX8_row_6 rfl (by decide) [1, 2, 0] rfl ?_
  refine V_sub (LP := [(0, .ref (E.1 30 0)), (1, .int x_1), (2, .int (0 : Int32))]) [0, 1, 2] rfl ?_
  refine lp_X8_row_7 hl C x_1 (fun μ_38 x h => ?_) 1000 _ _ h
  refine V_aload_n C 0 dX8_row_225 rfl 0 rfl ?_
  refine V_iconst C (0 : Int32) dX8_row_226 (by decide) ?_
  refine V_iload_n C 1 dX8_row_227 rfl 1 rfl ?_
  refine V_aload_n C 0 dX8_row_228 rfl 0 rfl ?_
  refine V_getf (v := .int (μ_38 30 0 10)) C 30 0 m_30 fl_RX8_60 rfl rfl dX8_row_229 ?_
  refine V_iload_n C 1 dX8_row_232 rfl 1 rfl ?_
  refine V_isub C dX8_row_233 ?_
  obtain ⟨u_39, μ_40, hv, h⟩ := bW_inv h
  refine V_callVo C 30 0 m_30 none (con_X8_add hl (0 : Int32) x_1 ((μ_38 30 0 10) - x_1) hv) tb_X8_add lk_RX8_71 rfl rfl rfl (by decide) (by decide) rfl (Nat.le_of_ble_eq_true rfl) rfl dX8_row_234 rfl ?_
  clear hv
  refine V_iconst C (1 : Int32) dX8_row_237 (by decide) ?_
  cases h
  exact V_ireturn C rfl rfl rfl dX8_row_238
set_option maxHeartbeats 4000000 in
set_option maxRecDepth 100000 in
theorem con_X8_one {l : Launch} {E : WE} (hl : l.stackTraces = false)   {μ : Mem} {x} (h : f_X8_one  μ = some x) : Con l E lvM yX8_one cX8_one 4 (some .int) 1 [.ref (E.1 30 0)] μ (rWi x) := by
  refine Con.of (by decide) hl (Nat.le_of_ble_eq_true rfl) (fun Y C => ?_)
  replace C : Ok Y l E lvM 4 RX8 cX8_one (some .int) 1 := C
  show V Y l E lvM 4 (rWi x) 0 [(0, .ref (E.1 30 0))] [] μ
  unfold f_X8_one at h
  refine V_aload_n C 0 dX8_one_0 rfl 0 rfl ?_
  obtain ⟨v_1, μ_2, hv, h⟩ := bW_inv h
  refine V_callVo C 30 0 m_30 (some (.int v_1)) (con_X8_ahead hl hv) tb_X8_ahead lk_RX8_63 rfl rfl rfl (by decide) (by decide) rfl (Nat.le_of_ble_eq_true rfl) rfl dX8_one_1 rfl ?_
  clear hv
  refine V_istore_n (L' := [(0, .ref (E.1 30 0)), (1, .int v_1)]) C 1 dX8_one_4 rfl (by decide) [1, 0] rfl ?_
  refine V_iload_n C 1 dX8_one_5 rfl 1 rfl ?_
  obtain ⟨v_3, hv, h⟩ := bP_inv h
  refine V_callSo C (some (.int v_3)) (con_X8_plain hl v_1 hv) tb_X8_plain lk_RX8_75 (by decide) (by decide) rfl (Nat.le_of_ble_eq_true rfl) rfl dX8_one_6 rfl ?_
  clear hv
  refine V_istore_n (L' := [(0, .ref (E.1 30 0)), (1, .int v_1), (2, .int v_3)]) C 2 dX8_one_9 rfl (by decide) [1, 2, 0] rfl ?_
  refine V_aload_n C 0 dX8_one_10 rfl 0 rfl ?_
  refine V_aload_n C 0 dX8_one_11 rfl 0 rfl ?_
  refine V_getf (v := .int (μ_2 30 0 11)) C 30 0 m_30 fl_RX8_54 rfl rfl dX8_one_12 ?_
  refine V_iconst C (1 : Int32) dX8_one_15 (by decide) ?_
  refine V_iadd C dX8_one_16 ?_
  refine V_putI C 30 0 m_30 fp_RX8_54 rfl rfl rfl rfl (Nat.le_of_ble_eq_true rfl) dX8_one_17 ?_
  refine V_memn (fun μ_4 hn9 => ?_)
  replace h := lt_eq hn9 h; clear hn9
  refine V_iload_n C 2 dX8_one_20 rfl 2 rfl ?_
  refine V_if_lt C (tgt := 101) dX8_one_21 (by decide) (fun hc => ?_) (fun hc => ?_)
  · replace h := (if_pos hc).symm.trans h
    refine V_iload_n C 1 dX8_one_101 rfl 1 rfl ?_
    refine V_bipush C (105 : Int32) dX8_one_102 (by decide) ?_
    refine V_icmp_ne C (tgt := 112) dX8_one_104 (by decide) (fun hc => ?_) (fun hc => ?_)
    · replace h := (if_neg hc).symm.trans h
      refine V_iload_n C 1 dX8_one_112 rfl 1 rfl ?_
      refine V_bipush C (114 : Int32) dX8_one_113 (by decide) ?_
      refine V_icmp_ne C (tgt := 123) dX8_one_115 (by decide) (fun hc => ?_) (fun hc => ?_)
      · replace h := (if_neg hc).symm.trans h
        refine V_iload_n C 1 dX8_one_123 rfl 1 rfl ?_
        refine V_bipush C (44 : Int32) dX8_one_124 (by decide) ?_
        refine V_icmp_ne C (tgt := 134) dX8_one_126 (by decide) (fun hc => ?_) (fun hc => ?_)
        · replace h := (if_neg hc).symm.trans h
          refine V_iload_n C 1 dX8_one_134 rfl 1 rfl ?_
          refine V_bipush C (116 : Int32) dX8_one_135 (by decide) ?_
          refine V_icmp_ne C (tgt := 145) dX8_one_137 (by decide) (fun hc => ?_) (fun hc => ?_)
          · replace h := (if_neg hc).symm.trans h
            refine V_iload_n C 1 dX8_one_145 rfl 1 rfl ?_
            refine V_bipush C (118 : Int32) dX8_one_146 (by decide) ?_
            refine V_icmp_ne C (tgt := 156) dX8_one_148 (by decide) (fun hc => ?_) (fun hc => ?_)
            · replace h := (if_neg hc).symm.trans h
              refine V_iconst C (-1 : Int32) dX8_one_156 (by decide) ?_
              cases h
              exact V_ireturn C rfl rfl rfl dX8_one_157
            · replace h := (if_pos hc).symm.trans h
              refine V_bipush C (27 : Int32) dX8_one_151 (by decide) ?_
              refine V_goto C (tgt := 157) dX8_one_153 (by decide) ?_
              cases h
              exact V_ireturn C rfl rfl rfl dX8_one_157
          · replace h := (if_pos hc).symm.trans h
            refine V_bipush C (26 : Int32) dX8_one_140 (by decide) ?_
            refine V_goto C (tgt := 157) dX8_one_142 (by decide) ?_
            cases h
            exact V_ireturn C rfl rfl rfl dX8_one_157
        · replace h := (if_pos hc).symm.trans h
          refine V_bipush C (25 : Int32) dX8_one_129 (by decide) ?_
          refine V_goto C (tgt := 157) dX8_one_131 (by decide) ?_
          cases h
          exact V_ireturn C rfl rfl rfl dX8_one_157
      · replace h := (if_pos hc).symm.trans h
        refine V_bipush C (24 : Int32) dX8_one_118 (by decide) ?_
        refine V_goto C (tgt := 157) dX8_one_120 (by decide) ?_
        cases h
        exact V_ireturn C rfl rfl rfl dX8_one_157
    · replace h := (if_pos hc).symm.trans h
      refine V_bipush C (23 : Int32) dX8_one_107 (by decide) ?_
      refine V_goto C (tgt := 157) dX8_one_109 (by decide) ?_
      cases h
      exact V_ireturn C rfl rfl rfl dX8_one_157
  · replace h := (if_neg hc).symm.trans h
    refine V_aload_n C 0 dX8_one_24 rfl 0 rfl ?_
    obtain ⟨v_5, μ_6, hv, h⟩ := bW_inv h
    refine V_callVo C 30 0 m_30 (some (.int v_5)) (con_X8_ahead hl hv) tb_X8_ahead lk_RX8_63 rfl rfl rfl (by decide) (by decide) rfl (Nat.le_of_ble_eq_true rfl) rfl dX8_one_25 rfl ?_
    clear hv
    refine V_istore_n (L' := [(0, .ref (E.1 30 0)), (1, .int v_1), (2, .int v_3), (3, .int v_5)]) C 3 dX8_one_28 rfl (by decide) [1, 2, 3, 0] rfl ?_
    refine V_iload_n C 3 dX8_one_29 rfl 3 rfl ?_
    refine V_bipush C (47 : Int32) dX8_one_30 (by decide) ?_
    obtain ⟨j_7, hj_7, h⟩ := jn_ex h
    have J_7 : ∀ (_ : Unit) x, j_7 () = some x → V Y l E lvM 4 (rWi x) 41 [(0, .ref (E.1 30 0)), (2, .int v_3), (3, .int v_5)] [] μ_6 := by
      intro _  x h
      rw [hj_7] at h; clear hj_7
      refine V_aload_n C 0 dX8_one_41 rfl 0 rfl ?_
      refine V_aload_n C 0 dX8_one_42 rfl 0 rfl ?_
      refine V_getf (v := .int (μ_6 30 0 11)) C 30 0 m_30 fl_RX8_54 rfl rfl dX8_one_43 ?_
      refine V_iconst C (1 : Int32) dX8_one_46 (by decide) ?_
      refine V_iadd C dX8_one_47 ?_
      refine V_putI C 30 0 m_30 fp_RX8_54 rfl rfl rfl rfl (Nat.le_of_ble_eq_true rfl) dX8_one_48 ?_
      refine V_memn (fun μ_8 hn9 => ?_)
      replace h := lt_eq hn9 h; clear hn9
      refine V_iload_n C 3 dX8_one_51 rfl 2 rfl ?_
      refine V_bipush C (47 : Int32) dX8_one_52 (by decide) ?_
      refine V_icmp_ne C (tgt := 61) dX8_one_54 (by decide) (fun hc => ?_) (fun hc => ?_)
      · replace h := (if_neg hc).symm.trans h
        refine V_bipush C (10 : Int32) dX8_one_61 (by decide) ?_
        refine V_iload_n C 2 dX8_one_63 rfl 1 rfl ?_
        refine V_iadd C dX8_one_64 ?_
        cases h
        exact V_ireturn C rfl rfl rfl dX8_one_65
      · replace h := (if_pos hc).symm.trans h
        refine V_iload_n C 2 dX8_one_57 rfl 1 rfl ?_
        refine V_goto C (tgt := 65) dX8_one_58 (by decide) ?_
        cases h
        exact V_ireturn C rfl rfl rfl dX8_one_65
    clear hj_7
    refine V_icmp_eq C (tgt := 41) dX8_one_32 (by decide) (fun hc => ?_) (fun hc => ?_)
    · replace h := (if_pos hc).symm.trans h
      refine V_sub (LP := [(0, .ref (E.1 30 0)), (2, .int v_3), (3, .int v_5)]) [0, 2, 3] rfl ?_
      exact J_7 () _ h
    · replace h := (if_neg hc).symm.trans h
      refine V_iload_n C 3 dX8_one_35 rfl 3 rfl ?_
      refine V_bipush C (92 : Int32) dX8_one_36 (by decide) ?_
      refine V_icmp_ne C (tgt := 66) dX8_one_38 (by decide) (fun hc => ?_) (fun hc => ?_)
      · replace h := (if_neg hc).symm.trans h
        refine V_iload_n C 1 dX8_one_66 rfl 1 rfl ?_
        refine V_bipush C (45 : Int32) dX8_one_67 (by decide) ?_
        refine V_icmp_ne C (tgt := 77) dX8_one_69 (by decide) (fun hc => ?_) (fun hc => ?_)
        · replace h := (if_neg hc).symm.trans h
          refine V_iload_n C 1 dX8_one_77 rfl 1 rfl ?_
          refine V_bipush C (124 : Int32) dX8_one_78 (by decide) ?_
          refine V_icmp_ne C (tgt := 88) dX8_one_80 (by decide) (fun hc => ?_) (fun hc => ?_)
          · replace h := (if_neg hc).symm.trans h
            refine V_iload_n C 1 dX8_one_88 rfl 1 rfl ?_
            refine V_bipush C (42 : Int32) dX8_one_89 (by decide) ?_
            refine V_icmp_ne C (tgt := 99) dX8_one_91 (by decide) (fun hc => ?_) (fun hc => ?_)
            · replace h := (if_neg hc).symm.trans h
              refine V_iconst C (-1 : Int32) dX8_one_99 (by decide) ?_
              cases h
              exact V_ireturn C rfl rfl rfl dX8_one_100
            · replace h := (if_pos hc).symm.trans h
              refine V_bipush C (22 : Int32) dX8_one_94 (by decide) ?_
              refine V_goto C (tgt := 100) dX8_one_96 (by decide) ?_
              cases h
              exact V_ireturn C rfl rfl rfl dX8_one_100
          · replace h := (if_pos hc).symm.trans h
            refine V_bipush C (21 : Int32) dX8_one_83 (by decide) ?_
            refine V_goto C (tgt := 100) dX8_one_85 (by decide) ?_
            cases h
            exact V_ireturn C rfl rfl rfl dX8_one_100
        · replace h := (if_pos hc).symm.trans h
          refine V_bipush C (20 : Int32) dX8_one_72 (by decide) ?_
          refine V_goto C (tgt := 100) dX8_one_74 (by decide) ?_
          cases h
          exact V_ireturn C rfl rfl rfl dX8_one_100
      · replace h := (if_pos hc).symm.trans h
        refine V_sub (LP := [(0, .ref (E.1 30 0)), (2, .int v_3), (3, .int v_5)]) [0, 2, 3] rfl ?_
        exact J_7 () _ h
set_option maxHeartbeats 4000000 in
set_option maxRecDepth 100000 in
theorem con_X8_two {l : Launch} {E : WE} (hl : l.stackTraces = false)   {μ : Mem} {x} (h : f_X8_two  μ = some x) : Con l E lvM yX8_two cX8_two 5 (some .int) 1 [.ref (E.1 30 0)] μ (rWi x) := by
  refine Con.of (by decide) hl (Nat.le_of_ble_eq_true rfl) (fun Y C => ?_)
  replace C : Ok Y l E lvM 5 RX8 cX8_two (some .int) 1 := C
  show V Y l E lvM 5 (rWi x) 0 [(0, .ref (E.1 30 0))] [] μ
  unfold f_X8_two at h
  refine V_aload_n C 0 dX8_two_0 rfl 0 rfl ?_
  obtain ⟨v_1, μ_2, hv, h⟩ := bW_inv h
  refine V_callVo C 30 0 m_30 (some (.int v_1)) (con_X8_ahead hl hv) tb_X8_ahead lk_RX8_63 rfl rfl rfl (by decide) (by decide) rfl (Nat.le_of_ble_eq_true rfl) rfl dX8_two_1 rfl ?_
  clear hv
  refine V_istore_n (L' := [(0, .ref (E.1 30 0)), (1, .int v_1)]) C 1 dX8_two_4 rfl (by decide) [1, 0] rfl ?_
  refine V_iload_n C 1 dX8_two_5 rfl 1 rfl ?_
  obtain ⟨v_3, hv, h⟩ := bP_inv h
  refine V_callSo C (some (.int v_3)) (con_X8_plain hl v_1 hv) tb_X8_plain lk_RX8_75 (by decide) (by decide) rfl (Nat.le_of_ble_eq_true rfl) rfl dX8_two_6 rfl ?_
  clear hv
  refine V_istore_n (L' := [(0, .ref (E.1 30 0)), (1, .int v_1), (2, .int v_3)]) C 2 dX8_two_9 rfl (by decide) [1, 2, 0] rfl ?_
  refine V_aload_n C 0 dX8_two_10 rfl 0 rfl ?_
  refine V_aload_n C 0 dX8_two_11 rfl 0 rfl ?_
  refine V_getf (v := .int (μ_2 30 0 11)) C 30 0 m_30 fl_RX8_54 rfl rfl dX8_two_12 ?_
  refine V_iconst C (1 : Int32) dX8_two_15 (by decide) ?_
  refine V_iadd C dX8_two_16 ?_
  refine V_putI C 30 0 m_30 fp_RX8_54 rfl rfl rfl rfl (Nat.le_of_ble_eq_true rfl) dX8_two_17 ?_
  refine V_memn (fun μ_4 hn9 => ?_)
  replace h := lt_eq hn9 h; clear hn9
  refine V_iload_n C 2 dX8_two_20 rfl 2 rfl ?_
  refine V_if_ge C (tgt := 59) dX8_two_21 (by decide) (fun hc => ?_) (fun hc => ?_)
  · replace h := (if_pos hc).symm.trans h
    refine V_aload_n C 0 dX8_two_59 rfl 0 rfl ?_
    obtain ⟨v_5, μ_6, hv, h⟩ := bW_inv h
    refine V_callVo C 30 0 m_30 (some (.int v_5)) (con_X8_ahead hl hv) tb_X8_ahead lk_RX8_63 rfl rfl rfl (by decide) (by decide) rfl (Nat.le_of_ble_eq_true rfl) rfl dX8_two_60 rfl ?_
    clear hv
    refine V_istore_n (L' := [(0, .ref (E.1 30 0)), (1, .int v_1), (2, .int v_3), (3, .int v_5)]) C 3 dX8_two_63 rfl (by decide) [1, 2, 3, 0] rfl ?_
    refine V_iload_n C 3 dX8_two_64 rfl 3 rfl ?_
    refine V_bipush C (64 : Int32) dX8_two_65 (by decide) ?_
    refine V_icmp_ne C (tgt := 85) dX8_two_67 (by decide) (fun hc => ?_) (fun hc => ?_)
    · replace h := (if_neg hc).symm.trans h
      refine V_iload_n C 3 dX8_two_85 rfl 3 rfl ?_
      refine V_bipush C (46 : Int32) dX8_two_86 (by decide) ?_
      refine V_icmp_eq C (tgt := 93) dX8_two_88 (by decide) (fun hc => ?_) (fun hc => ?_)
      · replace h := (if_pos hc).symm.trans h
        refine V_aload_n C 0 dX8_two_93 rfl 0 rfl ?_
        refine V_aload_n C 0 dX8_two_94 rfl 0 rfl ?_
        refine V_getf (v := .int (μ_6 30 0 11)) C 30 0 m_30 fl_RX8_54 rfl rfl dX8_two_95 ?_
        refine V_iconst C (1 : Int32) dX8_two_98 (by decide) ?_
        refine V_iadd C dX8_two_99 ?_
        refine V_putI C 30 0 m_30 fp_RX8_54 rfl rfl rfl rfl (Nat.le_of_ble_eq_true rfl) dX8_two_100 ?_
        refine V_memn (fun μ_7 hn9 => ?_)
        replace h := lt_eq hn9 h; clear hn9
        refine V_aload_n C 0 dX8_two_103 rfl 0 rfl ?_
        obtain ⟨v_8, μ_9, hv, h⟩ := bW_inv h
        refine V_callVo C 30 0 m_30 (some (.int v_8)) (con_X8_ahead hl hv) tb_X8_ahead lk_RX8_63 rfl rfl rfl (by decide) (by decide) rfl (Nat.le_of_ble_eq_true rfl) rfl dX8_two_104 rfl ?_
        clear hv
        obtain ⟨v_10, hv, h⟩ := bP_inv h
        refine V_callSo C (some (.int v_10)) (con_X8_plain hl v_8 hv) tb_X8_plain lk_RX8_75 (by decide) (by decide) rfl (Nat.le_of_ble_eq_true rfl) rfl dX8_two_107 rfl ?_
        clear hv
        refine V_istore (L' := [(0, .ref (E.1 30 0)), (1, .int v_1), (2, .int v_3), (3, .int v_5), (4, .int v_10)]) C dX8_two_110 (by decide) [1, 2, 3, 4, 0] rfl ?_
        refine V_aload_n C 0 dX8_two_112 rfl 0 rfl ?_
        refine V_aload_n C 0 dX8_two_113 rfl 0 rfl ?_
        refine V_getf (v := .int (μ_9 30 0 11)) C 30 0 m_30 fl_RX8_54 rfl rfl dX8_two_114 ?_
        refine V_iconst C (1 : Int32) dX8_two_117 (by decide) ?_
        refine V_iadd C dX8_two_118 ?_
        refine V_putI C 30 0 m_30 fp_RX8_54 rfl rfl rfl rfl (Nat.le_of_ble_eq_true rfl) dX8_two_119 ?_
        refine V_memn (fun μ_11 hn9 => ?_)
        replace h := lt_eq hn9 h; clear hn9
        refine V_iload C dX8_two_122 4 rfl ?_
        refine V_if_ge C (tgt := 131) dX8_two_124 (by decide) (fun hc => ?_) (fun hc => ?_)
        · replace h := (if_pos hc).symm.trans h
          refine V_bipush C (100 : Int32) dX8_two_131 (by decide) ?_
          refine V_bipush C (10 : Int32) dX8_two_133 (by decide) ?_
          refine V_iload_n C 2 dX8_two_135 rfl 2 rfl ?_
          refine V_imul C dX8_two_136 ?_
          refine V_iadd C dX8_two_137 ?_
          refine V_iload C dX8_two_138 4 rfl ?_
          refine V_iadd C dX8_two_140 ?_
          cases h
          exact V_ireturn C rfl rfl rfl dX8_two_141
        · replace h := (if_neg hc).symm.trans h
          refine V_iconst C (-1 : Int32) dX8_two_127 (by decide) ?_
          refine V_goto C (tgt := 141) dX8_two_128 (by decide) ?_
          cases h
          exact V_ireturn C rfl rfl rfl dX8_two_141
      · replace h := (if_neg hc).symm.trans h
        refine V_iload_n C 2 dX8_two_91 rfl 2 rfl ?_
        cases h
        exact V_ireturn C rfl rfl rfl dX8_two_92
    · replace h := (if_pos hc).symm.trans h
      refine V_aload_n C 0 dX8_two_70 rfl 0 rfl ?_
      refine V_aload_n C 0 dX8_two_71 rfl 0 rfl ?_
      refine V_getf (v := .int (μ_6 30 0 11)) C 30 0 m_30 fl_RX8_54 rfl rfl dX8_two_72 ?_
      refine V_iconst C (1 : Int32) dX8_two_75 (by decide) ?_
      refine V_iadd C dX8_two_76 ?_
      refine V_putI C 30 0 m_30 fp_RX8_54 rfl rfl rfl rfl (Nat.le_of_ble_eq_true rfl) dX8_two_77 ?_
      refine V_memn (fun μ_12 hn9 => ?_)
      replace h := lt_eq hn9 h; clear hn9
      refine V_bipush C (20 : Int32) dX8_two_80 (by decide) ?_
      refine V_iload_n C 2 dX8_two_82 rfl 2 rfl ?_
      refine V_iadd C dX8_two_83 ?_
      cases h
      exact V_ireturn C rfl rfl rfl dX8_two_84
  · replace h := (if_neg hc).symm.trans h
    refine V_iload_n C 1 dX8_two_24 rfl 1 rfl ?_
    refine V_bipush C (114 : Int32) dX8_two_25 (by decide) ?_
    refine V_icmp_ne C (tgt := 35) dX8_two_27 (by decide) (fun hc => ?_) (fun hc => ?_)
    · replace h := (if_neg hc).symm.trans h
      refine V_iload_n C 1 dX8_two_35 rfl 1 rfl ?_
      refine V_bipush C (44 : Int32) dX8_two_36 (by decide) ?_
      refine V_icmp_ne C (tgt := 46) dX8_two_38 (by decide) (fun hc => ?_) (fun hc => ?_)
      · replace h := (if_neg hc).symm.trans h
        refine V_iload_n C 1 dX8_two_46 rfl 1 rfl ?_
        refine V_bipush C (112 : Int32) dX8_two_47 (by decide) ?_
        refine V_icmp_ne C (tgt := 57) dX8_two_49 (by decide) (fun hc => ?_) (fun hc => ?_)
        · replace h := (if_neg hc).symm.trans h
          refine V_iconst C (-1 : Int32) dX8_two_57 (by decide) ?_
          cases h
          exact V_ireturn C rfl rfl rfl dX8_two_58
        · replace h := (if_pos hc).symm.trans h
          refine V_bipush C (32 : Int32) dX8_two_52 (by decide) ?_
          refine V_goto C (tgt := 58) dX8_two_54 (by decide) ?_
          cases h
          exact V_ireturn C rfl rfl rfl dX8_two_58
      · replace h := (if_pos hc).symm.trans h
        refine V_bipush C (31 : Int32) dX8_two_41 (by decide) ?_
        refine V_goto C (tgt := 58) dX8_two_43 (by decide) ?_
        cases h
        exact V_ireturn C rfl rfl rfl dX8_two_58
    · replace h := (if_pos hc).symm.trans h
      refine V_bipush C (30 : Int32) dX8_two_30 (by decide) ?_
      refine V_goto C (tgt := 58) dX8_two_32 (by decide) ?_
      cases h
      exact V_ireturn C rfl rfl rfl dX8_two_58
