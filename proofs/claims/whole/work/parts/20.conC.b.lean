set_option maxHeartbeats 4000000 in
set_option maxRecDepth 100000 in
theorem con_J0_indexOf_0f7a4 {l : Launch} {E : WE} (hl : l.stackTraces = false) (j0 : Nat) (a1 : Int32) (hj0 : j0 < 4) {μ : Mem} {x} (h : f_J0_indexOf_0f7a4 j0 a1 μ = some x) : Con l E lvC yJ0_indexOf_0f7a4 cJ0_indexOf_0f7a4 2 (some .int) 3 [.ref (E.2.2.2.1 j0), .int a1] μ (rPi x μ) := by
  refine Con.ofF (by decide +kernel) hl (Nat.le_of_ble_eq_true rfl) (fun Y C => ?_)
  replace C : Ok Y l E lvC 2 RJ0 cJ0_indexOf_0f7a4 (some .int) 3 := C
  show V Y l E lvC 2 (rPi x μ) 0 [(0, .ref (E.2.2.2.1 j0)), (1, .int a1)] [] μ
  unfold f_J0_indexOf_0f7a4 at h
  refine V_aload_n C 0 dJ0_indexOf_0f7a4_0 rfl 0 rfl ?_
  refine V_iload_n C 1 dJ0_indexOf_0f7a4_1 rfl 1 rfl ?_
  refine V_iconst C (0 : Int32) dJ0_indexOf_0f7a4_2 (by decide) ?_
  obtain ⟨v_1, hv, h⟩ := bP_inv h
  refine V_callKo C j0 hj0 (some (.int v_1)) (con_J0_indexOf_7cf53 hl j0 a1 (0 : Int32) hj0 hv) tb_J0_indexOf_7cf53 lk_RJ0_633 rfl (by decide) (by decide) rfl (Nat.le_of_ble_eq_true rfl) rfl dJ0_indexOf_0f7a4_3 rfl ?_
  clear hv
  cases h
  exact V_ireturn C rfl rfl rfl dJ0_indexOf_0f7a4_6
set_option maxHeartbeats 4000000 in
set_option maxRecDepth 100000 in
theorem lp_X4_upTo_61 {Y : Mc} {l : Launch} {E : WE} (hl : l.stackTraces = false) (C : Ok Y l E lvC 3 RX4 cX4_upTo none 1) {κ : Mem → Option (Except Nat Unit × Mem)} (g_4 : Nat) (hg_4 : g_4 < 18) (hκ : ∀  (μ_9 : Mem) x, κ  μ_9 = some x → V Y l E lvC 3 (rBu x) 82 [] [] μ_9) : ∀ (n : Nat) (a2_5 : Int32) (μ_6 : Mem) {x}, f_X4_upTo_L61 κ g_4 n a2_5 μ_6 = some x → V Y l E lvC 3 (rBu x) 61 [(1, .ref (E.1 20 g_4)), (2, .int a2_5)] [] μ_6 := by
  intro n
  induction n with
  | zero =>
    intro a2_5 μ_6 x h
    simp [f_X4_upTo_L61] at h
  | succ n ih =>
    intro a2_5 μ_6 x h
    rw [f_X4_upTo_L61] at h
    refine V_iload_n C 2 dX4_upTo_61 rfl 1 rfl ?_
    refine V_aload_n C 1 dX4_upTo_62 rfl 0 rfl ?_
    refine V_getf (v := .int (μ_6 20 g_4 3)) C 20 g_4 (gr_0in g_4 hg_4) fl_RX4_18 rfl rfl dX4_upTo_63 ?_
    refine V_icmp_ge C (tgt := 82) dX4_upTo_66 (by decide) (fun hc => ?_) (fun hc => ?_)
    · replace h := (if_pos hc).symm.trans h
      refine V_sub (LP := []) [] rfl ?_
      exact hκ _ _ h
    · replace h := (if_neg hc).symm.trans h
      refine V_aload_n C 1 dX4_upTo_69 rfl 0 rfl ?_
      refine V_getf (v := .ref (E.1 22 g_4)) C 20 g_4 (gr_0in g_4 hg_4) fl_RX4_28 rfl rfl dX4_upTo_70 ?_
      refine V_iload_n C 2 dX4_upTo_73 rfl 1 rfl ?_
      refine V_iload_n C 2 dX4_upTo_74 rfl 1 rfl ?_
      obtain ⟨hi9, h⟩ := gd_inv h
      refine V_iast C 22 g_4 (gr_2in g_4 hg_4) (fun _ => rfl) (inb_in hi9) dX4_upTo_75 ?_
      refine V_memn (fun μ_7 hn9 => ?_)
      replace h := lt_eq hn9 h; clear hn9
      obtain ⟨x_8, hn9⟩ : ∃ z : Int32, z = a2_5 + (1 : Int32) := ⟨_, rfl⟩
      replace h := lt_eq hn9 h
      refine V_iinc (L' := [(1, .ref (E.1 20 g_4)), (2, .int x_8)]) C x_8 dX4_upTo_76 1 rfl (by rw [hn9]; exact congrArg (a2_5 + ·) (by decide)) (by decide) [1, 0] rfl ?_
      clear hn9
      refine V_goto C (tgt := 61) dX4_upTo_79 (by decide) ?_
      refine V_sub (LP := [(1, .ref (E.1 20 g_4)), (2, .int x_8)]) [0, 1] rfl ?_
      exact ih _ _ h
set_option maxHeartbeats 4000000 in
set_option maxRecDepth 100000 in
theorem con_X4_upTo {l : Launch} {E : WE} (hl : l.stackTraces = false) (g0 : Nat) (g1 : Nat) (hg0 : g0 < 18) (hg1 : g1 < 18) {μ : Mem} {x} (h : f_X4_upTo g0 g1 μ = some x) : Con l E lvC yX4_upTo cX4_upTo 3 none 1 [.ref (E.1 20 g0), .ref (E.1 20 g1)] μ (rBu x) := by
  refine Con.of (by decide) hl (Nat.le_of_ble_eq_true rfl) (fun Y C => ?_)
  replace C : Ok Y l E lvC 3 RX4 cX4_upTo none 1 := C
  show V Y l E lvC 3 (rBu x) 0 [(0, .ref (E.1 20 g0)), (1, .ref (E.1 20 g1))] [] μ
  unfold f_X4_upTo at h
  refine V_aload_n C 0 dX4_upTo_0 rfl 0 rfl ?_
  refine V_getf (v := .int (μ 20 g0 2)) C 20 g0 (gr_0in g0 hg0) fl_RX4_54 rfl rfl dX4_upTo_1 ?_
  refine V_iconst C (1 : Int32) dX4_upTo_4 (by decide) ?_
  refine V_icmp_le C (tgt := 16) dX4_upTo_5 (by decide) (fun hc => ?_) (fun hc => ?_)
  · replace h := (if_pos hc).symm.trans h
    refine V_aload_n C 0 dX4_upTo_16 rfl 0 rfl ?_
    refine V_getf (v := .int (μ 20 g0 3)) C 20 g0 (gr_0in g0 hg0) fl_RX4_18 rfl rfl dX4_upTo_17 ?_
    refine V_iconst C (1 : Int32) dX4_upTo_20 (by decide) ?_
    refine V_icmp_eq C (tgt := 32) dX4_upTo_21 (by decide) (fun hc => ?_) (fun hc => ?_)
    · replace h := (if_pos hc).symm.trans h
      refine V_aload_n C 0 dX4_upTo_32 rfl 0 rfl ?_
      refine V_getf (v := .ref (E.1 22 g0)) C 20 g0 (gr_0in g0 hg0) fl_RX4_28 rfl rfl dX4_upTo_33 ?_
      refine V_iconst C (0 : Int32) dX4_upTo_36 (by decide) ?_
      obtain ⟨hi9, h⟩ := gd_inv h
      refine V_iald C 22 g0 (gr_2in g0 hg0) (fun _ => rfl) (inb_in hi9) dX4_upTo_37 ?_
      refine V_if_ge C (tgt := 49) dX4_upTo_38 (by decide) (fun hc => ?_) (fun hc => ?_)
      · replace h := (if_pos hc).symm.trans h
        refine V_aload_n C 1 dX4_upTo_49 rfl 1 rfl ?_
        refine V_aload_n C 0 dX4_upTo_50 rfl 0 rfl ?_
        refine V_getf (v := .ref (E.1 22 g0)) C 20 g0 (gr_0in g0 hg0) fl_RX4_28 rfl rfl dX4_upTo_51 ?_
        refine V_iconst C (0 : Int32) dX4_upTo_54 (by decide) ?_
        obtain ⟨hi9, h⟩ := gd_inv h
        refine V_iald C 22 g0 (gr_2in g0 hg0) (fun _ => rfl) (inb_in hi9) dX4_upTo_55 ?_
        rcases bB_inv h with ⟨e_3, μ_2, hv, h⟩ | ⟨u_1, μ_2, hv, h⟩
        · cases h; exact V_callVe C 20 g1 (gr_0in g1 hg1) e_3 (con_X1_addAxis hl g1 (μ 22 g0 ((0 : Int32)).toNatClampNeg) hg1 hv) tb_X1_addAxis lk_RX4_24 rfl rfl rfl (by decide) (by decide) rfl (Nat.le_of_ble_eq_true rfl) rfl dX4_upTo_56 rfl
        refine V_callVo C 20 g1 (gr_0in g1 hg1) none (con_X1_addAxis hl g1 (μ 22 g0 ((0 : Int32)).toNatClampNeg) hg1 hv) tb_X1_addAxis lk_RX4_24 rfl rfl rfl (by decide) (by decide) rfl (Nat.le_of_ble_eq_true rfl) rfl dX4_upTo_56 rfl ?_
        clear hv
        refine V_iconst C (0 : Int32) dX4_upTo_59 (by decide) ?_
        refine V_istore_n (L' := [(0, .ref (E.1 20 g0)), (1, .ref (E.1 20 g1)), (2, .int (0 : Int32))]) C 2 dX4_upTo_60 rfl (by decide) [1, 2, 0] rfl ?_
        refine V_sub (LP := [(1, .ref (E.1 20 g1)), (2, .int (0 : Int32))]) [1, 2] rfl ?_
        refine lp_X4_upTo_61 hl C g1 hg1 (fun μ_10 x h => ?_) 1000 _ _ h
        cases h
        exact V_return C rfl rfl dX4_upTo_82
      · replace h := (if_neg hc).symm.trans h
        cases h
        exact V_throw C 2 th_RX4_63 rfl (Nat.le_of_ble_eq_true rfl) dX4_upTo_41 dX4_upTo_44 dX4_upTo_45 dX4_upTo_48
    · replace h := (if_neg hc).symm.trans h
      cases h
      exact V_throw C 3 th_RX4_60 rfl (Nat.le_of_ble_eq_true rfl) dX4_upTo_24 dX4_upTo_27 dX4_upTo_28 dX4_upTo_31
  · replace h := (if_neg hc).symm.trans h
    cases h
    exact V_throw C 4 th_RX4_57 rfl (Nat.le_of_ble_eq_true rfl) dX4_upTo_8 dX4_upTo_11 dX4_upTo_12 dX4_upTo_15
set_option maxHeartbeats 4000000 in
set_option maxRecDepth 100000 in
theorem con_X4_lengthsOf {l : Launch} {E : WE} (hl : l.stackTraces = false) (g0 : Nat) (g1 : Nat) (hg0 : g0 < 18) (hg1 : g1 < 18) {μ : Mem} {x} (h : f_X4_lengthsOf g0 g1 μ = some x) : Con l E lvC yX4_lengthsOf cX4_lengthsOf 2 none 1 [.ref (E.1 20 g0), .ref (E.1 20 g1)] μ (rBu x) := by
  refine Con.of (by decide) hl (Nat.le_of_ble_eq_true rfl) (fun Y C => ?_)
  replace C : Ok Y l E lvC 2 RX4 cX4_lengthsOf none 1 := C
  show V Y l E lvC 2 (rBu x) 0 [(0, .ref (E.1 20 g0)), (1, .ref (E.1 20 g1))] [] μ
  unfold f_X4_lengthsOf at h
  refine V_aload_n C 1 dX4_lengthsOf_0 rfl 1 rfl ?_
  refine V_aload_n C 0 dX4_lengthsOf_1 rfl 0 rfl ?_
  refine V_getf (v := .int (μ 20 g0 2)) C 20 g0 (gr_0in g0 hg0) fl_RX4_54 rfl rfl dX4_lengthsOf_2 ?_
  rcases bB_inv h with ⟨e_3, μ_2, hv, h⟩ | ⟨u_1, μ_2, hv, h⟩
  · cases h; exact V_callVe C 20 g1 (gr_0in g1 hg1) e_3 (con_X1_addAxis hl g1 (μ 20 g0 2) hg1 hv) tb_X1_addAxis lk_RX4_24 rfl rfl rfl (by decide) (by decide) rfl (Nat.le_of_ble_eq_true rfl) rfl dX4_lengthsOf_5 rfl
  refine V_callVo C 20 g1 (gr_0in g1 hg1) none (con_X1_addAxis hl g1 (μ 20 g0 2) hg1 hv) tb_X1_addAxis lk_RX4_24 rfl rfl rfl (by decide) (by decide) rfl (Nat.le_of_ble_eq_true rfl) rfl dX4_lengthsOf_5 rfl ?_
  clear hv
  refine V_aload_n C 0 dX4_lengthsOf_8 rfl 0 rfl ?_
  refine V_getf (v := .ref (E.1 21 g0)) C 20 g0 (gr_0in g0 hg0) fl_RX4_66 rfl rfl dX4_lengthsOf_9 ?_
  refine V_iconst C (0 : Int32) dX4_lengthsOf_12 (by decide) ?_
  refine V_aload_n C 1 dX4_lengthsOf_13 rfl 1 rfl ?_
  refine V_getf (v := .ref (E.1 22 g1)) C 20 g1 (gr_0in g1 hg1) fl_RX4_28 rfl rfl dX4_lengthsOf_14 ?_
  refine V_iconst C (0 : Int32) dX4_lengthsOf_17 (by decide) ?_
  refine V_aload_n C 0 dX4_lengthsOf_18 rfl 0 rfl ?_
  refine V_getf (v := .int (μ_2 20 g0 2)) C 20 g0 (gr_0in g0 hg0) fl_RX4_54 rfl rfl dX4_lengthsOf_19 ?_
  obtain ⟨hq9, h⟩ := gd_inv h
  obtain ⟨q1, q2, q3, q4, q5⟩ := cpok_g hq9
  refine V_copyi C 21 g0 22 g1 (gr_1in g0 hg0) (gr_2in g1 hg1) (fun _ => rfl) (fun _ => rfl) lk_RX4_32 w_cp1 w_cp2 w_cp3 q1 q2 q3 q4 q5 (Nat.le_of_ble_eq_true rfl) dX4_lengthsOf_22 ?_
  refine V_memn (fun μ_4 hn9 => ?_)
  replace h := lt_eq hn9 h; clear hn9
  cases h
  exact V_return C rfl rfl dX4_lengthsOf_25
set_option maxHeartbeats 4000000 in
set_option maxRecDepth 100000 in
theorem lp_X4_turnAxes_7 {Y : Mc} {l : Launch} {E : WE} (hl : l.stackTraces = false) (C : Ok Y l E lvC 9 RX4 cX4_turnAxes none 1) {κ : Mem → Option (Except Nat Unit × Mem)} (g_2 : Nat) (g_3 : Nat) (hg_2 : g_2 < 18) (hg_3 : g_3 < 18) (hκ : ∀  (μ_10 : Mem) x, κ  μ_10 = some x → V Y l E lvC 9 (rBu x) 27 [(0, .ref (E.1 20 g_2)), (1, .ref (E.1 20 g_3))] [] μ_10) : ∀ (n : Nat) (a2_4 : Int32) (μ_5 : Mem) {x}, f_X4_turnAxes_L7 κ g_2 g_3 n a2_4 μ_5 = some x → V Y l E lvC 9 (rBu x) 7 [(0, .ref (E.1 20 g_2)), (1, .ref (E.1 20 g_3)), (2, .int a2_4)] [] μ_5 := by
  intro n
  induction n with
  | zero =>
    intro a2_4 μ_5 x h
    simp [f_X4_turnAxes_L7] at h
  | succ n ih =>
    intro a2_4 μ_5 x h
    rw [f_X4_turnAxes_L7] at h
    refine V_iload_n C 2 dX4_turnAxes_7 rfl 2 rfl ?_
    refine V_if_lt C (tgt := 27) dX4_turnAxes_8 (by decide) (fun hc => ?_) (fun hc => ?_)
    · replace h := (if_pos hc).symm.trans h
      refine V_sub (LP := [(0, .ref (E.1 20 g_2)), (1, .ref (E.1 20 g_3))]) [0, 1] rfl ?_
      exact hκ _ _ h
    · replace h := (if_neg hc).symm.trans h
      refine V_aload_n C 1 dX4_turnAxes_11 rfl 1 rfl ?_
      refine V_aload_n C 0 dX4_turnAxes_12 rfl 0 rfl ?_
      refine V_getf (v := .ref (E.1 21 g_2)) C 20 g_2 (gr_0in g_2 hg_2) fl_RX4_66 rfl rfl dX4_turnAxes_13 ?_
      refine V_iload_n C 2 dX4_turnAxes_16 rfl 2 rfl ?_
      obtain ⟨hi9, h⟩ := gd_inv h
      refine V_iald C 21 g_2 (gr_1in g_2 hg_2) (fun _ => rfl) (inb_in hi9) dX4_turnAxes_17 ?_
      rcases bB_inv h with ⟨e_8, μ_7, hv, h⟩ | ⟨u_6, μ_7, hv, h⟩
      · cases h; exact V_callVe C 20 g_3 (gr_0in g_3 hg_3) e_8 (con_X1_addAxis hl g_3 (μ_5 21 g_2 (a2_4).toNatClampNeg) hg_3 hv) tb_X1_addAxis lk_RX4_24 rfl rfl rfl (by decide) (by decide) rfl (Nat.le_of_ble_eq_true rfl) rfl dX4_turnAxes_18 rfl
      refine V_callVo C 20 g_3 (gr_0in g_3 hg_3) none (con_X1_addAxis hl g_3 (μ_5 21 g_2 (a2_4).toNatClampNeg) hg_3 hv) tb_X1_addAxis lk_RX4_24 rfl rfl rfl (by decide) (by decide) rfl (Nat.le_of_ble_eq_true rfl) rfl dX4_turnAxes_18 rfl ?_
      clear hv
      obtain ⟨x_9, hn9⟩ : ∃ z : Int32, z = a2_4 + (-1 : Int32) := ⟨_, rfl⟩
      replace h := lt_eq hn9 h
      refine V_iinc (L' := [(0, .ref (E.1 20 g_2)), (1, .ref (E.1 20 g_3)), (2, .int x_9)]) C x_9 dX4_turnAxes_21 2 rfl (by rw [hn9]; exact congrArg (a2_4 + ·) (by decide)) (by decide) [1, 2, 0] rfl ?_
      clear hn9
      refine V_goto C (tgt := 7) dX4_turnAxes_24 (by decide) ?_
      refine V_sub (LP := [(0, .ref (E.1 20 g_2)), (1, .ref (E.1 20 g_3)), (2, .int x_9)]) [0, 1, 2] rfl ?_
      exact ih _ _ h
set_option maxHeartbeats 4000000 in
set_option maxRecDepth 100000 in
theorem lp_X4_turnAxes_101 {Y : Mc} {l : Launch} {E : WE} (hl : l.stackTraces = false) (C : Ok Y l E lvC 9 RX4 cX4_turnAxes none 1) {κ : Int32 → Mem → Option (Except Nat Unit × Mem)} (g_34 : Nat) (g_35 : Nat) (c2_36 : Int32) (c3_37 : Int32) (c4_38 : Int32) (c6_40 : Int32) (c7_41 : Int32) (hg_34 : g_34 < 18) (hg_35 : g_35 < 18) (hκ : ∀ (a5_47 : Int32) (μ_48 : Mem) x, κ a5_47 μ_48 = some x → V Y l E lvC 9 (rBu x) 141 [(0, .ref (E.1 20 g_34)), (1, .ref (E.1 20 g_35)), (2, .int c2_36), (3, .int c3_37), (4, .int c4_38), (5, .int a5_47), (6, .int c6_40), (7, .int c7_41)] [] μ_48) : ∀ (n : Nat) (a5_39 : Int32) (a8_42 : Int32) (μ_43 : Mem) {x}, f_X4_turnAxes_L101 κ g_34 g_35 c2_36 c3_37 c4_38 c6_40 c7_41 n a5_39 a8_42 μ_43 = some x → V Y l E lvC 9 (rBu x) 101 [(0, .ref (E.1 20 g_34)), (1, .ref (E.1 20 g_35)), (2, .int c2_36), (3, .int c3_37), (4, .int c4_38), (5, .int a5_39), (6, .int c6_40), (7, .int c7_41), (8, .int a8_42)] [] μ_43 := by
  intro n
  induction n with
  | zero =>
    intro a5_39 a8_42 μ_43 x h
    simp [f_X4_turnAxes_L101] at h
  | succ n ih =>
    intro a5_39 a8_42 μ_43 x h
    rw [f_X4_turnAxes_L101] at h
    refine V_iload C dX4_turnAxes_101 8 rfl ?_
    refine V_iload_n C 2 dX4_turnAxes_103 rfl 2 rfl ?_
    refine V_icmp_ge C (tgt := 141) dX4_turnAxes_104 (by decide) (fun hc => ?_) (fun hc => ?_)
    · replace h := (if_pos hc).symm.trans h
      refine V_sub (LP := [(0, .ref (E.1 20 g_34)), (1, .ref (E.1 20 g_35)), (2, .int c2_36), (3, .int c3_37), (4, .int c4_38), (5, .int a5_39), (6, .int c6_40), (7, .int c7_41)]) [0, 1, 2, 3, 4, 5, 6, 7] rfl ?_
      exact hκ _ _ _ h
    · replace h := (if_neg hc).symm.trans h
      refine V_aload_n C 1 dX4_turnAxes_107 rfl 1 rfl ?_
      refine V_getf (v := .ref (E.1 22 g_35)) C 20 g_35 (gr_0in g_35 hg_35) fl_RX4_28 rfl rfl dX4_turnAxes_108 ?_
      refine V_iload C dX4_turnAxes_111 5 rfl ?_
      refine V_aload_n C 0 dX4_turnAxes_113 rfl 0 rfl ?_
      refine V_getf (v := .ref (E.1 22 g_34)) C 20 g_34 (gr_0in g_34 hg_34) fl_RX4_28 rfl rfl dX4_turnAxes_114 ?_
      refine V_iload C dX4_turnAxes_117 8 rfl ?_
      refine V_iload_n C 3 dX4_turnAxes_119 rfl 3 rfl ?_
      refine V_imul C dX4_turnAxes_120 ?_
      refine V_iload C dX4_turnAxes_121 7 rfl ?_
      refine V_iadd C dX4_turnAxes_123 ?_
      refine V_iload C dX4_turnAxes_124 4 rfl ?_
      refine V_imul C dX4_turnAxes_126 ?_
      refine V_iload C dX4_turnAxes_127 6 rfl ?_
      refine V_iadd C dX4_turnAxes_129 ?_
      obtain ⟨hi9, h⟩ := gd_inv h
      refine V_iald C 22 g_34 (gr_2in g_34 hg_34) (fun _ => rfl) (inb_in hi9) dX4_turnAxes_130 ?_
      obtain ⟨hi9, h⟩ := gd_inv h
      refine V_iast C 22 g_35 (gr_2in g_35 hg_35) (fun _ => rfl) (inb_in hi9) dX4_turnAxes_131 ?_
      refine V_memn (fun μ_44 hn9 => ?_)
      replace h := lt_eq hn9 h; clear hn9
      obtain ⟨x_45, hn9⟩ : ∃ z : Int32, z = a5_39 + (1 : Int32) := ⟨_, rfl⟩
      replace h := lt_eq hn9 h
      refine V_iinc (L' := [(0, .ref (E.1 20 g_34)), (1, .ref (E.1 20 g_35)), (2, .int c2_36), (3, .int c3_37), (4, .int c4_38), (5, .int x_45), (6, .int c6_40), (7, .int c7_41), (8, .int a8_42)]) C x_45 dX4_turnAxes_132 5 rfl (by rw [hn9]; exact congrArg (a5_39 + ·) (by decide)) (by decide) [1, 2, 3, 4, 5, 0, 6, 7, 8] rfl ?_
      clear hn9
      obtain ⟨x_46, hn9⟩ : ∃ z : Int32, z = a8_42 + (1 : Int32) := ⟨_, rfl⟩
      replace h := lt_eq hn9 h
      refine V_iinc (L' := [(0, .ref (E.1 20 g_34)), (1, .ref (E.1 20 g_35)), (2, .int c2_36), (3, .int c3_37), (4, .int c4_38), (5, .int x_45), (6, .int c6_40), (7, .int c7_41), (8, .int x_46)]) C x_46 dX4_turnAxes_135 8 rfl (by rw [hn9]; exact congrArg (a8_42 + ·) (by decide)) (by decide) [1, 2, 3, 4, 5, 6, 7, 8, 0] rfl ?_
      clear hn9
      refine V_goto C (tgt := 101) dX4_turnAxes_138 (by decide) ?_
      refine V_sub (LP := [(0, .ref (E.1 20 g_34)), (1, .ref (E.1 20 g_35)), (2, .int c2_36), (3, .int c3_37), (4, .int c4_38), (5, .int x_45), (6, .int c6_40), (7, .int c7_41), (8, .int x_46)]) [0, 1, 2, 3, 4, 5, 6, 7, 8] rfl ?_
      exact ih _ _ _ h
set_option maxHeartbeats 4000000 in
set_option maxRecDepth 100000 in
theorem lp_X4_turnAxes_92 {Y : Mc} {l : Launch} {E : WE} (hl : l.stackTraces = false) (C : Ok Y l E lvC 9 RX4 cX4_turnAxes none 1) {κ : Int32 → Mem → Option (Except Nat Unit × Mem)} (g_25 : Nat) (g_26 : Nat) (c2_27 : Int32) (c3_28 : Int32) (c4_29 : Int32) (c6_31 : Int32) (hg_25 : g_25 < 18) (hg_26 : g_26 < 18) (hκ : ∀ (a5_52 : Int32) (μ_53 : Mem) x, κ a5_52 μ_53 = some x → V Y l E lvC 9 (rBu x) 147 [(0, .ref (E.1 20 g_25)), (1, .ref (E.1 20 g_26)), (2, .int c2_27), (3, .int c3_28), (4, .int c4_29), (5, .int a5_52), (6, .int c6_31)] [] μ_53) : ∀ (n : Nat) (a5_30 : Int32) (a7_32 : Int32) (μ_33 : Mem) {x}, f_X4_turnAxes_L92 κ g_25 g_26 c2_27 c3_28 c4_29 c6_31 n a5_30 a7_32 μ_33 = some x → V Y l E lvC 9 (rBu x) 92 [(0, .ref (E.1 20 g_25)), (1, .ref (E.1 20 g_26)), (2, .int c2_27), (3, .int c3_28), (4, .int c4_29), (5, .int a5_30), (6, .int c6_31), (7, .int a7_32)] [] μ_33 := by
  intro n
  induction n with
  | zero =>
    intro a5_30 a7_32 μ_33 x h
    simp [f_X4_turnAxes_L92] at h
  | succ n ih =>
    intro a5_30 a7_32 μ_33 x h
    rw [f_X4_turnAxes_L92] at h
    refine V_iload C dX4_turnAxes_92 7 rfl ?_
    refine V_iload_n C 3 dX4_turnAxes_94 rfl 3 rfl ?_
    refine V_icmp_ge C (tgt := 147) dX4_turnAxes_95 (by decide) (fun hc => ?_) (fun hc => ?_)
    · replace h := (if_pos hc).symm.trans h
      refine V_sub (LP := [(0, .ref (E.1 20 g_25)), (1, .ref (E.1 20 g_26)), (2, .int c2_27), (3, .int c3_28), (4, .int c4_29), (5, .int a5_30), (6, .int c6_31)]) [0, 1, 2, 3, 4, 5, 6] rfl ?_
      exact hκ _ _ _ h
    · replace h := (if_neg hc).symm.trans h
      refine V_iconst C (0 : Int32) dX4_turnAxes_98 (by decide) ?_
      refine V_istore (L' := [(0, .ref (E.1 20 g_25)), (1, .ref (E.1 20 g_26)), (2, .int c2_27), (3, .int c3_28), (4, .int c4_29), (5, .int a5_30), (6, .int c6_31), (7, .int a7_32), (8, .int (0 : Int32))]) C dX4_turnAxes_99 (by decide) [1, 2, 3, 4, 5, 6, 7, 8, 0] rfl ?_
      refine V_sub (LP := [(0, .ref (E.1 20 g_25)), (1, .ref (E.1 20 g_26)), (2, .int c2_27), (3, .int c3_28), (4, .int c4_29), (5, .int a5_30), (6, .int c6_31), (7, .int a7_32), (8, .int (0 : Int32))]) [0, 1, 2, 3, 4, 5, 6, 7, 8] rfl ?_
      refine lp_X4_turnAxes_101 hl C g_25 g_26 c2_27 c3_28 c4_29 c6_31 a7_32 hg_25 hg_26 (fun a5_49 μ_50 x h => ?_) 1000 _ _ _ h
      obtain ⟨x_51, hn9⟩ : ∃ z : Int32, z = a7_32 + (1 : Int32) := ⟨_, rfl⟩
      replace h := lt_eq hn9 h
      refine V_iinc (L' := [(0, .ref (E.1 20 g_25)), (1, .ref (E.1 20 g_26)), (2, .int c2_27), (3, .int c3_28), (4, .int c4_29), (5, .int a5_49), (6, .int c6_31), (7, .int x_51)]) C x_51 dX4_turnAxes_141 7 rfl (by rw [hn9]; exact congrArg (a7_32 + ·) (by decide)) (by decide) [1, 2, 3, 4, 5, 6, 7, 0] rfl ?_
      clear hn9
      refine V_goto C (tgt := 92) dX4_turnAxes_144 (by decide) ?_
      refine V_sub (LP := [(0, .ref (E.1 20 g_25)), (1, .ref (E.1 20 g_26)), (2, .int c2_27), (3, .int c3_28), (4, .int c4_29), (5, .int a5_49), (6, .int c6_31), (7, .int x_51)]) [0, 1, 2, 3, 4, 5, 6, 7] rfl ?_
      exact ih _ _ _ h
set_option maxHeartbeats 4000000 in
set_option maxRecDepth 100000 in
theorem lp_X4_turnAxes_82 {Y : Mc} {l : Launch} {E : WE} (hl : l.stackTraces = false) (C : Ok Y l E lvC 9 RX4 cX4_turnAxes none 1) {κ : Mem → Option (Except Nat Unit × Mem)} (g_17 : Nat) (g_18 : Nat) (c2_19 : Int32) (c3_20 : Int32) (c4_21 : Int32) (hg_17 : g_17 < 18) (hg_18 : g_18 < 18) (hκ : ∀  (μ_57 : Mem) x, κ  μ_57 = some x → V Y l E lvC 9 (rBu x) 153 [] [] μ_57) : ∀ (n : Nat) (a5_22 : Int32) (a6_23 : Int32) (μ_24 : Mem) {x}, f_X4_turnAxes_L82 κ g_17 g_18 c2_19 c3_20 c4_21 n a5_22 a6_23 μ_24 = some x → V Y l E lvC 9 (rBu x) 82 [(0, .ref (E.1 20 g_17)), (1, .ref (E.1 20 g_18)), (2, .int c2_19), (3, .int c3_20), (4, .int c4_21), (5, .int a5_22), (6, .int a6_23)] [] μ_24 := by
  intro n
  induction n with
  | zero =>
    intro a5_22 a6_23 μ_24 x h
    simp [f_X4_turnAxes_L82] at h
  | succ n ih =>
    intro a5_22 a6_23 μ_24 x h
    rw [f_X4_turnAxes_L82] at h
    refine V_iload C dX4_turnAxes_82 6 rfl ?_
    refine V_iload C dX4_turnAxes_84 4 rfl ?_
    refine V_icmp_ge C (tgt := 153) dX4_turnAxes_86 (by decide) (fun hc => ?_) (fun hc => ?_)
    · replace h := (if_pos hc).symm.trans h
      refine V_sub (LP := []) [] rfl ?_
      exact hκ _ _ h
    · replace h := (if_neg hc).symm.trans h
      refine V_iconst C (0 : Int32) dX4_turnAxes_89 (by decide) ?_
      refine V_istore (L' := [(0, .ref (E.1 20 g_17)), (1, .ref (E.1 20 g_18)), (2, .int c2_19), (3, .int c3_20), (4, .int c4_21), (5, .int a5_22), (6, .int a6_23), (7, .int (0 : Int32))]) C dX4_turnAxes_90 (by decide) [1, 2, 3, 4, 5, 6, 7, 0] rfl ?_
      refine V_sub (LP := [(0, .ref (E.1 20 g_17)), (1, .ref (E.1 20 g_18)), (2, .int c2_19), (3, .int c3_20), (4, .int c4_21), (5, .int a5_22), (6, .int a6_23), (7, .int (0 : Int32))]) [0, 1, 2, 3, 4, 5, 6, 7] rfl ?_
      refine lp_X4_turnAxes_92 hl C g_17 g_18 c2_19 c3_20 c4_21 a6_23 hg_17 hg_18 (fun a5_54 μ_55 x h => ?_) 1000 _ _ _ h
      obtain ⟨x_56, hn9⟩ : ∃ z : Int32, z = a6_23 + (1 : Int32) := ⟨_, rfl⟩
      replace h := lt_eq hn9 h
      refine V_iinc (L' := [(0, .ref (E.1 20 g_17)), (1, .ref (E.1 20 g_18)), (2, .int c2_19), (3, .int c3_20), (4, .int c4_21), (5, .int a5_54), (6, .int x_56)]) C x_56 dX4_turnAxes_147 6 rfl (by rw [hn9]; exact congrArg (a6_23 + ·) (by decide)) (by decide) [1, 2, 3, 4, 5, 6, 0] rfl ?_
      clear hn9
      refine V_goto C (tgt := 82) dX4_turnAxes_150 (by decide) ?_
      refine V_sub (LP := [(0, .ref (E.1 20 g_17)), (1, .ref (E.1 20 g_18)), (2, .int c2_19), (3, .int c3_20), (4, .int c4_21), (5, .int a5_54), (6, .int x_56)]) [0, 1, 2, 3, 4, 5, 6] rfl ?_
      exact ih _ _ _ h
set_option maxHeartbeats 4000000 in
set_option maxRecDepth 100000 in
theorem con_X4_turnAxes {l : Launch} {E : WE} (hl : l.stackTraces = false) (g0 : Nat) (g1 : Nat) (hg0 : g0 < 18) (hg1 : g1 < 18) {μ : Mem} {x} (h : f_X4_turnAxes g0 g1 μ = some x) : Con l E lvC yX4_turnAxes cX4_turnAxes 9 none 1 [.ref (E.1 20 g0), .ref (E.1 20 g1)] μ (rBu x) := by
  refine Con.of (by decide) hl (Nat.le_of_ble_eq_true rfl) (fun Y C => ?_)
  replace C : Ok Y l E lvC 9 RX4 cX4_turnAxes none 1 := C
  show V Y l E lvC 9 (rBu x) 0 [(0, .ref (E.1 20 g0)), (1, .ref (E.1 20 g1))] [] μ
  unfold f_X4_turnAxes at h
  refine V_aload_n C 0 dX4_turnAxes_0 rfl 0 rfl ?_
  refine V_getf (v := .int (μ 20 g0 2)) C 20 g0 (gr_0in g0 hg0) fl_RX4_54 rfl rfl dX4_turnAxes_1 ?_
  refine V_iconst C (1 : Int32) dX4_turnAxes_4 (by decide) ?_
  refine V_isub C dX4_turnAxes_5 ?_
  refine V_topi (fun x_1 hn9 => ?_)
  replace h := lt_eq hn9 h; clear hn9
  refine V_istore_n (L' := [(0, .ref (E.1 20 g0)), (1, .ref (E.1 20 g1)), (2, .int x_1)]) C 2 dX4_turnAxes_6 rfl (by decide) [1, 2, 0] rfl ?_
  refine V_sub (LP := [(0, .ref (E.1 20 g0)), (1, .ref (E.1 20 g1)), (2, .int x_1)]) [0, 1, 2] rfl ?_
  refine lp_X4_turnAxes_7 hl C g0 g1 hg0 hg1 (fun μ_11 x h => ?_) 1000 _ _ h
  refine V_aload_n C 0 dX4_turnAxes_27 rfl 0 rfl ?_
  refine V_getf (v := .int (μ_11 20 g0 2)) C 20 g0 (gr_0in g0 hg0) fl_RX4_54 rfl rfl dX4_turnAxes_28 ?_
  refine V_iconst C (3 : Int32) dX4_turnAxes_31 (by decide) ?_
  obtain ⟨j_13, hj_13, h⟩ := jn_ex h
  have J_13 : ∀ (s_12 : Int32) x, j_13 s_12 = some x → V Y l E lvC 9 (rBu x) 45 [(0, .ref (E.1 20 g0)), (1, .ref (E.1 20 g1))] [.int s_12] μ_11 := by
    intro s_12  x h
    rw [hj_13] at h; clear hj_13
    refine V_istore_n (L' := [(0, .ref (E.1 20 g0)), (1, .ref (E.1 20 g1)), (2, .int s_12)]) C 2 dX4_turnAxes_45 rfl (by decide) [1, 2, 0] rfl ?_
    refine V_aload_n C 0 dX4_turnAxes_46 rfl 0 rfl ?_
    refine V_getf (v := .int (μ_11 20 g0 2)) C 20 g0 (gr_0in g0 hg0) fl_RX4_54 rfl rfl dX4_turnAxes_47 ?_
    refine V_iconst C (2 : Int32) dX4_turnAxes_50 (by decide) ?_
    obtain ⟨j_15, hj_15, h⟩ := jn_ex h
    have J_15 : ∀ (s_14 : Int32) x, j_15 s_14 = some x → V Y l E lvC 9 (rBu x) 69 [(0, .ref (E.1 20 g0)), (1, .ref (E.1 20 g1)), (2, .int s_12)] [.int s_14] μ_11 := by
      intro s_14  x h
      rw [hj_15] at h; clear hj_15
      refine V_istore_n (L' := [(0, .ref (E.1 20 g0)), (1, .ref (E.1 20 g1)), (2, .int s_12), (3, .int s_14)]) C 3 dX4_turnAxes_69 rfl (by decide) [1, 2, 3, 0] rfl ?_
      refine V_aload_n C 0 dX4_turnAxes_70 rfl 0 rfl ?_
      obtain ⟨v_16, hv, h⟩ := bP_inv h
      refine V_callVo C 20 g0 (gr_0in g0 hg0) (some (.int v_16)) (con_X1_rowLength hl g0 hg0 hv) tb_X1_rowLength lk_RX4_69 rfl rfl rfl (by decide) (by decide) rfl (Nat.le_of_ble_eq_true rfl) rfl dX4_turnAxes_71 rfl ?_
      clear hv
      refine V_istore (L' := [(0, .ref (E.1 20 g0)), (1, .ref (E.1 20 g1)), (2, .int s_12), (3, .int s_14), (4, .int v_16)]) C dX4_turnAxes_74 (by decide) [1, 2, 3, 4, 0] rfl ?_
      refine V_iconst C (0 : Int32) dX4_turnAxes_76 (by decide) ?_
      refine V_istore (L' := [(0, .ref (E.1 20 g0)), (1, .ref (E.1 20 g1)), (2, .int s_12), (3, .int s_14), (4, .int v_16), (5, .int (0 : Int32))]) C dX4_turnAxes_77 (by decide) [1, 2, 3, 4, 5, 0] rfl ?_
      refine V_iconst C (0 : Int32) dX4_turnAxes_79 (by decide) ?_
      refine V_istore (L' := [(0, .ref (E.1 20 g0)), (1, .ref (E.1 20 g1)), (2, .int s_12), (3, .int s_14), (4, .int v_16), (5, .int (0 : Int32)), (6, .int (0 : Int32))]) C dX4_turnAxes_80 (by decide) [1, 2, 3, 4, 5, 6, 0] rfl ?_
      refine V_sub (LP := [(0, .ref (E.1 20 g0)), (1, .ref (E.1 20 g1)), (2, .int s_12), (3, .int s_14), (4, .int v_16), (5, .int (0 : Int32)), (6, .int (0 : Int32))]) [0, 1, 2, 3, 4, 5, 6] rfl ?_
      refine lp_X4_turnAxes_82 hl C g0 g1 s_12 s_14 v_16 hg0 hg1 (fun μ_58 x h => ?_) 1000 _ _ _ h
      cases h
      exact V_return C rfl rfl dX4_turnAxes_153
    clear hj_15
    refine V_icmp_ge C (tgt := 58) dX4_turnAxes_51 (by decide) (fun hc => ?_) (fun hc => ?_)
    · replace h := (if_pos hc).symm.trans h
      refine V_aload_n C 0 dX4_turnAxes_58 rfl 0 rfl ?_
      refine V_getf (v := .ref (E.1 21 g0)) C 20 g0 (gr_0in g0 hg0) fl_RX4_66 rfl rfl dX4_turnAxes_59 ?_
      refine V_aload_n C 0 dX4_turnAxes_62 rfl 0 rfl ?_
      refine V_getf (v := .int (μ_11 20 g0 2)) C 20 g0 (gr_0in g0 hg0) fl_RX4_54 rfl rfl dX4_turnAxes_63 ?_
      refine V_iconst C (2 : Int32) dX4_turnAxes_66 (by decide) ?_
      refine V_isub C dX4_turnAxes_67 ?_
      obtain ⟨hi9, h⟩ := gd_inv h
      refine V_iald C 21 g0 (gr_1in g0 hg0) (fun _ => rfl) (inb_in hi9) dX4_turnAxes_68 ?_
      refine V_sub (LP := [(0, .ref (E.1 20 g0)), (1, .ref (E.1 20 g1)), (2, .int s_12)]) [0, 1, 2] rfl ?_
      exact J_15 _ _ h
    · replace h := (if_neg hc).symm.trans h
      refine V_iconst C (1 : Int32) dX4_turnAxes_54 (by decide) ?_
      refine V_goto C (tgt := 69) dX4_turnAxes_55 (by decide) ?_
      refine V_sub (LP := [(0, .ref (E.1 20 g0)), (1, .ref (E.1 20 g1)), (2, .int s_12)]) [0, 1, 2] rfl ?_
      exact J_15 _ _ h
  clear hj_13
  refine V_icmp_ge C (tgt := 39) dX4_turnAxes_32 (by decide) (fun hc => ?_) (fun hc => ?_)
  · replace h := (if_pos hc).symm.trans h
    refine V_aload_n C 0 dX4_turnAxes_39 rfl 0 rfl ?_
    refine V_getf (v := .ref (E.1 21 g0)) C 20 g0 (gr_0in g0 hg0) fl_RX4_66 rfl rfl dX4_turnAxes_40 ?_
    refine V_iconst C (0 : Int32) dX4_turnAxes_43 (by decide) ?_
    obtain ⟨hi9, h⟩ := gd_inv h
    refine V_iald C 21 g0 (gr_1in g0 hg0) (fun _ => rfl) (inb_in hi9) dX4_turnAxes_44 ?_
    refine V_sub (LP := [(0, .ref (E.1 20 g0)), (1, .ref (E.1 20 g1))]) [0, 1] rfl ?_
    exact J_13 _ _ h
  · replace h := (if_neg hc).symm.trans h
    refine V_iconst C (1 : Int32) dX4_turnAxes_35 (by decide) ?_
    refine V_goto C (tgt := 45) dX4_turnAxes_36 (by decide) ?_
    refine V_sub (LP := [(0, .ref (E.1 20 g0)), (1, .ref (E.1 20 g1))]) [0, 1] rfl ?_
    exact J_13 _ _ h
set_option maxHeartbeats 4000000 in
set_option maxRecDepth 100000 in
theorem lp_X4_turnRows_15 {Y : Mc} {l : Launch} {E : WE} (hl : l.stackTraces = false) (C : Ok Y l E lvC 5 RX4 cX4_turnRows none 3) {κ : Mem → Option (Except Nat Unit × Mem)} (g_5 : Nat) (g_6 : Nat) (c2_7 : Int32) (hg_5 : g_5 < 18) (hg_6 : g_6 < 18) (hκ : ∀  (μ_15 : Mem) x, κ  μ_15 = some x → V Y l E lvC 5 (rBu x) 63 [] [] μ_15) : ∀ (n : Nat) (a3_8 : Int32) (a4_9 : Int32) (μ_10 : Mem) {x}, f_X4_turnRows_L15 κ g_5 g_6 c2_7 n a3_8 a4_9 μ_10 = some x → V Y l E lvC 5 (rBu x) 15 [(0, .ref (E.1 20 g_5)), (1, .ref (E.1 20 g_6)), (2, .int c2_7), (3, .int a3_8), (4, .int a4_9)] [] μ_10 := by
  intro n
  induction n with
  | zero =>
    intro a3_8 a4_9 μ_10 x h
    simp [f_X4_turnRows_L15] at h
  | succ n ih =>
    intro a3_8 a4_9 μ_10 x h
    rw [f_X4_turnRows_L15] at h
    refine V_iload C dX4_turnRows_15 4 rfl ?_
    refine V_aload_n C 1 dX4_turnRows_17 rfl 1 rfl ?_
    refine V_getf (v := .int (μ_10 20 g_6 3)) C 20 g_6 (gr_0in g_6 hg_6) fl_RX4_18 rfl rfl dX4_turnRows_18 ?_
    refine V_icmp_ge C (tgt := 63) dX4_turnRows_21 (by decide) (fun hc => ?_) (fun hc => ?_)
    · replace h := (if_pos hc).symm.trans h
      refine V_sub (LP := []) [] rfl ?_
      exact hκ _ _ h
    · replace h := (if_neg hc).symm.trans h
      refine V_iload C dX4_turnRows_24 4 rfl ?_
      refine V_iload_n C 3 dX4_turnRows_26 rfl 3 rfl ?_
      refine V_iload_n C 2 dX4_turnRows_27 rfl 2 rfl ?_
      refine V_iadd C dX4_turnRows_28 ?_
      obtain ⟨j_12, hj_12, h⟩ := jn_ex h
      have J_12 : ∀ (a3_11 : Int32) x, j_12 a3_11 = some x → V Y l E lvC 5 (rBu x) 35 [(0, .ref (E.1 20 g_5)), (1, .ref (E.1 20 g_6)), (2, .int c2_7), (3, .int a3_11), (4, .int a4_9)] [] μ_10 := by
        intro a3_11  x h
        rw [hj_12] at h; clear hj_12
        refine V_aload_n C 1 dX4_turnRows_35 rfl 1 rfl ?_
        refine V_getf (v := .ref (E.1 22 g_6)) C 20 g_6 (gr_0in g_6 hg_6) fl_RX4_28 rfl rfl dX4_turnRows_36 ?_
        refine V_iload C dX4_turnRows_39 4 rfl ?_
        refine V_aload_n C 0 dX4_turnRows_41 rfl 0 rfl ?_
        refine V_getf (v := .ref (E.1 22 g_5)) C 20 g_5 (gr_0in g_5 hg_5) fl_RX4_28 rfl rfl dX4_turnRows_42 ?_
        refine V_iload_n C 3 dX4_turnRows_45 rfl 3 rfl ?_
        refine V_iload_n C 2 dX4_turnRows_46 rfl 2 rfl ?_
        refine V_iadd C dX4_turnRows_47 ?_
        refine V_iconst C (1 : Int32) dX4_turnRows_48 (by decide) ?_
        refine V_isub C dX4_turnRows_49 ?_
        refine V_iload C dX4_turnRows_50 4 rfl ?_
        refine V_iload_n C 3 dX4_turnRows_52 rfl 3 rfl ?_
        refine V_isub C dX4_turnRows_53 ?_
        refine V_isub C dX4_turnRows_54 ?_
        obtain ⟨hi9, h⟩ := gd_inv h
        refine V_iald C 22 g_5 (gr_2in g_5 hg_5) (fun _ => rfl) (inb_in hi9) dX4_turnRows_55 ?_
        obtain ⟨hi9, h⟩ := gd_inv h
        refine V_iast C 22 g_6 (gr_2in g_6 hg_6) (fun _ => rfl) (inb_in hi9) dX4_turnRows_56 ?_
        refine V_memn (fun μ_13 hn9 => ?_)
        replace h := lt_eq hn9 h; clear hn9
        obtain ⟨x_14, hn9⟩ : ∃ z : Int32, z = a4_9 + (1 : Int32) := ⟨_, rfl⟩
        replace h := lt_eq hn9 h
        refine V_iinc (L' := [(0, .ref (E.1 20 g_5)), (1, .ref (E.1 20 g_6)), (2, .int c2_7), (3, .int a3_11), (4, .int x_14)]) C x_14 dX4_turnRows_57 4 rfl (by rw [hn9]; exact congrArg (a4_9 + ·) (by decide)) (by decide) [1, 2, 3, 4, 0] rfl ?_
        clear hn9
        refine V_goto C (tgt := 15) dX4_turnRows_60 (by decide) ?_
        refine V_sub (LP := [(0, .ref (E.1 20 g_5)), (1, .ref (E.1 20 g_6)), (2, .int c2_7), (3, .int a3_11), (4, .int x_14)]) [0, 1, 2, 3, 4] rfl ?_
        exact ih _ _ _ h
      clear hj_12
      refine V_icmp_ne C (tgt := 35) dX4_turnRows_29 (by decide) (fun hc => ?_) (fun hc => ?_)
      · replace h := (if_neg hc).symm.trans h
        refine V_sub (LP := [(0, .ref (E.1 20 g_5)), (1, .ref (E.1 20 g_6)), (2, .int c2_7), (3, .int a3_8), (4, .int a4_9)]) [0, 1, 2, 3, 4] rfl ?_
        exact J_12 _ _ h
      · replace h := (if_pos hc).symm.trans h
        refine V_iload C dX4_turnRows_32 4 rfl ?_
        refine V_istore_n (L' := [(0, .ref (E.1 20 g_5)), (1, .ref (E.1 20 g_6)), (2, .int c2_7), (3, .int a4_9), (4, .int a4_9)]) C 3 dX4_turnRows_34 rfl (by decide) [1, 2, 3, 0, 4] rfl ?_
        refine V_sub (LP := [(0, .ref (E.1 20 g_5)), (1, .ref (E.1 20 g_6)), (2, .int c2_7), (3, .int a4_9), (4, .int a4_9)]) [0, 1, 2, 3, 4] rfl ?_
        exact J_12 _ _ h
set_option maxHeartbeats 4000000 in
set_option maxRecDepth 100000 in
theorem con_X4_turnRows {l : Launch} {E : WE} (hl : l.stackTraces = false) (g0 : Nat) (g1 : Nat) (hg0 : g0 < 18) (hg1 : g1 < 18) {μ : Mem} {x} (h : f_X4_turnRows g0 g1 μ = some x) : Con l E lvC yX4_turnRows cX4_turnRows 5 none 3 [.ref (E.1 20 g0), .ref (E.1 20 g1)] μ (rBu x) := by
  refine Con.of (by decide) hl (Nat.le_of_ble_eq_true rfl) (fun Y C => ?_)
  replace C : Ok Y l E lvC 5 RX4 cX4_turnRows none 3 := C
  show V Y l E lvC 5 (rBu x) 0 [(0, .ref (E.1 20 g0)), (1, .ref (E.1 20 g1))] [] μ
  unfold f_X4_turnRows at h
  refine V_aload_n C 0 dX4_turnRows_0 rfl 0 rfl ?_
  obtain ⟨v_1, hv, h⟩ := bP_inv h
  refine V_callVo C 20 g0 (gr_0in g0 hg0) (some (.int v_1)) (con_X1_rowLength hl g0 hg0 hv) tb_X1_rowLength lk_RX4_69 rfl rfl rfl (by decide) (by decide) rfl (Nat.le_of_ble_eq_true rfl) rfl dX4_turnRows_1 rfl ?_
  clear hv
  refine V_istore_n (L' := [(0, .ref (E.1 20 g0)), (1, .ref (E.1 20 g1)), (2, .int v_1)]) C 2 dX4_turnRows_4 rfl (by decide) [1, 2, 0] rfl ?_
  refine V_aload_n C 1 dX4_turnRows_5 rfl 1 rfl ?_
  refine V_aload_n C 0 dX4_turnRows_6 rfl 0 rfl ?_
  rcases bB_inv h with ⟨e_4, μ_3, hv, h⟩ | ⟨u_2, μ_3, hv, h⟩
  · cases h; exact V_callVe C 20 g1 (gr_0in g1 hg1) e_4 (con_X1_shapeLike hl g1 g0 hg1 hg0 hv) tb_X1_shapeLike lk_RX4_73 rfl rfl rfl (by decide) (by decide) rfl (Nat.le_of_ble_eq_true rfl) rfl dX4_turnRows_7 rfl
  refine V_callVo C 20 g1 (gr_0in g1 hg1) none (con_X1_shapeLike hl g1 g0 hg1 hg0 hv) tb_X1_shapeLike lk_RX4_73 rfl rfl rfl (by decide) (by decide) rfl (Nat.le_of_ble_eq_true rfl) rfl dX4_turnRows_7 rfl ?_
  clear hv
  refine V_iconst C (0 : Int32) dX4_turnRows_10 (by decide) ?_
  refine V_istore_n (L' := [(0, .ref (E.1 20 g0)), (1, .ref (E.1 20 g1)), (2, .int v_1), (3, .int (0 : Int32))]) C 3 dX4_turnRows_11 rfl (by decide) [1, 2, 3, 0] rfl ?_
  refine V_iconst C (0 : Int32) dX4_turnRows_12 (by decide) ?_
  refine V_istore (L' := [(0, .ref (E.1 20 g0)), (1, .ref (E.1 20 g1)), (2, .int v_1), (3, .int (0 : Int32)), (4, .int (0 : Int32))]) C dX4_turnRows_13 (by decide) [1, 2, 3, 4, 0] rfl ?_
  refine V_sub (LP := [(0, .ref (E.1 20 g0)), (1, .ref (E.1 20 g1)), (2, .int v_1), (3, .int (0 : Int32)), (4, .int (0 : Int32))]) [0, 1, 2, 3, 4] rfl ?_
  refine lp_X4_turnRows_15 hl C g0 g1 v_1 hg0 hg1 (fun μ_16 x h => ?_) 1000 _ _ _ h
  cases h
  exact V_return C rfl rfl dX4_turnRows_63
set_option maxHeartbeats 4000000 in
set_option maxRecDepth 100000 in
theorem con_X4_ofOne {l : Launch} {E : WE} (hl : l.stackTraces = false) (a0 : Int32) (g1 : Nat) (g2 : Nat) (hg1 : g1 < 18) (hg2 : g2 < 18) {μ : Mem} {x} (h : f_X4_ofOne a0 g1 g2 μ = some x) : Con l E lvC yX4_ofOne cX4_ofOne 3 none 4 [.int a0, .ref (E.1 20 g1), .ref (E.1 20 g2)] μ (rBu x) := by
  refine Con.of (by decide) hl (Nat.le_of_ble_eq_true rfl) (fun Y C => ?_)
  replace C : Ok Y l E lvC 3 RX4 cX4_ofOne none 4 := C
  show V Y l E lvC 3 (rBu x) 0 [(0, .int a0), (1, .ref (E.1 20 g1)), (2, .ref (E.1 20 g2))] [] μ
  unfold f_X4_ofOne at h
  refine V_iload_n C 0 dX4_ofOne_0 rfl 0 rfl ?_
  by_cases hk0 : a0 = (44 : Int32)
  · replace h := (if_pos hk0).symm.trans h
    refine V_lookup C (59) 60 dX4_ofOne_1 (by decide +kernel) (by rw [hk0]; decide +kernel) (by decide) ?_
    refine V_aload_n C 2 dX4_ofOne_60 rfl 2 rfl ?_
    refine V_aload_n C 1 dX4_ofOne_61 rfl 1 rfl ?_
    refine V_getf (v := .int (μ 20 g1 3)) C 20 g1 (gr_0in g1 hg1) fl_RX4_18 rfl rfl dX4_ofOne_62 ?_
    rcases bB_inv h with ⟨e_3, μ_2, hv, h⟩ | ⟨u_1, μ_2, hv, h⟩
    · cases h; exact V_callVe C 20 g2 (gr_0in g2 hg2) e_3 (con_X1_addAxis hl g2 (μ 20 g1 3) hg2 hv) tb_X1_addAxis lk_RX4_24 rfl rfl rfl (by decide) (by decide) rfl (Nat.le_of_ble_eq_true rfl) rfl dX4_ofOne_65 rfl
    refine V_callVo C 20 g2 (gr_0in g2 hg2) none (con_X1_addAxis hl g2 (μ 20 g1 3) hg2 hv) tb_X1_addAxis lk_RX4_24 rfl rfl rfl (by decide) (by decide) rfl (Nat.le_of_ble_eq_true rfl) rfl dX4_ofOne_65 rfl ?_
    clear hv
    refine V_aload_n C 1 dX4_ofOne_68 rfl 1 rfl ?_
    refine V_getf (v := .ref (E.1 22 g1)) C 20 g1 (gr_0in g1 hg1) fl_RX4_28 rfl rfl dX4_ofOne_69 ?_
    refine V_iconst C (0 : Int32) dX4_ofOne_72 (by decide) ?_
    refine V_aload_n C 2 dX4_ofOne_73 rfl 2 rfl ?_
    refine V_getf (v := .ref (E.1 22 g2)) C 20 g2 (gr_0in g2 hg2) fl_RX4_28 rfl rfl dX4_ofOne_74 ?_
    refine V_iconst C (0 : Int32) dX4_ofOne_77 (by decide) ?_
    refine V_aload_n C 1 dX4_ofOne_78 rfl 1 rfl ?_
    refine V_getf (v := .int (μ_2 20 g1 3)) C 20 g1 (gr_0in g1 hg1) fl_RX4_18 rfl rfl dX4_ofOne_79 ?_
    obtain ⟨hq9, h⟩ := gd_inv h
    obtain ⟨q1, q2, q3, q4, q5⟩ := cpok_g hq9
    refine V_copyi C 22 g1 22 g2 (gr_2in g1 hg1) (gr_2in g2 hg2) (fun _ => rfl) (fun _ => rfl) lk_RX4_32 w_cp1 w_cp2 w_cp3 q1 q2 q3 q4 q5 (Nat.le_of_ble_eq_true rfl) dX4_ofOne_82 ?_
    refine V_memn (fun μ_4 hn9 => ?_)
    replace h := lt_eq hn9 h; clear hn9
    refine V_goto C (tgt := 101) dX4_ofOne_85 (by decide) ?_
    cases h
    exact V_return C rfl rfl dX4_ofOne_101
  replace h := (if_neg hk0).symm.trans h
  by_cases hk1 : a0 = (105 : Int32)
  · replace h := (if_pos hk1).symm.trans h
    refine V_lookup C (43) 44 dX4_ofOne_1 (by decide +kernel) (by rw [hk1]; decide +kernel) (by decide) ?_
    refine V_aload_n C 1 dX4_ofOne_44 rfl 1 rfl ?_
    refine V_aload_n C 2 dX4_ofOne_45 rfl 2 rfl ?_
    rcases bB_inv h with ⟨e_7, μ_6, hv, h⟩ | ⟨u_5, μ_6, hv, h⟩
    · cases h; exact V_callSe C e_7 (con_X4_upTo hl g1 g2 hg1 hg2 hv) tb_X4_upTo lk_RX4_9 (by decide) (by decide) rfl (Nat.le_of_ble_eq_true rfl) rfl dX4_ofOne_46 rfl
    refine V_callSo C none (con_X4_upTo hl g1 g2 hg1 hg2 hv) tb_X4_upTo lk_RX4_9 (by decide) (by decide) rfl (Nat.le_of_ble_eq_true rfl) rfl dX4_ofOne_46 rfl ?_
    clear hv
    refine V_goto C (tgt := 101) dX4_ofOne_49 (by decide) ?_
    cases h
    exact V_return C rfl rfl dX4_ofOne_101
  replace h := (if_neg hk1).symm.trans h
  by_cases hk2 : a0 = (114 : Int32)
  · replace h := (if_pos hk2).symm.trans h
    refine V_lookup C (51) 52 dX4_ofOne_1 (by decide +kernel) (by rw [hk2]; decide +kernel) (by decide) ?_
    refine V_aload_n C 1 dX4_ofOne_52 rfl 1 rfl ?_
    refine V_aload_n C 2 dX4_ofOne_53 rfl 2 rfl ?_
    rcases bB_inv h with ⟨e_10, μ_9, hv, h⟩ | ⟨u_8, μ_9, hv, h⟩
    · cases h; exact V_callSe C e_10 (con_X4_lengthsOf hl g1 g2 hg1 hg2 hv) tb_X4_lengthsOf lk_RX4_15 (by decide) (by decide) rfl (Nat.le_of_ble_eq_true rfl) rfl dX4_ofOne_54 rfl
    refine V_callSo C none (con_X4_lengthsOf hl g1 g2 hg1 hg2 hv) tb_X4_lengthsOf lk_RX4_15 (by decide) (by decide) rfl (Nat.le_of_ble_eq_true rfl) rfl dX4_ofOne_54 rfl ?_
    clear hv
    refine V_goto C (tgt := 101) dX4_ofOne_57 (by decide) ?_
    cases h
    exact V_return C rfl rfl dX4_ofOne_101
  replace h := (if_neg hk2).symm.trans h
  by_cases hk3 : a0 = (116 : Int32)
  · replace h := (if_pos hk3).symm.trans h
    refine V_lookup C (87) 88 dX4_ofOne_1 (by decide +kernel) (by rw [hk3]; decide +kernel) (by decide) ?_
    refine V_aload_n C 1 dX4_ofOne_88 rfl 1 rfl ?_
    refine V_aload_n C 2 dX4_ofOne_89 rfl 2 rfl ?_
    rcases bB_inv h with ⟨e_13, μ_12, hv, h⟩ | ⟨u_11, μ_12, hv, h⟩
    · cases h; exact V_callSe C e_13 (con_X4_turnAxes hl g1 g2 hg1 hg2 hv) tb_X4_turnAxes lk_RX4_38 (by decide) (by decide) rfl (Nat.le_of_ble_eq_true rfl) rfl dX4_ofOne_90 rfl
    refine V_callSo C none (con_X4_turnAxes hl g1 g2 hg1 hg2 hv) tb_X4_turnAxes lk_RX4_38 (by decide) (by decide) rfl (Nat.le_of_ble_eq_true rfl) rfl dX4_ofOne_90 rfl ?_
    clear hv
    refine V_goto C (tgt := 101) dX4_ofOne_93 (by decide) ?_
    cases h
    exact V_return C rfl rfl dX4_ofOne_101
  replace h := (if_neg hk3).symm.trans h
  refine V_lookup C (95) 96 dX4_ofOne_1 (by decide +kernel) ((lv_osw hk0 (by decide +kernel)).trans ((lv_osw hk1 (by decide +kernel)).trans ((lv_osw hk2 (by decide +kernel)).trans ((lv_osw hk3 (by decide +kernel)).trans rfl)))) (by decide) ?_
  refine V_aload_n C 1 dX4_ofOne_96 rfl 1 rfl ?_
  refine V_aload_n C 2 dX4_ofOne_97 rfl 2 rfl ?_
  rcases bB_inv h with ⟨e_16, μ_15, hv, h⟩ | ⟨u_14, μ_15, hv, h⟩
  · cases h; exact V_callSe C e_16 (con_X4_turnRows hl g1 g2 hg1 hg2 hv) tb_X4_turnRows lk_RX4_41 (by decide) (by decide) rfl (Nat.le_of_ble_eq_true rfl) rfl dX4_ofOne_98 rfl
  refine V_callSo C none (con_X4_turnRows hl g1 g2 hg1 hg2 hv) tb_X4_turnRows lk_RX4_41 (by decide) (by decide) rfl (Nat.le_of_ble_eq_true rfl) rfl dX4_ofOne_98 rfl ?_
  clear hv
  cases h
  exact V_return C rfl rfl dX4_ofOne_101
set_option maxHeartbeats 4000000 in
set_option maxRecDepth 100000 in
theorem con_X3_workAlone {l : Launch} {E : WE} (hl : l.stackTraces = false) (a0 : Int32) (a1 : Int32)  {μ : Mem} {x} (h : f_X3_workAlone a0 a1 μ = some x) : Con l E lvC yX3_workAlone cX3_workAlone 2 (some .int) 1 [.int a0, .int a1] μ (rTi x μ) := by
  refine Con.of (by decide) hl (Nat.le_of_ble_eq_true rfl) (fun Y C => ?_)
  replace C : Ok Y l E lvC 2 RX3 cX3_workAlone (some .int) 1 := C
  show V Y l E lvC 2 (rTi x μ) 0 [(0, .int a0), (1, .int a1)] [] μ
  unfold f_X3_workAlone at h
  refine V_iload_n C 0 dX3_workAlone_0 rfl 0 rfl ?_
  by_cases hk0 : a0 = (45 : Int32)
  · replace h := (if_pos hk0).symm.trans h
    refine V_lookup C (27) 28 dX3_workAlone_1 (by decide +kernel) (by rw [hk0]; decide +kernel) (by decide) ?_
    refine V_iload_n C 1 dX3_workAlone_28 rfl 1 rfl ?_
    refine V_i2l C dX3_workAlone_29 ?_
    refine V_lneg C dX3_workAlone_30 ?_
    rcases bT_inv h with ⟨e_2, hv, h⟩ | ⟨v_1, hv, h⟩
    · cases h; exact V_callSe C e_2 (con_X3_fit hl (-(a1).toInt64) hv) tb_X3_fit lk_RX3_15 (by decide) (by decide) rfl (Nat.le_of_ble_eq_true rfl) rfl dX3_workAlone_31 rfl
    refine V_callSo C (some (.int v_1)) (con_X3_fit hl (-(a1).toInt64) hv) tb_X3_fit lk_RX3_15 (by decide) (by decide) rfl (Nat.le_of_ble_eq_true rfl) rfl dX3_workAlone_31 rfl ?_
    clear hv
    cases h
    exact V_ireturn C rfl rfl rfl dX3_workAlone_34
  replace h := (if_neg hk0).symm.trans h
  by_cases hk1 : a0 = (124 : Int32)
  · replace h := (if_pos hk1).symm.trans h
    refine V_lookup C (34) 35 dX3_workAlone_1 (by decide +kernel) (by rw [hk1]; decide +kernel) (by decide) ?_
    refine V_iload_n C 1 dX3_workAlone_35 rfl 1 rfl ?_
    obtain ⟨j_4, hj_4, h⟩ := jn_ex h
    have J_4 : ∀ (s_3 : Int64) x, j_4 s_3 = some x → V Y l E lvC 2 (rTi x μ) 47 [] [.long s_3] μ := by
      intro s_3  x h
      rw [hj_4] at h; clear hj_4
      rcases bT_inv h with ⟨e_6, hv, h⟩ | ⟨v_5, hv, h⟩
      · cases h; exact V_callSe C e_6 (con_X3_fit hl s_3 hv) tb_X3_fit lk_RX3_15 (by decide) (by decide) rfl (Nat.le_of_ble_eq_true rfl) rfl dX3_workAlone_47 rfl
      refine V_callSo C (some (.int v_5)) (con_X3_fit hl s_3 hv) tb_X3_fit lk_RX3_15 (by decide) (by decide) rfl (Nat.le_of_ble_eq_true rfl) rfl dX3_workAlone_47 rfl ?_
      clear hv
      cases h
      exact V_ireturn C rfl rfl rfl dX3_workAlone_50
    clear hj_4
    refine V_if_ge C (tgt := 45) dX3_workAlone_36 (by decide) (fun hc => ?_) (fun hc => ?_)
    · replace h := (if_pos hc).symm.trans h
      refine V_iload_n C 1 dX3_workAlone_45 rfl 1 rfl ?_
      refine V_i2l C dX3_workAlone_46 ?_
      refine V_sub (LP := []) [] rfl ?_
      exact J_4 _ _ h
    · replace h := (if_neg hc).symm.trans h
      refine V_iload_n C 1 dX3_workAlone_39 rfl 1 rfl ?_
      refine V_i2l C dX3_workAlone_40 ?_
      refine V_lneg C dX3_workAlone_41 ?_
      refine V_goto C (tgt := 47) dX3_workAlone_42 (by decide) ?_
      refine V_sub (LP := []) [] rfl ?_
      exact J_4 _ _ h
  replace h := (if_neg hk1).symm.trans h
  refine V_lookup C (50) 51 dX3_workAlone_1 (by decide +kernel) ((lv_osw hk0 (by decide +kernel)).trans ((lv_osw hk1 (by decide +kernel)).trans rfl)) (by decide) ?_
  refine V_iload_n C 1 dX3_workAlone_51 rfl 1 rfl ?_
  refine V_if_le C (tgt := 59) dX3_workAlone_52 (by decide) (fun hc => ?_) (fun hc => ?_)
  · replace h := (if_pos hc).symm.trans h
    refine V_iload_n C 1 dX3_workAlone_59 rfl 1 rfl ?_
    refine V_if_ge C (tgt := 67) dX3_workAlone_60 (by decide) (fun hc => ?_) (fun hc => ?_)
    · replace h := (if_pos hc).symm.trans h
      refine V_iconst C (0 : Int32) dX3_workAlone_67 (by decide) ?_
      cases h
      exact V_ireturn C rfl rfl rfl dX3_workAlone_68
    · replace h := (if_neg hc).symm.trans h
      refine V_iconst C (-1 : Int32) dX3_workAlone_63 (by decide) ?_
      refine V_goto C (tgt := 68) dX3_workAlone_64 (by decide) ?_
      cases h
      exact V_ireturn C rfl rfl rfl dX3_workAlone_68
  · replace h := (if_neg hc).symm.trans h
    refine V_iconst C (1 : Int32) dX3_workAlone_55 (by decide) ?_
    refine V_goto C (tgt := 68) dX3_workAlone_56 (by decide) ?_
    cases h
    exact V_ireturn C rfl rfl rfl dX3_workAlone_68
set_option maxHeartbeats 4000000 in
set_option maxRecDepth 100000 in
theorem lp_X3_eachOfOne_7 {Y : Mc} {l : Launch} {E : WE} (hl : l.stackTraces = false) (C : Ok Y l E lvC 4 RX3 cX3_eachOfOne none 3) {κ : Mem → Option (Except Nat Unit × Mem)} (c0_4 : Int32) (g_5 : Nat) (g_6 : Nat) (hg_5 : g_5 < 18) (hg_6 : g_6 < 18) (hκ : ∀  (μ_13 : Mem) x, κ  μ_13 = some x → V Y l E lvC 4 (rBu x) 37 [] [] μ_13) : ∀ (n : Nat) (a3_7 : Int32) (μ_8 : Mem) {x}, f_X3_eachOfOne_L7 κ c0_4 g_5 g_6 n a3_7 μ_8 = some x → V Y l E lvC 4 (rBu x) 7 [(0, .int c0_4), (1, .ref (E.1 20 g_5)), (2, .ref (E.1 20 g_6)), (3, .int a3_7)] [] μ_8 := by
  intro n
  induction n with
  | zero =>
    intro a3_7 μ_8 x h
    simp [f_X3_eachOfOne_L7] at h
  | succ n ih =>
    intro a3_7 μ_8 x h
    rw [f_X3_eachOfOne_L7] at h
    refine V_iload_n C 3 dX3_eachOfOne_7 rfl 3 rfl ?_
    refine V_aload_n C 2 dX3_eachOfOne_8 rfl 2 rfl ?_
    refine V_getf (v := .int (μ_8 20 g_6 3)) C 20 g_6 (gr_0in g_6 hg_6) fl_RX3_51 rfl rfl dX3_eachOfOne_9 ?_
    refine V_icmp_ge C (tgt := 37) dX3_eachOfOne_12 (by decide) (fun hc => ?_) (fun hc => ?_)
    · replace h := (if_pos hc).symm.trans h
      refine V_sub (LP := []) [] rfl ?_
      exact hκ _ _ h
    · replace h := (if_neg hc).symm.trans h
      refine V_aload_n C 2 dX3_eachOfOne_15 rfl 2 rfl ?_
      refine V_getf (v := .ref (E.1 22 g_6)) C 20 g_6 (gr_0in g_6 hg_6) fl_RX3_55 rfl rfl dX3_eachOfOne_16 ?_
      refine V_iload_n C 3 dX3_eachOfOne_19 rfl 3 rfl ?_
      refine V_iload_n C 0 dX3_eachOfOne_20 rfl 0 rfl ?_
      refine V_aload_n C 1 dX3_eachOfOne_21 rfl 1 rfl ?_
      refine V_getf (v := .ref (E.1 22 g_5)) C 20 g_5 (gr_0in g_5 hg_5) fl_RX3_55 rfl rfl dX3_eachOfOne_22 ?_
      refine V_iload_n C 3 dX3_eachOfOne_25 rfl 3 rfl ?_
      obtain ⟨hi9, h⟩ := gd_inv h
      refine V_iald C 22 g_5 (gr_2in g_5 hg_5) (fun _ => rfl) (inb_in hi9) dX3_eachOfOne_26 ?_
      rcases bT_inv h with ⟨e_10, hv, h⟩ | ⟨v_9, hv, h⟩
      · cases h; exact V_callSe C e_10 (con_X3_workAlone hl c0_4 (μ_8 22 g_5 (a3_7).toNatClampNeg) hv) tb_X3_workAlone lk_RX3_59 (by decide) (by decide) rfl (Nat.le_of_ble_eq_true rfl) rfl dX3_eachOfOne_27 rfl
      refine V_callSo C (some (.int v_9)) (con_X3_workAlone hl c0_4 (μ_8 22 g_5 (a3_7).toNatClampNeg) hv) tb_X3_workAlone lk_RX3_59 (by decide) (by decide) rfl (Nat.le_of_ble_eq_true rfl) rfl dX3_eachOfOne_27 rfl ?_
      clear hv
      obtain ⟨hi9, h⟩ := gd_inv h
      refine V_iast C 22 g_6 (gr_2in g_6 hg_6) (fun _ => rfl) (inb_in hi9) dX3_eachOfOne_30 ?_
      refine V_memn (fun μ_11 hn9 => ?_)
      replace h := lt_eq hn9 h; clear hn9
      obtain ⟨x_12, hn9⟩ : ∃ z : Int32, z = a3_7 + (1 : Int32) := ⟨_, rfl⟩
      replace h := lt_eq hn9 h
      refine V_iinc (L' := [(0, .int c0_4), (1, .ref (E.1 20 g_5)), (2, .ref (E.1 20 g_6)), (3, .int x_12)]) C x_12 dX3_eachOfOne_31 3 rfl (by rw [hn9]; exact congrArg (a3_7 + ·) (by decide)) (by decide) [1, 2, 3, 0] rfl ?_
      clear hn9
      refine V_goto C (tgt := 7) dX3_eachOfOne_34 (by decide) ?_
      refine V_sub (LP := [(0, .int c0_4), (1, .ref (E.1 20 g_5)), (2, .ref (E.1 20 g_6)), (3, .int x_12)]) [0, 1, 2, 3] rfl ?_
      exact ih _ _ h
set_option maxHeartbeats 4000000 in
set_option maxRecDepth 100000 in
theorem con_X3_eachOfOne {l : Launch} {E : WE} (hl : l.stackTraces = false) (a0 : Int32) (g1 : Nat) (g2 : Nat) (hg1 : g1 < 18) (hg2 : g2 < 18) {μ : Mem} {x} (h : f_X3_eachOfOne a0 g1 g2 μ = some x) : Con l E lvC yX3_eachOfOne cX3_eachOfOne 4 none 3 [.int a0, .ref (E.1 20 g1), .ref (E.1 20 g2)] μ (rBu x) := by
  refine Con.of (by decide) hl (Nat.le_of_ble_eq_true rfl) (fun Y C => ?_)
  replace C : Ok Y l E lvC 4 RX3 cX3_eachOfOne none 3 := C
  show V Y l E lvC 4 (rBu x) 0 [(0, .int a0), (1, .ref (E.1 20 g1)), (2, .ref (E.1 20 g2))] [] μ
  unfold f_X3_eachOfOne at h
  refine V_aload_n C 2 dX3_eachOfOne_0 rfl 2 rfl ?_
  refine V_aload_n C 1 dX3_eachOfOne_1 rfl 1 rfl ?_
  rcases bB_inv h with ⟨e_3, μ_2, hv, h⟩ | ⟨u_1, μ_2, hv, h⟩
  · cases h; exact V_callVe C 20 g2 (gr_0in g2 hg2) e_3 (con_X1_shapeLike hl g2 g1 hg2 hg1 hv) tb_X1_shapeLike lk_RX3_45 rfl rfl rfl (by decide) (by decide) rfl (Nat.le_of_ble_eq_true rfl) rfl dX3_eachOfOne_2 rfl
  refine V_callVo C 20 g2 (gr_0in g2 hg2) none (con_X1_shapeLike hl g2 g1 hg2 hg1 hv) tb_X1_shapeLike lk_RX3_45 rfl rfl rfl (by decide) (by decide) rfl (Nat.le_of_ble_eq_true rfl) rfl dX3_eachOfOne_2 rfl ?_
  clear hv
  refine V_iconst C (0 : Int32) dX3_eachOfOne_5 (by decide) ?_
  refine V_istore_n (L' := [(0, .int a0), (1, .ref (E.1 20 g1)), (2, .ref (E.1 20 g2)), (3, .int (0 : Int32))]) C 3 dX3_eachOfOne_6 rfl (by decide) [1, 2, 3, 0] rfl ?_
  refine V_sub (LP := [(0, .int a0), (1, .ref (E.1 20 g1)), (2, .ref (E.1 20 g2)), (3, .int (0 : Int32))]) [0, 1, 2, 3] rfl ?_
  refine lp_X3_eachOfOne_7 hl C a0 g1 g2 hg1 hg2 (fun μ_14 x h => ?_) 1000 _ _ h
  cases h
  exact V_return C rfl rfl dX3_eachOfOne_37
set_option maxHeartbeats 4000000 in
set_option maxRecDepth 100000 in
theorem con_X0_putSpare {l : Launch} {E : WE} (hl : l.stackTraces = false)   {μ : Mem} {x} (h : f_X0_putSpare  μ = some x) : Con l E lvC yX0_putSpare cX0_putSpare 2 none 0 [.ref (E.1 14 0)] μ (rWu x) := by
  refine Con.of (by decide) hl (Nat.le_of_ble_eq_true rfl) (fun Y C => ?_)
  replace C : Ok Y l E lvC 2 RX0 cX0_putSpare none 0 := C
  show V Y l E lvC 2 (rWu x) 0 [(0, .ref (E.1 14 0))] [] μ
  unfold f_X0_putSpare at h
  refine V_aload_n C 0 dX0_putSpare_0 rfl 0 rfl ?_
  refine V_getf (v := .ref (E.1 15 0)) C 14 0 m_14 fl_RX0_13 rfl rfl dX0_putSpare_1 ?_
  refine V_aload_n C 0 dX0_putSpare_4 rfl 0 rfl ?_
  refine V_getf (v := .int (μ 14 0 4)) C 14 0 m_14 fl_RX0_29 rfl rfl dX0_putSpare_5 ?_
  refine V_iconst C (1 : Int32) dX0_putSpare_8 (by decide) ?_
  refine V_isub C dX0_putSpare_9 ?_
  obtain ⟨hi9, h⟩ := gd_inv h
  refine V_aald (a := E.1 20 (μ 15 0 (((μ 14 0 4) - (1 : Int32))).toNatClampNeg).toNatClampNeg) C 15 0 m_15 rfl (inb_in hi9) rfl dX0_putSpare_10 ?_
  refine V_topg (fun g_1 hn9 => ?_)
  replace h := lt_eq hn9 h; clear hn9
  obtain ⟨hg_1, h⟩ := gd_inv h
  replace hg_1 := dec_t hg_1
  refine V_astore_n (L' := [(0, .ref (E.1 14 0)), (1, .ref (E.1 20 g_1))]) C 1 dX0_putSpare_11 rfl (by decide) [1, 0] rfl ?_
  refine V_aload_n C 0 dX0_putSpare_12 rfl 0 rfl ?_
  refine V_getf (v := .ref (E.1 15 0)) C 14 0 m_14 fl_RX0_13 rfl rfl dX0_putSpare_13 ?_
  refine V_aload_n C 0 dX0_putSpare_16 rfl 0 rfl ?_
  refine V_getf (v := .int (μ 14 0 4)) C 14 0 m_14 fl_RX0_29 rfl rfl dX0_putSpare_17 ?_
  refine V_iconst C (1 : Int32) dX0_putSpare_20 (by decide) ?_
  refine V_isub C dX0_putSpare_21 ?_
  refine V_aload_n C 0 dX0_putSpare_22 rfl 0 rfl ?_
  refine V_getf (v := .ref (E.1 20 (μ 14 0 3).toNatClampNeg)) C 14 0 m_14 fl_RX0_25 rfl rfl dX0_putSpare_23 ?_
  refine V_topg (fun g_2 hn9 => ?_)
  replace h := lt_eq hn9 h; clear hn9
  obtain ⟨hg_2, h⟩ := gd_inv h
  replace hg_2 := dec_t hg_2
  obtain ⟨hi9, h⟩ := gd_inv h
  refine V_aastV C g_2 hg_2 (inb_in hi9) dX0_putSpare_26 ?_
  refine V_memn (fun μ_3 hn9 => ?_)
  replace h := lt_eq hn9 h; clear hn9
  refine V_aload_n C 0 dX0_putSpare_27 rfl 0 rfl ?_
  refine V_aload_n C 1 dX0_putSpare_28 rfl 1 rfl ?_
  refine V_putSp C g_1 hg_1 fp_RX0_25 rfl rfl dX0_putSpare_29 ?_
  refine V_memn (fun μ_4 hn9 => ?_)
  replace h := lt_eq hn9 h; clear hn9
  refine V_aload_n C 0 dX0_putSpare_32 rfl 0 rfl ?_
  refine V_dup C dX0_putSpare_33 rfl ?_
  refine V_getf (v := .int (μ_4 14 0 6)) C 14 0 m_14 fl_RX0_36 rfl rfl dX0_putSpare_34 ?_
  refine V_iconst C (1 : Int32) dX0_putSpare_37 (by decide) ?_
  refine V_iadd C dX0_putSpare_38 ?_
  refine V_putI C 14 0 m_14 fp_RX0_36 rfl rfl rfl rfl (Nat.le_of_ble_eq_true rfl) dX0_putSpare_39 ?_
  refine V_memn (fun μ_5 hn9 => ?_)
  replace h := lt_eq hn9 h; clear hn9
  cases h
  exact V_return C rfl rfl dX0_putSpare_42
set_option maxHeartbeats 4000000 in
set_option maxRecDepth 100000 in
theorem con_X0_workOnOne {l : Launch} {E : WE} (hl : l.stackTraces = false) (a2 : Int32)  {μ : Mem} {x} (h : f_X0_workOnOne a2 μ = some x) : Con l E lvC yX0_workOnOne cX0_workOnOne 6 none 5 [.ref (E.1 14 0), .ref (E.1 1 0), .int a2] μ (rBu x) := by
  refine Con.of (by decide) hl (Nat.le_of_ble_eq_true rfl) (fun Y C => ?_)
  replace C : Ok Y l E lvC 6 RX0 cX0_workOnOne none 5 := C
  show V Y l E lvC 6 (rBu x) 0 [(0, .ref (E.1 14 0)), (1, .ref (E.1 1 0)), (2, .int a2)] [] μ
  unfold f_X0_workOnOne at h
  refine V_aload_n C 1 dX0_workOnOne_0 rfl 1 rfl ?_
  refine V_getf (v := .ref (E.1 7 0)) C 1 0 m_1 fl_RX0_96 rfl rfl dX0_workOnOne_1 ?_
  refine V_iload_n C 2 dX0_workOnOne_4 rfl 2 rfl ?_
  obtain ⟨hi9, h⟩ := gd_inv h
  refine V_cald C 7 0 m_7 (fun _ => rfl) (inb_in hi9) dX0_workOnOne_5 ?_
  refine V_topi (fun x_1 hn9 => ?_)
  replace h := lt_eq hn9 h; clear hn9
  refine V_istore_n (L' := [(0, .ref (E.1 14 0)), (1, .ref (E.1 1 0)), (2, .int a2), (3, .int x_1)]) C 3 dX0_workOnOne_6 rfl (by decide) [1, 2, 3, 0] rfl ?_
  refine V_aload_n C 1 dX0_workOnOne_7 rfl 1 rfl ?_
  refine V_getf (v := .ref (E.1 8 0)) C 1 0 m_1 fl_RX0_100 rfl rfl dX0_workOnOne_8 ?_
  refine V_iload_n C 2 dX0_workOnOne_11 rfl 2 rfl ?_
  obtain ⟨hi9, h⟩ := gd_inv h
  refine V_cald C 8 0 m_8 (fun _ => rfl) (inb_in hi9) dX0_workOnOne_12 ?_
  refine V_topi (fun x_2 hn9 => ?_)
  replace h := lt_eq hn9 h; clear hn9
  refine V_istore (L' := [(0, .ref (E.1 14 0)), (1, .ref (E.1 1 0)), (2, .int a2), (3, .int x_1), (4, .int x_2)]) C dX0_workOnOne_13 (by decide) [1, 2, 3, 4, 0] rfl ?_
  refine V_aload_n C 0 dX0_workOnOne_15 rfl 0 rfl ?_
  refine V_getf (v := .ref (E.1 15 0)) C 14 0 m_14 fl_RX0_13 rfl rfl dX0_workOnOne_16 ?_
  refine V_aload_n C 0 dX0_workOnOne_19 rfl 0 rfl ?_
  refine V_getf (v := .int (μ 14 0 4)) C 14 0 m_14 fl_RX0_29 rfl rfl dX0_workOnOne_20 ?_
  refine V_iconst C (1 : Int32) dX0_workOnOne_23 (by decide) ?_
  refine V_isub C dX0_workOnOne_24 ?_
  obtain ⟨hi9, h⟩ := gd_inv h
  refine V_aald (a := E.1 20 (μ 15 0 (((μ 14 0 4) - (1 : Int32))).toNatClampNeg).toNatClampNeg) C 15 0 m_15 rfl (inb_in hi9) rfl dX0_workOnOne_25 ?_
  refine V_topg (fun g_3 hn9 => ?_)
  replace h := lt_eq hn9 h; clear hn9
  obtain ⟨hg_3, h⟩ := gd_inv h
  replace hg_3 := dec_t hg_3
  refine V_astore (L' := [(0, .ref (E.1 14 0)), (1, .ref (E.1 1 0)), (2, .int a2), (3, .int x_1), (4, .int x_2), (5, .ref (E.1 20 g_3))]) C dX0_workOnOne_26 (by decide) [1, 2, 3, 4, 5, 0] rfl ?_
  refine V_aload_n C 0 dX0_workOnOne_28 rfl 0 rfl ?_
  refine V_getf (v := .ref (E.1 20 (μ 14 0 3).toNatClampNeg)) C 14 0 m_14 fl_RX0_25 rfl rfl dX0_workOnOne_29 ?_
  refine V_topg (fun g_4 hn9 => ?_)
  replace h := lt_eq hn9 h; clear hn9
  obtain ⟨hg_4, h⟩ := gd_inv h
  replace hg_4 := dec_t hg_4
  obtain ⟨u_5, μ_6, hv, h⟩ := bW_inv h
  refine V_callVo C 20 g_4 (gr_0in g_4 hg_4) none (con_X1_restart hl g_4 hg_4 hv) tb_X1_restart lk_RX0_77 rfl rfl rfl (by decide) (by decide) rfl (Nat.le_of_ble_eq_true rfl) rfl dX0_workOnOne_32 rfl ?_
  clear hv
  refine V_iload C dX0_workOnOne_35 4 rfl ?_
  refine V_bipush C (47 : Int32) dX0_workOnOne_37 (by decide) ?_
  obtain ⟨j_8, hj_8, h⟩ := jn_ex h
  have J_8 : ∀ (μ_7 : Mem) x, j_8 μ_7 = some x → V Y l E lvC 6 (rBu x) 107 [(0, .ref (E.1 14 0))] [] μ_7 := by
    intro μ_7  x h
    rw [hj_8] at h; clear hj_8
    refine V_aload_n C 0 dX0_workOnOne_107 rfl 0 rfl ?_
    obtain ⟨u_9, μ_10, hv, h⟩ := bW_inv h
    refine V_callVo C 14 0 m_14 none (con_X0_putSpare hl hv) tb_X0_putSpare lk_RX0_128 rfl rfl rfl (by decide) (by decide) rfl (Nat.le_of_ble_eq_true rfl) rfl dX0_workOnOne_108 rfl ?_
    clear hv
    cases h
    exact V_return C rfl rfl dX0_workOnOne_111
  clear hj_8
  refine V_icmp_ne C (tgt := 55) dX0_workOnOne_39 (by decide) (fun hc => ?_) (fun hc => ?_)
  · replace h := (if_neg hc).symm.trans h
    refine V_iload C dX0_workOnOne_55 4 rfl ?_
    refine V_bipush C (92 : Int32) dX0_workOnOne_57 (by decide) ?_
    refine V_icmp_ne C (tgt := 75) dX0_workOnOne_59 (by decide) (fun hc => ?_) (fun hc => ?_)
    · replace h := (if_neg hc).symm.trans h
      refine V_ldcS (tx := "ir,tv") C 1 (by decide +kernel) dX0_workOnOne_75 ?_
      refine V_iload_n C 3 dX0_workOnOne_77 rfl 3 rfl ?_
      obtain ⟨v_11, hv, h⟩ := bP_inv h
      refine V_callKo C 1 (by decide) (some (.int v_11)) (con_J0_indexOf_0f7a4 hl 1 x_1 (by decide) hv) tb_J0_indexOf_0f7a4 lk_RX0_114 rfl (by decide) (by decide) rfl (Nat.le_of_ble_eq_true rfl) rfl dX0_workOnOne_78 rfl ?_
      clear hv
      refine V_if_lt C (tgt := 97) dX0_workOnOne_81 (by decide) (fun hc => ?_) (fun hc => ?_)
      · replace h := (if_pos hc).symm.trans h
        refine V_iload_n C 3 dX0_workOnOne_97 rfl 3 rfl ?_
        refine V_aload C dX0_workOnOne_98 5 rfl ?_
        refine V_aload_n C 0 dX0_workOnOne_100 rfl 0 rfl ?_
        refine V_getf (v := .ref (E.1 20 (μ_6 14 0 3).toNatClampNeg)) C 14 0 m_14 fl_RX0_25 rfl rfl dX0_workOnOne_101 ?_
        refine V_topg (fun g_12 hn9 => ?_)
        replace h := lt_eq hn9 h; clear hn9
        obtain ⟨hg_12, h⟩ := gd_inv h
        replace hg_12 := dec_t hg_12
        rcases bB_inv h with ⟨e_15, μ_14, hv, h⟩ | ⟨u_13, μ_14, hv, h⟩
        · cases h; exact V_callSe C e_15 (con_X3_eachOfOne hl x_1 g_3 g_12 hg_3 hg_12 hv) tb_X3_eachOfOne lk_RX0_125 (by decide) (by decide) rfl (Nat.le_of_ble_eq_true rfl) rfl dX0_workOnOne_104 rfl
        refine V_callSo C none (con_X3_eachOfOne hl x_1 g_3 g_12 hg_3 hg_12 hv) tb_X3_eachOfOne lk_RX0_125 (by decide) (by decide) rfl (Nat.le_of_ble_eq_true rfl) rfl dX0_workOnOne_104 rfl ?_
        clear hv
        refine V_sub (LP := [(0, .ref (E.1 14 0))]) [0] rfl ?_
        exact J_8 _ _ h
      · replace h := (if_neg hc).symm.trans h
        refine V_iload_n C 3 dX0_workOnOne_84 rfl 3 rfl ?_
        refine V_aload C dX0_workOnOne_85 5 rfl ?_
        refine V_aload_n C 0 dX0_workOnOne_87 rfl 0 rfl ?_
        refine V_getf (v := .ref (E.1 20 (μ_6 14 0 3).toNatClampNeg)) C 14 0 m_14 fl_RX0_25 rfl rfl dX0_workOnOne_88 ?_
        refine V_topg (fun g_16 hn9 => ?_)
        replace h := lt_eq hn9 h; clear hn9
        obtain ⟨hg_16, h⟩ := gd_inv h
        replace hg_16 := dec_t hg_16
        rcases bB_inv h with ⟨e_19, μ_18, hv, h⟩ | ⟨u_17, μ_18, hv, h⟩
        · cases h; exact V_callSe C e_19 (con_X4_ofOne hl x_1 g_3 g_16 hg_3 hg_16 hv) tb_X4_ofOne lk_RX0_120 (by decide) (by decide) rfl (Nat.le_of_ble_eq_true rfl) rfl dX0_workOnOne_91 rfl
        refine V_callSo C none (con_X4_ofOne hl x_1 g_3 g_16 hg_3 hg_16 hv) tb_X4_ofOne lk_RX0_120 (by decide) (by decide) rfl (Nat.le_of_ble_eq_true rfl) rfl dX0_workOnOne_91 rfl ?_
        clear hv
        refine V_goto C (tgt := 107) dX0_workOnOne_94 (by decide) ?_
        refine V_sub (LP := [(0, .ref (E.1 14 0))]) [0] rfl ?_
        exact J_8 _ _ h
    · replace h := (if_pos hc).symm.trans h
      refine V_iload_n C 3 dX0_workOnOne_62 rfl 3 rfl ?_
      refine V_aload C dX0_workOnOne_63 5 rfl ?_
      refine V_aload_n C 0 dX0_workOnOne_65 rfl 0 rfl ?_
      refine V_getf (v := .ref (E.1 20 (μ_6 14 0 3).toNatClampNeg)) C 14 0 m_14 fl_RX0_25 rfl rfl dX0_workOnOne_66 ?_
      refine V_topg (fun g_20 hn9 => ?_)
      replace h := lt_eq hn9 h; clear hn9
      obtain ⟨hg_20, h⟩ := gd_inv h
      replace hg_20 := dec_t hg_20
      rcases bB_inv h with ⟨e_23, μ_22, hv, h⟩ | ⟨u_21, μ_22, hv, h⟩
      · cases h; exact V_callSe C e_23 (con_X3_scan hl x_1 g_3 g_20 hg_3 hg_20 hv) tb_X3_scan lk_RX0_109 (by decide) (by decide) rfl (Nat.le_of_ble_eq_true rfl) rfl dX0_workOnOne_69 rfl
      refine V_callSo C none (con_X3_scan hl x_1 g_3 g_20 hg_3 hg_20 hv) tb_X3_scan lk_RX0_109 (by decide) (by decide) rfl (Nat.le_of_ble_eq_true rfl) rfl dX0_workOnOne_69 rfl ?_
      clear hv
      refine V_goto C (tgt := 107) dX0_workOnOne_72 (by decide) ?_
      refine V_sub (LP := [(0, .ref (E.1 14 0))]) [0] rfl ?_
      exact J_8 _ _ h
  · replace h := (if_pos hc).symm.trans h
    refine V_iload_n C 3 dX0_workOnOne_42 rfl 3 rfl ?_
    refine V_aload C dX0_workOnOne_43 5 rfl ?_
    refine V_aload_n C 0 dX0_workOnOne_45 rfl 0 rfl ?_
    refine V_getf (v := .ref (E.1 20 (μ_6 14 0 3).toNatClampNeg)) C 14 0 m_14 fl_RX0_25 rfl rfl dX0_workOnOne_46 ?_
    refine V_topg (fun g_24 hn9 => ?_)
    replace h := lt_eq hn9 h; clear hn9
    obtain ⟨hg_24, h⟩ := gd_inv h
    replace hg_24 := dec_t hg_24
    rcases bB_inv h with ⟨e_27, μ_26, hv, h⟩ | ⟨u_25, μ_26, hv, h⟩
    · cases h; exact V_callSe C e_27 (con_X3_reduce hl x_1 g_3 g_24 hg_3 hg_24 hv) tb_X3_reduce lk_RX0_103 (by decide) (by decide) rfl (Nat.le_of_ble_eq_true rfl) rfl dX0_workOnOne_49 rfl
    refine V_callSo C none (con_X3_reduce hl x_1 g_3 g_24 hg_3 hg_24 hv) tb_X3_reduce lk_RX0_103 (by decide) (by decide) rfl (Nat.le_of_ble_eq_true rfl) rfl dX0_workOnOne_49 rfl ?_
    clear hv
    refine V_goto C (tgt := 107) dX0_workOnOne_52 (by decide) ?_
    refine V_sub (LP := [(0, .ref (E.1 14 0))]) [0] rfl ?_
    exact J_8 _ _ h
set_option maxHeartbeats 4000000 in
set_option maxRecDepth 100000 in
theorem con_X2_has {l : Launch} {E : WE} (hl : l.stackTraces = false) (a1 : Int32)  {μ : Mem} {x} (h : f_X2_has a1 μ = some x) : Con l E lvC yX2_has cX2_has 2 (some .boolean) 0 [.ref (E.1 11 0), .int a1] μ (rPi x μ) := by
  refine Con.of (by decide) hl (Nat.le_of_ble_eq_true rfl) (fun Y C => ?_)
  replace C : Ok Y l E lvC 2 RX2 cX2_has (some .boolean) 0 := C
  show V Y l E lvC 2 (rPi x μ) 0 [(0, .ref (E.1 11 0)), (1, .int a1)] [] μ
  unfold f_X2_has at h
  refine V_iload_n C 1 dX2_has_0 rfl 1 rfl ?_
  obtain ⟨j_1, hj_1, h⟩ := jn_ex h
  have J_1 : ∀ (_ : Unit) x, j_1 () = some x → V Y l E lvC 2 (rPi x μ) 23 [] [] μ := by
    intro _  x h
    rw [hj_1] at h; clear hj_1
    refine V_iconst C (0 : Int32) dX2_has_23 (by decide) ?_
    cases h
    exact V_ireturn C rfl rfl rfl dX2_has_24
  clear hj_1
  refine V_if_lt C (tgt := 23) dX2_has_1 (by decide) (fun hc => ?_) (fun hc => ?_)
  · replace h := (if_pos hc).symm.trans h
    refine V_sub (LP := []) [] rfl ?_
    exact J_1 () _ h
  · replace h := (if_neg hc).symm.trans h
    refine V_iload_n C 1 dX2_has_4 rfl 1 rfl ?_
    refine V_bipush C (8 : Int32) dX2_has_5 (by decide) ?_
    refine V_icmp_ge C (tgt := 23) dX2_has_7 (by decide) (fun hc => ?_) (fun hc => ?_)
    · replace h := (if_pos hc).symm.trans h
      refine V_sub (LP := []) [] rfl ?_
      exact J_1 () _ h
    · replace h := (if_neg hc).symm.trans h
      refine V_aload_n C 0 dX2_has_10 rfl 0 rfl ?_
      refine V_getf (v := .ref (E.1 13 0)) C 11 0 m_11 fl_RX2_17 rfl rfl dX2_has_11 ?_
      refine V_iload_n C 1 dX2_has_14 rfl 1 rfl ?_
      obtain ⟨hi9, h⟩ := gd_inv h
      refine V_zald C 13 0 m_13 (fun _ => rfl) (inb_in hi9) dX2_has_15 ?_
      refine V_if_eq C (tgt := 23) dX2_has_16 (by decide) (fun hc => ?_) (fun hc => ?_)
      · replace h := (if_pos hc).symm.trans h
        refine V_sub (LP := []) [] rfl ?_
        exact J_1 () _ h
      · replace h := (if_neg hc).symm.trans h
        refine V_iconst C (1 : Int32) dX2_has_19 (by decide) ?_
        refine V_goto C (tgt := 24) dX2_has_20 (by decide) ?_
        cases h
        exact V_ireturn C rfl rfl rfl dX2_has_24
set_option maxHeartbeats 4000000 in
set_option maxRecDepth 100000 in
theorem con_X2_find {l : Launch} {E : WE} (hl : l.stackTraces = false) (a1 : Int32)  {μ : Mem} {x} (h : f_X2_find a1 μ = some x) : Con l E lvC yX2_find cX2_find 2 (some (.object "RankCalc$Grid")) 1 [.ref (E.1 11 0), .int a1] μ (rTg E x μ) := by
  refine Con.of (by decide) hl (Nat.le_of_ble_eq_true rfl) (fun Y C => ?_)
  replace C : Ok Y l E lvC 2 RX2 cX2_find (some (.object "RankCalc$Grid")) 1 := C
  show V Y l E lvC 2 (rTg E x μ) 0 [(0, .ref (E.1 11 0)), (1, .int a1)] [] μ
  unfold f_X2_find at h
  refine V_aload_n C 0 dX2_find_0 rfl 0 rfl ?_
  refine V_iload_n C 1 dX2_find_1 rfl 1 rfl ?_
  obtain ⟨v_1, hv, h⟩ := bP_inv h
  refine V_callVo C 11 0 m_11 (some (.int v_1)) (con_X2_has hl a1 hv) tb_X2_has lk_RX2_26 rfl rfl rfl (by decide) (by decide) rfl (Nat.le_of_ble_eq_true rfl) rfl dX2_find_2 rfl ?_
  clear hv
  refine V_if_ne C (tgt := 16) dX2_find_5 (by decide) (fun hc => ?_) (fun hc => ?_)
  · replace h := (if_neg hc).symm.trans h
    refine V_aload_n C 0 dX2_find_16 rfl 0 rfl ?_
    refine V_getf (v := .ref (E.1 12 0)) C 11 0 m_11 fl_RX2_11 rfl rfl dX2_find_17 ?_
    refine V_iload_n C 1 dX2_find_20 rfl 1 rfl ?_
    obtain ⟨hi9, h⟩ := gd_inv h
    refine V_aald (a := E.1 20 (a1).toNatClampNeg) C 12 0 m_12 rfl (inb_in hi9) rfl dX2_find_21 ?_
    refine V_topg (fun g_2 hn9 => ?_)
    replace h := lt_eq hn9 h; clear hn9
    obtain ⟨hg_2, h⟩ := gd_inv h
    replace hg_2 := dec_t hg_2
    cases h
    exact V_areturn C rfl rfl dX2_find_22
  · replace h := (if_pos hc).symm.trans h
    cases h
    exact V_throw C 6 th_RX2_30 rfl (Nat.le_of_ble_eq_true rfl) dX2_find_8 dX2_find_11 dX2_find_12 dX2_find_15
set_option maxHeartbeats 4000000 in
set_option maxRecDepth 100000 in
theorem con_X1_copy {l : Launch} {E : WE} (hl : l.stackTraces = false) (g0 : Nat) (g1 : Nat) (hg0 : g0 < 18) (hg1 : g1 < 18) {μ : Mem} {x} (h : f_X1_copy g0 g1 μ = some x) : Con l E lvC yX1_copy cX1_copy 2 none 3 [.ref (E.1 20 g0), .ref (E.1 20 g1)] μ (rBu x) := by
  refine Con.of (by decide) hl (Nat.le_of_ble_eq_true rfl) (fun Y C => ?_)
  replace C : Ok Y l E lvC 2 RX1 cX1_copy none 3 := C
  show V Y l E lvC 2 (rBu x) 0 [(0, .ref (E.1 20 g0)), (1, .ref (E.1 20 g1))] [] μ
  unfold f_X1_copy at h
  refine V_aload_n C 0 dX1_copy_0 rfl 0 rfl ?_
  refine V_aload_n C 1 dX1_copy_1 rfl 1 rfl ?_
  rcases bB_inv h with ⟨e_3, μ_2, hv, h⟩ | ⟨u_1, μ_2, hv, h⟩
  · cases h; exact V_callVe C 20 g0 (gr_0in g0 hg0) e_3 (con_X1_shapeLike hl g0 g1 hg0 hg1 hv) tb_X1_shapeLike lk_RX1_39 rfl rfl rfl (by decide) (by decide) rfl (Nat.le_of_ble_eq_true rfl) rfl dX1_copy_2 rfl
  refine V_callVo C 20 g0 (gr_0in g0 hg0) none (con_X1_shapeLike hl g0 g1 hg0 hg1 hv) tb_X1_shapeLike lk_RX1_39 rfl rfl rfl (by decide) (by decide) rfl (Nat.le_of_ble_eq_true rfl) rfl dX1_copy_2 rfl ?_
  clear hv
  refine V_aload_n C 1 dX1_copy_5 rfl 1 rfl ?_
  refine V_getf (v := .ref (E.1 22 g1)) C 20 g1 (gr_0in g1 hg1) fl_RX1_15 rfl rfl dX1_copy_6 ?_
  refine V_iconst C (0 : Int32) dX1_copy_9 (by decide) ?_
  refine V_aload_n C 0 dX1_copy_10 rfl 0 rfl ?_
  refine V_getf (v := .ref (E.1 22 g0)) C 20 g0 (gr_0in g0 hg0) fl_RX1_15 rfl rfl dX1_copy_11 ?_
  refine V_iconst C (0 : Int32) dX1_copy_14 (by decide) ?_
  refine V_aload_n C 0 dX1_copy_15 rfl 0 rfl ?_
  refine V_getf (v := .int (μ_2 20 g0 3)) C 20 g0 (gr_0in g0 hg0) fl_RX1_22 rfl rfl dX1_copy_16 ?_
  obtain ⟨hq9, h⟩ := gd_inv h
  obtain ⟨q1, q2, q3, q4, q5⟩ := cpok_g hq9
  refine V_copyi C 22 g1 22 g0 (gr_2in g1 hg1) (gr_2in g0 hg0) (fun _ => rfl) (fun _ => rfl) lk_RX1_43 w_cp1 w_cp2 w_cp3 q1 q2 q3 q4 q5 (Nat.le_of_ble_eq_true rfl) dX1_copy_19 ?_
  refine V_memn (fun μ_4 hn9 => ?_)
  replace h := lt_eq hn9 h; clear hn9
  cases h
  exact V_return C rfl rfl dX1_copy_22
