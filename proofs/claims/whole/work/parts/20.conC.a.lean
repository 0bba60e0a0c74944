set_option maxHeartbeats 4000000 in
set_option maxRecDepth 100000 in
theorem con_X1_restart {l : Launch} {E : WE} (hl : l.stackTraces = false) (g0 : Nat) (hg0 : g0 < 18) {μ : Mem} {x} (h : f_X1_restart g0 μ = some x) : Con l E lvC yX1_restart cX1_restart 1 none 0 [.ref (E.1 20 g0)] μ (rWu x) := by
  refine Con.of (by decide) hl (Nat.le_of_ble_eq_true rfl) (fun Y C => ?_)
  replace C : Ok Y l E lvC 1 RX1 cX1_restart none 0 := C
  show V Y l E lvC 1 (rWu x) 0 [(0, .ref (E.1 20 g0))] [] μ
  unfold f_X1_restart at h
  refine V_aload_n C 0 dX1_restart_0 rfl 0 rfl ?_
  refine V_iconst C (0 : Int32) dX1_restart_1 (by decide) ?_
  refine V_putI C 20 g0 (gr_0in g0 hg0) fp_RX1_18 rfl rfl rfl rfl (Nat.le_of_ble_eq_true rfl) dX1_restart_2 ?_
  refine V_memn (fun μ_1 hn9 => ?_)
  replace h := lt_eq hn9 h; clear hn9
  refine V_aload_n C 0 dX1_restart_5 rfl 0 rfl ?_
  refine V_iconst C (1 : Int32) dX1_restart_6 (by decide) ?_
  refine V_putI C 20 g0 (gr_0in g0 hg0) fp_RX1_22 rfl rfl rfl rfl (Nat.le_of_ble_eq_true rfl) dX1_restart_7 ?_
  refine V_memn (fun μ_2 hn9 => ?_)
  replace h := lt_eq hn9 h; clear hn9
  cases h
  exact V_return C rfl rfl dX1_restart_10
set_option maxHeartbeats 4000000 in
set_option maxRecDepth 100000 in
theorem con_X1_rowLength {l : Launch} {E : WE} (hl : l.stackTraces = false) (g0 : Nat) (hg0 : g0 < 18) {μ : Mem} {x} (h : f_X1_rowLength g0 μ = some x) : Con l E lvC yX1_rowLength cX1_rowLength 1 (some .int) 0 [.ref (E.1 20 g0)] μ (rPi x μ) := by
  refine Con.of (by decide) hl (Nat.le_of_ble_eq_true rfl) (fun Y C => ?_)
  replace C : Ok Y l E lvC 1 RX1 cX1_rowLength (some .int) 0 := C
  show V Y l E lvC 1 (rPi x μ) 0 [(0, .ref (E.1 20 g0))] [] μ
  unfold f_X1_rowLength at h
  refine V_aload_n C 0 dX1_rowLength_0 rfl 0 rfl ?_
  refine V_getf (v := .int (μ 20 g0 2)) C 20 g0 (gr_0in g0 hg0) fl_RX1_18 rfl rfl dX1_rowLength_1 ?_
  refine V_if_ne C (tgt := 11) dX1_rowLength_4 (by decide) (fun hc => ?_) (fun hc => ?_)
  · replace h := (if_neg hc).symm.trans h
    refine V_aload_n C 0 dX1_rowLength_11 rfl 0 rfl ?_
    refine V_getf (v := .ref (E.1 21 g0)) C 20 g0 (gr_0in g0 hg0) fl_RX1_9 rfl rfl dX1_rowLength_12 ?_
    refine V_aload_n C 0 dX1_rowLength_15 rfl 0 rfl ?_
    refine V_getf (v := .int (μ 20 g0 2)) C 20 g0 (gr_0in g0 hg0) fl_RX1_18 rfl rfl dX1_rowLength_16 ?_
    refine V_iconst C (1 : Int32) dX1_rowLength_19 (by decide) ?_
    refine V_isub C dX1_rowLength_20 ?_
    obtain ⟨hi9, h⟩ := gd_inv h
    refine V_iald C 21 g0 (gr_1in g0 hg0) (fun _ => rfl) (inb_in hi9) dX1_rowLength_21 ?_
    cases h
    exact V_ireturn C rfl rfl rfl dX1_rowLength_22
  · replace h := (if_pos hc).symm.trans h
    refine V_iconst C (1 : Int32) dX1_rowLength_7 (by decide) ?_
    refine V_goto C (tgt := 22) dX1_rowLength_8 (by decide) ?_
    cases h
    exact V_ireturn C rfl rfl rfl dX1_rowLength_22
set_option maxHeartbeats 4000000 in
set_option maxRecDepth 100000 in
theorem con_X1_addAxis {l : Launch} {E : WE} (hl : l.stackTraces = false) (g0 : Nat) (a1 : Int32) (hg0 : g0 < 18) {μ : Mem} {x} (h : f_X1_addAxis g0 a1 μ = some x) : Con l E lvC yX1_addAxis cX1_addAxis 2 none 0 [.ref (E.1 20 g0), .int a1] μ (rBu x) := by
  refine Con.of (by decide) hl (Nat.le_of_ble_eq_true rfl) (fun Y C => ?_)
  replace C : Ok Y l E lvC 2 RX1 cX1_addAxis none 0 := C
  show V Y l E lvC 2 (rBu x) 0 [(0, .ref (E.1 20 g0)), (1, .int a1)] [] μ
  unfold f_X1_addAxis at h
  refine V_iload_n C 1 dX1_addAxis_0 rfl 1 rfl ?_
  refine V_bipush C (48 : Int32) dX1_addAxis_1 (by decide) ?_
  refine V_icmp_le C (tgt := 14) dX1_addAxis_3 (by decide) (fun hc => ?_) (fun hc => ?_)
  · replace h := (if_pos hc).symm.trans h
    refine V_aload_n C 0 dX1_addAxis_14 rfl 0 rfl ?_
    refine V_getf (v := .ref (E.1 21 g0)) C 20 g0 (gr_0in g0 hg0) fl_RX1_9 rfl rfl dX1_addAxis_15 ?_
    refine V_aload_n C 0 dX1_addAxis_18 rfl 0 rfl ?_
    refine V_getf (v := .int (μ 20 g0 2)) C 20 g0 (gr_0in g0 hg0) fl_RX1_18 rfl rfl dX1_addAxis_19 ?_
    refine V_iload_n C 1 dX1_addAxis_22 rfl 1 rfl ?_
    obtain ⟨hi9, h⟩ := gd_inv h
    refine V_iast C 21 g0 (gr_1in g0 hg0) (fun _ => rfl) (inb_in hi9) dX1_addAxis_23 ?_
    refine V_memn (fun μ_1 hn9 => ?_)
    replace h := lt_eq hn9 h; clear hn9
    refine V_aload_n C 0 dX1_addAxis_24 rfl 0 rfl ?_
    refine V_dup C dX1_addAxis_25 rfl ?_
    refine V_getf (v := .int (μ_1 20 g0 2)) C 20 g0 (gr_0in g0 hg0) fl_RX1_18 rfl rfl dX1_addAxis_26 ?_
    refine V_iconst C (1 : Int32) dX1_addAxis_29 (by decide) ?_
    refine V_iadd C dX1_addAxis_30 ?_
    refine V_putI C 20 g0 (gr_0in g0 hg0) fp_RX1_18 rfl rfl rfl rfl (Nat.le_of_ble_eq_true rfl) dX1_addAxis_31 ?_
    refine V_memn (fun μ_2 hn9 => ?_)
    replace h := lt_eq hn9 h; clear hn9
    refine V_aload_n C 0 dX1_addAxis_34 rfl 0 rfl ?_
    refine V_dup C dX1_addAxis_35 rfl ?_
    refine V_getf (v := .int (μ_2 20 g0 3)) C 20 g0 (gr_0in g0 hg0) fl_RX1_22 rfl rfl dX1_addAxis_36 ?_
    refine V_iload_n C 1 dX1_addAxis_39 rfl 1 rfl ?_
    refine V_imul C dX1_addAxis_40 ?_
    refine V_putI C 20 g0 (gr_0in g0 hg0) fp_RX1_22 rfl rfl rfl rfl (Nat.le_of_ble_eq_true rfl) dX1_addAxis_41 ?_
    refine V_memn (fun μ_3 hn9 => ?_)
    replace h := lt_eq hn9 h; clear hn9
    cases h
    exact V_return C rfl rfl dX1_addAxis_44
  · replace h := (if_neg hc).symm.trans h
    cases h
    exact V_throw C 1 th_RX1_25 rfl (Nat.le_of_ble_eq_true rfl) dX1_addAxis_6 dX1_addAxis_9 dX1_addAxis_10 dX1_addAxis_13
set_option maxHeartbeats 4000000 in
set_option maxRecDepth 100000 in
theorem lp_X1_addAxesOf_3 {Y : Mc} {l : Launch} {E : WE} (hl : l.stackTraces = false) (C : Ok Y l E lvC 5 RX1 cX1_addAxesOf none 1) {κ : Mem → Option (Except Nat Unit × Mem)} (g_1 : Nat) (g_2 : Nat) (c3_3 : Int32) (hg_1 : g_1 < 18) (hg_2 : g_2 < 18) (hκ : ∀  (μ_10 : Mem) x, κ  μ_10 = some x → V Y l E lvC 5 (rBu x) 26 [] [] μ_10) : ∀ (n : Nat) (a4_4 : Int32) (μ_5 : Mem) {x}, f_X1_addAxesOf_L3 κ g_1 g_2 c3_3 n a4_4 μ_5 = some x → V Y l E lvC 5 (rBu x) 3 [(0, .ref (E.1 20 g_1)), (1, .ref (E.1 20 g_2)), (3, .int c3_3), (4, .int a4_4)] [] μ_5 := by
  intro n
  induction n with
  | zero =>
    intro a4_4 μ_5 x h
    simp [f_X1_addAxesOf_L3] at h
  | succ n ih =>
    intro a4_4 μ_5 x h
    rw [f_X1_addAxesOf_L3] at h
    refine V_iload C dX1_addAxesOf_3 3 rfl ?_
    refine V_iload_n C 3 dX1_addAxesOf_5 rfl 2 rfl ?_
    refine V_icmp_ge C (tgt := 26) dX1_addAxesOf_6 (by decide) (fun hc => ?_) (fun hc => ?_)
    · replace h := (if_pos hc).symm.trans h
      refine V_sub (LP := []) [] rfl ?_
      exact hκ _ _ h
    · replace h := (if_neg hc).symm.trans h
      refine V_aload_n C 0 dX1_addAxesOf_9 rfl 0 rfl ?_
      refine V_aload_n C 1 dX1_addAxesOf_10 rfl 1 rfl ?_
      refine V_getf (v := .ref (E.1 21 g_2)) C 20 g_2 (gr_0in g_2 hg_2) fl_RX1_9 rfl rfl dX1_addAxesOf_11 ?_
      refine V_iload C dX1_addAxesOf_14 3 rfl ?_
      obtain ⟨hi9, h⟩ := gd_inv h
      refine V_iald C 21 g_2 (gr_1in g_2 hg_2) (fun _ => rfl) (inb_in hi9) dX1_addAxesOf_16 ?_
      rcases bB_inv h with ⟨e_8, μ_7, hv, h⟩ | ⟨u_6, μ_7, hv, h⟩
      · cases h; exact V_callVe C 20 g_1 (gr_0in g_1 hg_1) e_8 (con_X1_addAxis hl g_1 (μ_5 21 g_2 (a4_4).toNatClampNeg) hg_1 hv) tb_X1_addAxis lk_RX1_28 rfl rfl rfl (by decide) (by decide) rfl (Nat.le_of_ble_eq_true rfl) rfl dX1_addAxesOf_17 rfl
      refine V_callVo C 20 g_1 (gr_0in g_1 hg_1) none (con_X1_addAxis hl g_1 (μ_5 21 g_2 (a4_4).toNatClampNeg) hg_1 hv) tb_X1_addAxis lk_RX1_28 rfl rfl rfl (by decide) (by decide) rfl (Nat.le_of_ble_eq_true rfl) rfl dX1_addAxesOf_17 rfl ?_
      clear hv
      obtain ⟨x_9, hn9⟩ : ∃ z : Int32, z = a4_4 + (1 : Int32) := ⟨_, rfl⟩
      replace h := lt_eq hn9 h
      refine V_iinc (L' := [(0, .ref (E.1 20 g_1)), (1, .ref (E.1 20 g_2)), (3, .int c3_3), (4, .int x_9)]) C x_9 dX1_addAxesOf_20 3 rfl (by rw [hn9]; exact congrArg (a4_4 + ·) (by decide)) (by decide) [1, 2, 3, 0] rfl ?_
      clear hn9
      refine V_goto C (tgt := 3) dX1_addAxesOf_23 (by decide) ?_
      refine V_sub (LP := [(0, .ref (E.1 20 g_1)), (1, .ref (E.1 20 g_2)), (3, .int c3_3), (4, .int x_9)]) [0, 1, 2, 3] rfl ?_
      exact ih _ _ h
set_option maxHeartbeats 4000000 in
set_option maxRecDepth 100000 in
theorem con_X1_addAxesOf {l : Launch} {E : WE} (hl : l.stackTraces = false) (g0 : Nat) (g1 : Nat) (a2 : Int32) (a3 : Int32) (hg0 : g0 < 18) (hg1 : g1 < 18) {μ : Mem} {x} (h : f_X1_addAxesOf g0 g1 a2 a3 μ = some x) : Con l E lvC yX1_addAxesOf cX1_addAxesOf 5 none 1 [.ref (E.1 20 g0), .ref (E.1 20 g1), .int a2, .int a3] μ (rBu x) := by
  refine Con.of (by decide) hl (Nat.le_of_ble_eq_true rfl) (fun Y C => ?_)
  replace C : Ok Y l E lvC 5 RX1 cX1_addAxesOf none 1 := C
  show V Y l E lvC 5 (rBu x) 0 [(0, .ref (E.1 20 g0)), (1, .ref (E.1 20 g1)), (2, .int a2), (3, .int a3)] [] μ
  unfold f_X1_addAxesOf at h
  refine V_iload_n C 2 dX1_addAxesOf_0 rfl 2 rfl ?_
  refine V_istore (L' := [(0, .ref (E.1 20 g0)), (1, .ref (E.1 20 g1)), (2, .int a2), (3, .int a3), (4, .int a2)]) C dX1_addAxesOf_1 (by decide) [1, 2, 3, 4, 0] rfl ?_
  refine V_sub (LP := [(0, .ref (E.1 20 g0)), (1, .ref (E.1 20 g1)), (3, .int a3), (4, .int a2)]) [0, 1, 3, 4] rfl ?_
  refine lp_X1_addAxesOf_3 hl C g0 g1 a3 hg0 hg1 (fun μ_11 x h => ?_) 1000 _ _ h
  cases h
  exact V_return C rfl rfl dX1_addAxesOf_26
set_option maxHeartbeats 4000000 in
set_option maxRecDepth 100000 in
theorem con_X1_endAxes {l : Launch} {E : WE} (hl : l.stackTraces = false) (g0 : Nat) (hg0 : g0 < 18) {μ : Mem} {x} (h : f_X1_endAxes g0 μ = some x) : Con l E lvC yX1_endAxes cX1_endAxes 1 none 0 [.ref (E.1 20 g0)] μ (rTu x μ) := by
  refine Con.of (by decide) hl (Nat.le_of_ble_eq_true rfl) (fun Y C => ?_)
  replace C : Ok Y l E lvC 1 RX1 cX1_endAxes none 0 := C
  show V Y l E lvC 1 (rTu x μ) 0 [(0, .ref (E.1 20 g0))] [] μ
  unfold f_X1_endAxes at h
  refine V_aload_n C 0 dX1_endAxes_0 rfl 0 rfl ?_
  refine V_getf (v := .int (μ 20 g0 3)) C 20 g0 (gr_0in g0 hg0) fl_RX1_22 rfl rfl dX1_endAxes_1 ?_
  refine V_bipush C (48 : Int32) dX1_endAxes_4 (by decide) ?_
  refine V_icmp_le C (tgt := 17) dX1_endAxes_6 (by decide) (fun hc => ?_) (fun hc => ?_)
  · replace h := (if_pos hc).symm.trans h
    cases h
    exact V_return C rfl rfl dX1_endAxes_17
  · replace h := (if_neg hc).symm.trans h
    cases h
    exact V_throw C 1 th_RX1_25 rfl (Nat.le_of_ble_eq_true rfl) dX1_endAxes_9 dX1_endAxes_12 dX1_endAxes_13 dX1_endAxes_16
set_option maxHeartbeats 4000000 in
set_option maxRecDepth 100000 in
theorem con_X3_ofNothing {l : Launch} {E : WE} (hl : l.stackTraces = false) (a0 : Int32)  {μ : Mem} {x} (h : f_X3_ofNothing a0 μ = some x) : Con l E lvC yX3_ofNothing cX3_ofNothing 1 (some .int) 0 [.int a0] μ (rTi x μ) := by
  refine Con.of (by decide) hl (Nat.le_of_ble_eq_true rfl) (fun Y C => ?_)
  replace C : Ok Y l E lvC 1 RX3 cX3_ofNothing (some .int) 0 := C
  show V Y l E lvC 1 (rTi x μ) 0 [(0, .int a0)] [] μ
  unfold f_X3_ofNothing at h
  refine V_iload_n C 0 dX3_ofNothing_0 rfl 0 rfl ?_
  refine V_bipush C (43 : Int32) dX3_ofNothing_1 (by decide) ?_
  obtain ⟨j_1, hj_1, h⟩ := jn_ex h
  have J_1 : ∀ (_ : Unit) x, j_1 () = some x → V Y l E lvC 1 (rTi x μ) 20 [(0, .int a0)] [] μ := by
    intro _  x h
    rw [hj_1] at h; clear hj_1
    refine V_iload_n C 0 dX3_ofNothing_20 rfl 0 rfl ?_
    refine V_bipush C (43 : Int32) dX3_ofNothing_21 (by decide) ?_
    refine V_icmp_ne C (tgt := 30) dX3_ofNothing_23 (by decide) (fun hc => ?_) (fun hc => ?_)
    · replace h := (if_neg hc).symm.trans h
      refine V_iconst C (1 : Int32) dX3_ofNothing_30 (by decide) ?_
      cases h
      exact V_ireturn C rfl rfl rfl dX3_ofNothing_31
    · replace h := (if_pos hc).symm.trans h
      refine V_iconst C (0 : Int32) dX3_ofNothing_26 (by decide) ?_
      refine V_goto C (tgt := 31) dX3_ofNothing_27 (by decide) ?_
      cases h
      exact V_ireturn C rfl rfl rfl dX3_ofNothing_31
  clear hj_1
  refine V_icmp_eq C (tgt := 20) dX3_ofNothing_3 (by decide) (fun hc => ?_) (fun hc => ?_)
  · replace h := (if_pos hc).symm.trans h
    refine V_sub (LP := [(0, .int a0)]) [0] rfl ?_
    exact J_1 () _ h
  · replace h := (if_neg hc).symm.trans h
    refine V_iload_n C 0 dX3_ofNothing_6 rfl 0 rfl ?_
    refine V_bipush C (42 : Int32) dX3_ofNothing_7 (by decide) ?_
    refine V_icmp_eq C (tgt := 20) dX3_ofNothing_9 (by decide) (fun hc => ?_) (fun hc => ?_)
    · replace h := (if_pos hc).symm.trans h
      refine V_sub (LP := [(0, .int a0)]) [0] rfl ?_
      exact J_1 () _ h
    · replace h := (if_neg hc).symm.trans h
      cases h
      exact V_throw C 2 th_RX3_12 rfl (Nat.le_of_ble_eq_true rfl) dX3_ofNothing_12 dX3_ofNothing_15 dX3_ofNothing_16 dX3_ofNothing_19
set_option maxHeartbeats 4000000 in
set_option maxRecDepth 100000 in
theorem con_X3_fit {l : Launch} {E : WE} (hl : l.stackTraces = false) (b0 : Int64)  {μ : Mem} {x} (h : f_X3_fit b0 μ = some x) : Con l E lvC yX3_fit cX3_fit 2 (some .int) 0 [.long b0] μ (rTi x μ) := by
  refine Con.of (by decide) hl (Nat.le_of_ble_eq_true rfl) (fun Y C => ?_)
  replace C : Ok Y l E lvC 2 RX3 cX3_fit (some .int) 0 := C
  show V Y l E lvC 2 (rTi x μ) 0 [(0, .long b0)] [] μ
  unfold f_X3_fit at h
  refine V_lload_n C 0 dX3_fit_0 rfl 0 rfl ?_
  refine V_lload_n C 0 dX3_fit_1 rfl 0 rfl ?_
  refine V_l2i C dX3_fit_2 ?_
  refine V_i2l C dX3_fit_3 ?_
  refine V_lcmp C dX3_fit_4 ?_
  refine V_if_eq C (tgt := 16) dX3_fit_5 (by decide) (fun hc => ?_) (fun hc => ?_)
  · replace h := (if_pos hc).symm.trans h
    refine V_lload_n C 0 dX3_fit_16 rfl 0 rfl ?_
    refine V_l2i C dX3_fit_17 ?_
    cases h
    exact V_ireturn C rfl rfl rfl dX3_fit_18
  · replace h := (if_neg hc).symm.trans h
    cases h
    exact V_throw C 1 th_RX3_9 rfl (Nat.le_of_ble_eq_true rfl) dX3_fit_8 dX3_fit_11 dX3_fit_12 dX3_fit_15
set_option maxHeartbeats 4000000 in
set_option maxRecDepth 100000 in
theorem con_X3_needDivides {l : Launch} {E : WE} (hl : l.stackTraces = false) (a0 : Int32) (a1 : Int32)  {μ : Mem} {x} (h : f_X3_needDivides a0 a1 μ = some x) : Con l E lvC yX3_needDivides cX3_needDivides 2 none 0 [.int a0, .int a1] μ (rTu x μ) := by
  refine Con.of (by decide) hl (Nat.le_of_ble_eq_true rfl) (fun Y C => ?_)
  replace C : Ok Y l E lvC 2 RX3 cX3_needDivides none 0 := C
  show V Y l E lvC 2 (rTu x μ) 0 [(0, .int a0), (1, .int a1)] [] μ
  unfold f_X3_needDivides at h
  refine V_iload_n C 0 dX3_needDivides_0 rfl 0 rfl ?_
  refine V_if_eq C (tgt := 10) dX3_needDivides_1 (by decide) (fun hc => ?_) (fun hc => ?_)
  · replace h := (if_pos hc).symm.trans h
    cases h
    exact V_throw C 2 th_RX3_12 rfl (Nat.le_of_ble_eq_true rfl) dX3_needDivides_10 dX3_needDivides_13 dX3_needDivides_14 dX3_needDivides_17
  · replace h := (if_neg hc).symm.trans h
    refine V_iload_n C 1 dX3_needDivides_4 rfl 1 rfl ?_
    refine V_iload_n C 0 dX3_needDivides_5 rfl 0 rfl ?_
    obtain ⟨hz9, h⟩ := gd_inv h
    refine V_irem C dX3_needDivides_6 (nz_ne hz9) ?_
    refine V_if_eq C (tgt := 18) dX3_needDivides_7 (by decide) (fun hc => ?_) (fun hc => ?_)
    · replace h := (if_pos hc).symm.trans h
      cases h
      exact V_return C rfl rfl dX3_needDivides_18
    · replace h := (if_neg hc).symm.trans h
      cases h
      exact V_throw C 2 th_RX3_12 rfl (Nat.le_of_ble_eq_true rfl) dX3_needDivides_10 dX3_needDivides_13 dX3_needDivides_14 dX3_needDivides_17
set_option maxHeartbeats 4000000 in
set_option maxRecDepth 100000 in
theorem con_J9_floorMod_7cf53 {l : Launch} {E : WE} (hl : l.stackTraces = false) (a0 : Int32) (a1 : Int32)  {μ : Mem} {x} (h : f_J9_floorMod_7cf53 a0 a1 μ = some x) : Con l E lvC yJ9_floorMod_7cf53 cJ9_floorMod_7cf53 3 (some .int) 0 [.int a0, .int a1] μ (rPi x μ) := by
  refine Con.ofF (by decide +kernel) hl (Nat.le_of_ble_eq_true rfl) (fun Y C => ?_)
  replace C : Ok Y l E lvC 3 RJ9 cJ9_floorMod_7cf53 (some .int) 0 := C
  show V Y l E lvC 3 (rPi x μ) 0 [(0, .int a0), (1, .int a1)] [] μ
  unfold f_J9_floorMod_7cf53 at h
  refine V_iload_n C 0 dJ9_floorMod_7cf53_0 rfl 0 rfl ?_
  refine V_iload_n C 1 dJ9_floorMod_7cf53_1 rfl 1 rfl ?_
  obtain ⟨hz9, h⟩ := gd_inv h
  refine V_irem C dJ9_floorMod_7cf53_2 (nz_ne hz9) ?_
  refine V_topi (fun x_1 hn9 => ?_)
  replace h := lt_eq hn9 h; clear hn9
  refine V_istore_n (L' := [(0, .int a0), (1, .int a1), (2, .int x_1)]) C 2 dJ9_floorMod_7cf53_3 rfl (by decide) [1, 2, 0] rfl ?_
  refine V_iload_n C 0 dJ9_floorMod_7cf53_4 rfl 0 rfl ?_
  refine V_iload_n C 1 dJ9_floorMod_7cf53_5 rfl 1 rfl ?_
  refine V_ixor C dJ9_floorMod_7cf53_6 ?_
  refine V_if_ge C (tgt := 18) dJ9_floorMod_7cf53_7 (by decide) (fun hc => ?_) (fun hc => ?_)
  · replace h := (if_pos hc).symm.trans h
    refine V_iload_n C 2 dJ9_floorMod_7cf53_18 rfl 2 rfl ?_
    cases h
    exact V_ireturn C rfl rfl rfl dJ9_floorMod_7cf53_19
  · replace h := (if_neg hc).symm.trans h
    refine V_iload_n C 2 dJ9_floorMod_7cf53_10 rfl 2 rfl ?_
    refine V_if_eq C (tgt := 18) dJ9_floorMod_7cf53_11 (by decide) (fun hc => ?_) (fun hc => ?_)
    · replace h := (if_pos hc).symm.trans h
      refine V_iload_n C 2 dJ9_floorMod_7cf53_18 rfl 2 rfl ?_
      cases h
      exact V_ireturn C rfl rfl rfl dJ9_floorMod_7cf53_19
    · replace h := (if_neg hc).symm.trans h
      refine V_iload_n C 2 dJ9_floorMod_7cf53_14 rfl 2 rfl ?_
      refine V_iload_n C 1 dJ9_floorMod_7cf53_15 rfl 1 rfl ?_
      refine V_iadd C dJ9_floorMod_7cf53_16 ?_
      cases h
      exact V_ireturn C rfl rfl rfl dJ9_floorMod_7cf53_17
set_option maxHeartbeats 4000000 in
set_option maxRecDepth 100000 in
theorem con_X3_work {l : Launch} {E : WE} (hl : l.stackTraces = false) (a0 : Int32) (a1 : Int32) (a2 : Int32)  {μ : Mem} {x} (h : f_X3_work a0 a1 a2 μ = some x) : Con l E lvC yX3_work cX3_work 3 (some .int) 1 [.int a0, .int a1, .int a2] μ (rTi x μ) := by
  refine Con.of (by decide) hl (Nat.le_of_ble_eq_true rfl) (fun Y C => ?_)
  replace C : Ok Y l E lvC 3 RX3 cX3_work (some .int) 1 := C
  show V Y l E lvC 3 (rTi x μ) 0 [(0, .int a0), (1, .int a1), (2, .int a2)] [] μ
  unfold f_X3_work at h
  refine V_iload_n C 0 dX3_work_0 rfl 0 rfl ?_
  by_cases hk0 : a0 = (37 : Int32)
  · replace h := (if_pos hk0).symm.trans h
    refine V_lookup C (110) 111 dX3_work_1 (by decide +kernel) (by rw [hk0]; decide +kernel) (by decide) ?_
    refine V_iload_n C 2 dX3_work_111 rfl 2 rfl ?_
    refine V_iload_n C 1 dX3_work_112 rfl 1 rfl ?_
    rcases bT_inv h with ⟨e_2, hv, h⟩ | ⟨u_1, hv, h⟩
    · cases h; exact V_callSe C e_2 (con_X3_needDivides hl a2 a1 hv) tb_X3_needDivides lk_RX3_21 (by decide) (by decide) rfl (Nat.le_of_ble_eq_true rfl) rfl dX3_work_113 rfl
    refine V_callSo C none (con_X3_needDivides hl a2 a1 hv) tb_X3_needDivides lk_RX3_21 (by decide) (by decide) rfl (Nat.le_of_ble_eq_true rfl) rfl dX3_work_113 rfl ?_
    clear hv
    refine V_iload_n C 1 dX3_work_116 rfl 1 rfl ?_
    refine V_i2l C dX3_work_117 ?_
    refine V_iload_n C 2 dX3_work_118 rfl 2 rfl ?_
    refine V_i2l C dX3_work_119 ?_
    obtain ⟨hz9, h⟩ := gd_inv h
    refine V_ldiv C dX3_work_120 (nzl_ne hz9) ?_
    rcases bT_inv h with ⟨e_4, hv, h⟩ | ⟨v_3, hv, h⟩
    · cases h; exact V_callSe C e_4 (con_X3_fit hl ((a1).toInt64 / (a2).toInt64) hv) tb_X3_fit lk_RX3_15 (by decide) (by decide) rfl (Nat.le_of_ble_eq_true rfl) rfl dX3_work_121 rfl
    refine V_callSo C (some (.int v_3)) (con_X3_fit hl ((a1).toInt64 / (a2).toInt64) hv) tb_X3_fit lk_RX3_15 (by decide) (by decide) rfl (Nat.le_of_ble_eq_true rfl) rfl dX3_work_121 rfl ?_
    clear hv
    cases h
    exact V_ireturn C rfl rfl rfl dX3_work_124
  replace h := (if_neg hk0).symm.trans h
  by_cases hk1 : a0 = (38 : Int32)
  · replace h := (if_pos hk1).symm.trans h
    refine V_lookup C (171) 172 dX3_work_1 (by decide +kernel) (by rw [hk1]; decide +kernel) (by decide) ?_
    refine V_iload_n C 1 dX3_work_172 rfl 1 rfl ?_
    refine V_iload_n C 2 dX3_work_173 rfl 2 rfl ?_
    refine V_mmin C lk_RX3_31 w_min1 w_math w_min2 (Nat.le_of_ble_eq_true rfl) dX3_work_174 ?_
    cases h
    exact V_ireturn C rfl rfl rfl dX3_work_177
  replace h := (if_neg hk1).symm.trans h
  by_cases hk2 : a0 = (42 : Int32)
  · replace h := (if_pos hk2).symm.trans h
    refine V_lookup C (101) 102 dX3_work_1 (by decide +kernel) (by rw [hk2]; decide +kernel) (by decide) ?_
    refine V_iload_n C 1 dX3_work_102 rfl 1 rfl ?_
    refine V_i2l C dX3_work_103 ?_
    refine V_iload_n C 2 dX3_work_104 rfl 2 rfl ?_
    refine V_i2l C dX3_work_105 ?_
    refine V_lmul C dX3_work_106 ?_
    rcases bT_inv h with ⟨e_6, hv, h⟩ | ⟨v_5, hv, h⟩
    · cases h; exact V_callSe C e_6 (con_X3_fit hl ((a1).toInt64 * (a2).toInt64) hv) tb_X3_fit lk_RX3_15 (by decide) (by decide) rfl (Nat.le_of_ble_eq_true rfl) rfl dX3_work_107 rfl
    refine V_callSo C (some (.int v_5)) (con_X3_fit hl ((a1).toInt64 * (a2).toInt64) hv) tb_X3_fit lk_RX3_15 (by decide) (by decide) rfl (Nat.le_of_ble_eq_true rfl) rfl dX3_work_107 rfl ?_
    clear hv
    cases h
    exact V_ireturn C rfl rfl rfl dX3_work_110
  replace h := (if_neg hk2).symm.trans h
  by_cases hk3 : a0 = (43 : Int32)
  · replace h := (if_pos hk3).symm.trans h
    refine V_lookup C (83) 84 dX3_work_1 (by decide +kernel) (by rw [hk3]; decide +kernel) (by decide) ?_
    refine V_iload_n C 1 dX3_work_84 rfl 1 rfl ?_
    refine V_i2l C dX3_work_85 ?_
    refine V_iload_n C 2 dX3_work_86 rfl 2 rfl ?_
    refine V_i2l C dX3_work_87 ?_
    refine V_ladd C dX3_work_88 ?_
    rcases bT_inv h with ⟨e_8, hv, h⟩ | ⟨v_7, hv, h⟩
    · cases h; exact V_callSe C e_8 (con_X3_fit hl ((a1).toInt64 + (a2).toInt64) hv) tb_X3_fit lk_RX3_15 (by decide) (by decide) rfl (Nat.le_of_ble_eq_true rfl) rfl dX3_work_89 rfl
    refine V_callSo C (some (.int v_7)) (con_X3_fit hl ((a1).toInt64 + (a2).toInt64) hv) tb_X3_fit lk_RX3_15 (by decide) (by decide) rfl (Nat.le_of_ble_eq_true rfl) rfl dX3_work_89 rfl ?_
    clear hv
    cases h
    exact V_ireturn C rfl rfl rfl dX3_work_92
  replace h := (if_neg hk3).symm.trans h
  by_cases hk4 : a0 = (45 : Int32)
  · replace h := (if_pos hk4).symm.trans h
    refine V_lookup C (92) 93 dX3_work_1 (by decide +kernel) (by rw [hk4]; decide +kernel) (by decide) ?_
    refine V_iload_n C 1 dX3_work_93 rfl 1 rfl ?_
    refine V_i2l C dX3_work_94 ?_
    refine V_iload_n C 2 dX3_work_95 rfl 2 rfl ?_
    refine V_i2l C dX3_work_96 ?_
    refine V_lsub C dX3_work_97 ?_
    rcases bT_inv h with ⟨e_10, hv, h⟩ | ⟨v_9, hv, h⟩
    · cases h; exact V_callSe C e_10 (con_X3_fit hl ((a1).toInt64 - (a2).toInt64) hv) tb_X3_fit lk_RX3_15 (by decide) (by decide) rfl (Nat.le_of_ble_eq_true rfl) rfl dX3_work_98 rfl
    refine V_callSo C (some (.int v_9)) (con_X3_fit hl ((a1).toInt64 - (a2).toInt64) hv) tb_X3_fit lk_RX3_15 (by decide) (by decide) rfl (Nat.le_of_ble_eq_true rfl) rfl dX3_work_98 rfl ?_
    clear hv
    cases h
    exact V_ireturn C rfl rfl rfl dX3_work_101
  replace h := (if_neg hk4).symm.trans h
  by_cases hk5 : a0 = (60 : Int32)
  · replace h := (if_pos hk5).symm.trans h
    refine V_lookup C (138) 139 dX3_work_1 (by decide +kernel) (by rw [hk5]; decide +kernel) (by decide) ?_
    refine V_iload_n C 1 dX3_work_139 rfl 1 rfl ?_
    refine V_iload_n C 2 dX3_work_140 rfl 2 rfl ?_
    refine V_icmp_ge C (tgt := 148) dX3_work_141 (by decide) (fun hc => ?_) (fun hc => ?_)
    · replace h := (if_pos hc).symm.trans h
      refine V_iconst C (0 : Int32) dX3_work_148 (by decide) ?_
      cases h
      exact V_ireturn C rfl rfl rfl dX3_work_149
    · replace h := (if_neg hc).symm.trans h
      refine V_iconst C (1 : Int32) dX3_work_144 (by decide) ?_
      refine V_goto C (tgt := 149) dX3_work_145 (by decide) ?_
      cases h
      exact V_ireturn C rfl rfl rfl dX3_work_149
  replace h := (if_neg hk5).symm.trans h
  by_cases hk6 : a0 = (61 : Int32)
  · replace h := (if_pos hk6).symm.trans h
    refine V_lookup C (160) 161 dX3_work_1 (by decide +kernel) (by rw [hk6]; decide +kernel) (by decide) ?_
    refine V_iload_n C 1 dX3_work_161 rfl 1 rfl ?_
    refine V_iload_n C 2 dX3_work_162 rfl 2 rfl ?_
    refine V_icmp_ne C (tgt := 170) dX3_work_163 (by decide) (fun hc => ?_) (fun hc => ?_)
    · replace h := (if_neg hc).symm.trans h
      refine V_iconst C (0 : Int32) dX3_work_170 (by decide) ?_
      cases h
      exact V_ireturn C rfl rfl rfl dX3_work_171
    · replace h := (if_pos hc).symm.trans h
      refine V_iconst C (1 : Int32) dX3_work_166 (by decide) ?_
      refine V_goto C (tgt := 171) dX3_work_167 (by decide) ?_
      cases h
      exact V_ireturn C rfl rfl rfl dX3_work_171
  replace h := (if_neg hk6).symm.trans h
  by_cases hk7 : a0 = (62 : Int32)
  · replace h := (if_pos hk7).symm.trans h
    refine V_lookup C (149) 150 dX3_work_1 (by decide +kernel) (by rw [hk7]; decide +kernel) (by decide) ?_
    refine V_iload_n C 1 dX3_work_150 rfl 1 rfl ?_
    refine V_iload_n C 2 dX3_work_151 rfl 2 rfl ?_
    refine V_icmp_le C (tgt := 159) dX3_work_152 (by decide) (fun hc => ?_) (fun hc => ?_)
    · replace h := (if_pos hc).symm.trans h
      refine V_iconst C (0 : Int32) dX3_work_159 (by decide) ?_
      cases h
      exact V_ireturn C rfl rfl rfl dX3_work_160
    · replace h := (if_neg hc).symm.trans h
      refine V_iconst C (1 : Int32) dX3_work_155 (by decide) ?_
      refine V_goto C (tgt := 160) dX3_work_156 (by decide) ?_
      cases h
      exact V_ireturn C rfl rfl rfl dX3_work_160
  replace h := (if_neg hk7).symm.trans h
  by_cases hk8 : a0 = (124 : Int32)
  · replace h := (if_pos hk8).symm.trans h
    refine V_lookup C (124) 125 dX3_work_1 (by decide +kernel) (by rw [hk8]; decide +kernel) (by decide) ?_
    refine V_iload_n C 1 dX3_work_125 rfl 1 rfl ?_
    refine V_if_ne C (tgt := 133) dX3_work_126 (by decide) (fun hc => ?_) (fun hc => ?_)
    · replace h := (if_neg hc).symm.trans h
      refine V_iload_n C 2 dX3_work_133 rfl 2 rfl ?_
      refine V_iload_n C 1 dX3_work_134 rfl 1 rfl ?_
      obtain ⟨v_11, hv, h⟩ := bP_inv h
      refine V_callSo C (some (.int v_11)) (con_J9_floorMod_7cf53 hl a2 a1 hv) tb_J9_floorMod_7cf53 lk_RX3_25 (by decide) (by decide) rfl (Nat.le_of_ble_eq_true rfl) rfl dX3_work_135 rfl ?_
      clear hv
      cases h
      exact V_ireturn C rfl rfl rfl dX3_work_138
    · replace h := (if_pos hc).symm.trans h
      refine V_iload_n C 2 dX3_work_129 rfl 2 rfl ?_
      refine V_goto C (tgt := 138) dX3_work_130 (by decide) ?_
      cases h
      exact V_ireturn C rfl rfl rfl dX3_work_138
  replace h := (if_neg hk8).symm.trans h
  refine V_lookup C (177) 178 dX3_work_1 (by decide +kernel) ((lv_osw hk0 (by decide +kernel)).trans ((lv_osw hk1 (by decide +kernel)).trans ((lv_osw hk2 (by decide +kernel)).trans ((lv_osw hk3 (by decide +kernel)).trans ((lv_osw hk4 (by decide +kernel)).trans ((lv_osw hk5 (by decide +kernel)).trans ((lv_osw hk6 (by decide +kernel)).trans ((lv_osw hk7 (by decide +kernel)).trans ((lv_osw hk8 (by decide +kernel)).trans rfl))))))))) (by decide) ?_
  refine V_iload_n C 1 dX3_work_178 rfl 1 rfl ?_
  refine V_iload_n C 2 dX3_work_179 rfl 2 rfl ?_
  refine V_mmax C lk_RX3_34 w_max1 w_math w_max2 (Nat.le_of_ble_eq_true rfl) dX3_work_180 ?_
  cases h
  exact V_ireturn C rfl rfl rfl dX3_work_183
set_option maxHeartbeats 4000000 in
set_option maxRecDepth 100000 in
theorem lp_X3_fold_23 {Y : Mc} {l : Launch} {E : WE} (hl : l.stackTraces = false) (C : Ok Y l E lvC 6 RX3 cX3_fold (some .int) 2) {κ : Int32 → Option (Except Nat Int32)} (c0_3 : Int32) (k_4 : Nat) (i_5 : Nat) (c2_6 : Int32) (μ_9 : Mem) (hmk_4 : (k_4, i_5) ∈ lvC) (hck_4 : ∀ f : Nat → Int32, celk E k_4 i_5 f = .inl (E.2.2.1 0, 48, .inl f)) (hκ : ∀ (a4_13 : Int32) x, κ a4_13 = some x → V Y l E lvC 6 (rTi x μ_9) 48 [(4, .int a4_13)] [] μ_9) : ∀ (n : Nat) (a4_7 : Int32) (a5_8 : Int32) {x}, f_X3_fold_L23 κ c0_3 k_4 i_5 c2_6 μ_9 n a4_7 a5_8 = some x → V Y l E lvC 6 (rTi x μ_9) 23 [(0, .int c0_3), (1, .ref (E.1 k_4 i_5)), (2, .int c2_6), (4, .int a4_7), (5, .int a5_8)] [] μ_9 := by
  intro n
  induction n with
  | zero =>
    intro a4_7 a5_8 x h
    simp [f_X3_fold_L23] at h
  | succ n ih =>
    intro a4_7 a5_8 x h
    rw [f_X3_fold_L23] at h
    refine V_iload C dX3_fold_23 4 rfl ?_
    refine V_if_lt C (tgt := 48) dX3_fold_25 (by decide) (fun hc => ?_) (fun hc => ?_)
    · replace h := (if_pos hc).symm.trans h
      refine V_sub (LP := [(4, .int a4_7)]) [3] rfl ?_
      exact hκ _ _ h
    · replace h := (if_neg hc).symm.trans h
      refine V_iload_n C 0 dX3_fold_28 rfl 0 rfl ?_
      refine V_aload_n C 1 dX3_fold_29 rfl 1 rfl ?_
      refine V_iload_n C 2 dX3_fold_30 rfl 2 rfl ?_
      refine V_iload C dX3_fold_31 4 rfl ?_
      refine V_iadd C dX3_fold_33 ?_
      obtain ⟨hi9, h⟩ := gd_inv h
      refine V_iald C k_4 i_5 hmk_4 hck_4 (inb_in hi9) dX3_fold_34 ?_
      refine V_iload C dX3_fold_35 3 rfl ?_
      rcases bT_inv h with ⟨e_11, hv, h⟩ | ⟨v_10, hv, h⟩
      · cases h; exact V_callSe C e_11 (con_X3_work hl c0_3 (μ_9 k_4 i_5 ((c2_6 + a5_8)).toNatClampNeg) a4_7 hv) tb_X3_work lk_RX3_41 (by decide) (by decide) rfl (Nat.le_of_ble_eq_true rfl) rfl dX3_fold_37 rfl
      refine V_callSo C (some (.int v_10)) (con_X3_work hl c0_3 (μ_9 k_4 i_5 ((c2_6 + a5_8)).toNatClampNeg) a4_7 hv) tb_X3_work lk_RX3_41 (by decide) (by decide) rfl (Nat.le_of_ble_eq_true rfl) rfl dX3_fold_37 rfl ?_
      clear hv
      refine V_istore (L' := [(0, .int c0_3), (1, .ref (E.1 k_4 i_5)), (2, .int c2_6), (4, .int v_10), (5, .int a5_8)]) C dX3_fold_40 (by decide) [1, 2, 3, 0, 4] rfl ?_
      obtain ⟨x_12, hn9⟩ : ∃ z : Int32, z = a5_8 + (-1 : Int32) := ⟨_, rfl⟩
      replace h := lt_eq hn9 h
      refine V_iinc (L' := [(0, .int c0_3), (1, .ref (E.1 k_4 i_5)), (2, .int c2_6), (4, .int v_10), (5, .int x_12)]) C x_12 dX3_fold_42 4 rfl (by rw [hn9]; exact congrArg (a5_8 + ·) (by decide)) (by decide) [1, 2, 3, 4, 0] rfl ?_
      clear hn9
      refine V_goto C (tgt := 23) dX3_fold_45 (by decide) ?_
      refine V_sub (LP := [(0, .int c0_3), (1, .ref (E.1 k_4 i_5)), (2, .int c2_6), (4, .int v_10), (5, .int x_12)]) [0, 1, 2, 3, 4] rfl ?_
      exact ih _ _ h
set_option maxHeartbeats 4000000 in
set_option maxRecDepth 100000 in
theorem con_X3_fold {l : Launch} {E : WE} (hl : l.stackTraces = false) (a0 : Int32) (k1 : Nat) (i1 : Nat) (a2 : Int32) (a3 : Int32) (hm1 : (k1, i1) ∈ lvC) (hc1 : ∀ f : Nat → Int32, celk E k1 i1 f = .inl (E.2.2.1 0, 48, .inl f)) {μ : Mem} {x} (h : f_X3_fold a0 k1 i1 a2 a3 μ = some x) : Con l E lvC yX3_fold cX3_fold 6 (some .int) 2 [.int a0, .ref (E.1 k1 i1), .int a2, .int a3] μ (rTi x μ) := by
  refine Con.of (by decide) hl (Nat.le_of_ble_eq_true rfl) (fun Y C => ?_)
  replace C : Ok Y l E lvC 6 RX3 cX3_fold (some .int) 2 := C
  show V Y l E lvC 6 (rTi x μ) 0 [(0, .int a0), (1, .ref (E.1 k1 i1)), (2, .int a2), (3, .int a3)] [] μ
  unfold f_X3_fold at h
  refine V_iload_n C 3 dX3_fold_0 rfl 3 rfl ?_
  refine V_if_ne C (tgt := 9) dX3_fold_1 (by decide) (fun hc => ?_) (fun hc => ?_)
  · replace h := (if_neg hc).symm.trans h
    refine V_aload_n C 1 dX3_fold_9 rfl 1 rfl ?_
    refine V_iload_n C 2 dX3_fold_10 rfl 2 rfl ?_
    refine V_iload_n C 3 dX3_fold_11 rfl 3 rfl ?_
    refine V_iadd C dX3_fold_12 ?_
    refine V_iconst C (1 : Int32) dX3_fold_13 (by decide) ?_
    refine V_isub C dX3_fold_14 ?_
    obtain ⟨hi9, h⟩ := gd_inv h
    refine V_iald C k1 i1 hm1 hc1 (inb_in hi9) dX3_fold_15 ?_
    refine V_topi (fun x_1 hn9 => ?_)
    replace h := lt_eq hn9 h; clear hn9
    refine V_istore (L' := [(0, .int a0), (1, .ref (E.1 k1 i1)), (2, .int a2), (3, .int a3), (4, .int x_1)]) C dX3_fold_16 (by decide) [1, 2, 3, 4, 0] rfl ?_
    refine V_iload_n C 3 dX3_fold_18 rfl 3 rfl ?_
    refine V_iconst C (2 : Int32) dX3_fold_19 (by decide) ?_
    refine V_isub C dX3_fold_20 ?_
    refine V_topi (fun x_2 hn9 => ?_)
    replace h := lt_eq hn9 h; clear hn9
    refine V_istore (L' := [(0, .int a0), (1, .ref (E.1 k1 i1)), (2, .int a2), (3, .int a3), (4, .int x_1), (5, .int x_2)]) C dX3_fold_21 (by decide) [1, 2, 3, 4, 5, 0] rfl ?_
    refine V_sub (LP := [(0, .int a0), (1, .ref (E.1 k1 i1)), (2, .int a2), (4, .int x_1), (5, .int x_2)]) [0, 1, 2, 4, 5] rfl ?_
    refine lp_X3_fold_23 hl C a0 k1 i1 a2 μ hm1 hc1 (fun a4_14 x h => ?_) 1000 _ _ h
    refine V_iload C dX3_fold_48 0 rfl ?_
    cases h
    exact V_ireturn C rfl rfl rfl dX3_fold_50
  · replace h := (if_pos hc).symm.trans h
    refine V_iload_n C 0 dX3_fold_4 rfl 0 rfl ?_
    rcases bT_inv h with ⟨e_16, hv, h⟩ | ⟨v_15, hv, h⟩
    · cases h; exact V_callSe C e_16 (con_X3_ofNothing hl a0 hv) tb_X3_ofNothing lk_RX3_37 (by decide) (by decide) rfl (Nat.le_of_ble_eq_true rfl) rfl dX3_fold_5 rfl
    refine V_callSo C (some (.int v_15)) (con_X3_ofNothing hl a0 hv) tb_X3_ofNothing lk_RX3_37 (by decide) (by decide) rfl (Nat.le_of_ble_eq_true rfl) rfl dX3_fold_5 rfl ?_
    clear hv
    cases h
    exact V_ireturn C rfl rfl rfl dX3_fold_8
set_option maxHeartbeats 4000000 in
set_option maxRecDepth 100000 in
theorem lp_X3_reduce_24 {Y : Mc} {l : Launch} {E : WE} (hl : l.stackTraces = false) (C : Ok Y l E lvC 5 RX3 cX3_reduce none 3) {κ : Mem → Option (Except Nat Unit × Mem)} (c0_7 : Int32) (g_8 : Nat) (g_9 : Nat) (c3_10 : Int32) (hg_8 : g_8 < 18) (hg_9 : g_9 < 18) (hκ : ∀  (μ_17 : Mem) x, κ  μ_17 = some x → V Y l E lvC 5 (rBu x) 59 [] [] μ_17) : ∀ (n : Nat) (a4_11 : Int32) (μ_12 : Mem) {x}, f_X3_reduce_L24 κ c0_7 g_8 g_9 c3_10 n a4_11 μ_12 = some x → V Y l E lvC 5 (rBu x) 24 [(0, .int c0_7), (1, .ref (E.1 20 g_8)), (2, .ref (E.1 20 g_9)), (3, .int c3_10), (4, .int a4_11)] [] μ_12 := by
  intro n
  induction n with
  | zero =>
    intro a4_11 μ_12 x h
    simp [f_X3_reduce_L24] at h
  | succ n ih =>
    intro a4_11 μ_12 x h
    rw [f_X3_reduce_L24] at h
    refine V_iload C dX3_reduce_24 4 rfl ?_
    refine V_aload_n C 2 dX3_reduce_26 rfl 2 rfl ?_
    refine V_getf (v := .int (μ_12 20 g_9 3)) C 20 g_9 (gr_0in g_9 hg_9) fl_RX3_51 rfl rfl dX3_reduce_27 ?_
    refine V_icmp_ge C (tgt := 59) dX3_reduce_30 (by decide) (fun hc => ?_) (fun hc => ?_)
    · replace h := (if_pos hc).symm.trans h
      refine V_sub (LP := []) [] rfl ?_
      exact hκ _ _ h
    · replace h := (if_neg hc).symm.trans h
      refine V_aload_n C 2 dX3_reduce_33 rfl 2 rfl ?_
      refine V_getf (v := .ref (E.1 22 g_9)) C 20 g_9 (gr_0in g_9 hg_9) fl_RX3_55 rfl rfl dX3_reduce_34 ?_
      refine V_iload C dX3_reduce_37 4 rfl ?_
      refine V_iload_n C 0 dX3_reduce_39 rfl 0 rfl ?_
      refine V_aload_n C 1 dX3_reduce_40 rfl 1 rfl ?_
      refine V_getf (v := .ref (E.1 22 g_8)) C 20 g_8 (gr_0in g_8 hg_8) fl_RX3_55 rfl rfl dX3_reduce_41 ?_
      refine V_iload C dX3_reduce_44 4 rfl ?_
      refine V_iload_n C 3 dX3_reduce_46 rfl 3 rfl ?_
      refine V_imul C dX3_reduce_47 ?_
      refine V_iload_n C 3 dX3_reduce_48 rfl 3 rfl ?_
      rcases bT_inv h with ⟨e_14, hv, h⟩ | ⟨v_13, hv, h⟩
      · cases h; exact V_callSe C e_14 (con_X3_fold hl c0_7 22 g_8 (a4_11 * c3_10) c3_10 (gr_2in g_8 hg_8) (fun _ => rfl) hv) tb_X3_fold lk_RX3_98 (by decide) (by decide) rfl (Nat.le_of_ble_eq_true rfl) rfl dX3_reduce_49 rfl
      refine V_callSo C (some (.int v_13)) (con_X3_fold hl c0_7 22 g_8 (a4_11 * c3_10) c3_10 (gr_2in g_8 hg_8) (fun _ => rfl) hv) tb_X3_fold lk_RX3_98 (by decide) (by decide) rfl (Nat.le_of_ble_eq_true rfl) rfl dX3_reduce_49 rfl ?_
      clear hv
      obtain ⟨hi9, h⟩ := gd_inv h
      refine V_iast C 22 g_9 (gr_2in g_9 hg_9) (fun _ => rfl) (inb_in hi9) dX3_reduce_52 ?_
      refine V_memn (fun μ_15 hn9 => ?_)
      replace h := lt_eq hn9 h; clear hn9
      obtain ⟨x_16, hn9⟩ : ∃ z : Int32, z = a4_11 + (1 : Int32) := ⟨_, rfl⟩
      replace h := lt_eq hn9 h
      refine V_iinc (L' := [(0, .int c0_7), (1, .ref (E.1 20 g_8)), (2, .ref (E.1 20 g_9)), (3, .int c3_10), (4, .int x_16)]) C x_16 dX3_reduce_53 4 rfl (by rw [hn9]; exact congrArg (a4_11 + ·) (by decide)) (by decide) [1, 2, 3, 4, 0] rfl ?_
      clear hn9
      refine V_goto C (tgt := 24) dX3_reduce_56 (by decide) ?_
      refine V_sub (LP := [(0, .int c0_7), (1, .ref (E.1 20 g_8)), (2, .ref (E.1 20 g_9)), (3, .int c3_10), (4, .int x_16)]) [0, 1, 2, 3, 4] rfl ?_
      exact ih _ _ h
set_option maxHeartbeats 4000000 in
set_option maxRecDepth 100000 in
theorem con_X3_reduce {l : Launch} {E : WE} (hl : l.stackTraces = false) (a0 : Int32) (g1 : Nat) (g2 : Nat) (hg1 : g1 < 18) (hg2 : g2 < 18) {μ : Mem} {x} (h : f_X3_reduce a0 g1 g2 μ = some x) : Con l E lvC yX3_reduce cX3_reduce 5 none 3 [.int a0, .ref (E.1 20 g1), .ref (E.1 20 g2)] μ (rBu x) := by
  refine Con.of (by decide) hl (Nat.le_of_ble_eq_true rfl) (fun Y C => ?_)
  replace C : Ok Y l E lvC 5 RX3 cX3_reduce none 3 := C
  show V Y l E lvC 5 (rBu x) 0 [(0, .int a0), (1, .ref (E.1 20 g1)), (2, .ref (E.1 20 g2))] [] μ
  unfold f_X3_reduce at h
  refine V_aload_n C 1 dX3_reduce_0 rfl 1 rfl ?_
  obtain ⟨v_1, hv, h⟩ := bP_inv h
  refine V_callVo C 20 g1 (gr_0in g1 hg1) (some (.int v_1)) (con_X1_rowLength hl g1 hg1 hv) tb_X1_rowLength lk_RX3_87 rfl rfl rfl (by decide) (by decide) rfl (Nat.le_of_ble_eq_true rfl) rfl dX3_reduce_1 rfl ?_
  clear hv
  refine V_istore_n (L' := [(0, .int a0), (1, .ref (E.1 20 g1)), (2, .ref (E.1 20 g2)), (3, .int v_1)]) C 3 dX3_reduce_4 rfl (by decide) [1, 2, 3, 0] rfl ?_
  refine V_aload_n C 2 dX3_reduce_5 rfl 2 rfl ?_
  refine V_aload_n C 1 dX3_reduce_6 rfl 1 rfl ?_
  refine V_iconst C (0 : Int32) dX3_reduce_7 (by decide) ?_
  refine V_aload_n C 1 dX3_reduce_8 rfl 1 rfl ?_
  refine V_getf (v := .int (μ 20 g1 2)) C 20 g1 (gr_0in g1 hg1) fl_RX3_75 rfl rfl dX3_reduce_9 ?_
  refine V_iconst C (1 : Int32) dX3_reduce_12 (by decide) ?_
  refine V_isub C dX3_reduce_13 ?_
  rcases bB_inv h with ⟨e_4, μ_3, hv, h⟩ | ⟨u_2, μ_3, hv, h⟩
  · cases h; exact V_callVe C 20 g2 (gr_0in g2 hg2) e_4 (con_X1_addAxesOf hl g2 g1 (0 : Int32) ((μ 20 g1 2) - (1 : Int32)) hg2 hg1 hv) tb_X1_addAxesOf lk_RX3_91 rfl rfl rfl (by decide) (by decide) rfl (Nat.le_of_ble_eq_true rfl) rfl dX3_reduce_14 rfl
  refine V_callVo C 20 g2 (gr_0in g2 hg2) none (con_X1_addAxesOf hl g2 g1 (0 : Int32) ((μ 20 g1 2) - (1 : Int32)) hg2 hg1 hv) tb_X1_addAxesOf lk_RX3_91 rfl rfl rfl (by decide) (by decide) rfl (Nat.le_of_ble_eq_true rfl) rfl dX3_reduce_14 rfl ?_
  clear hv
  refine V_aload_n C 2 dX3_reduce_17 rfl 2 rfl ?_
  rcases bT_inv h with ⟨e_6, hv, h⟩ | ⟨u_5, hv, h⟩
  · cases h; exact V_callVe C 20 g2 (gr_0in g2 hg2) e_6 (con_X1_endAxes hl g2 hg2 hv) tb_X1_endAxes lk_RX3_95 rfl rfl rfl (by decide) (by decide) rfl (Nat.le_of_ble_eq_true rfl) rfl dX3_reduce_18 rfl
  refine V_callVo C 20 g2 (gr_0in g2 hg2) none (con_X1_endAxes hl g2 hg2 hv) tb_X1_endAxes lk_RX3_95 rfl rfl rfl (by decide) (by decide) rfl (Nat.le_of_ble_eq_true rfl) rfl dX3_reduce_18 rfl ?_
  clear hv
  refine V_iconst C (0 : Int32) dX3_reduce_21 (by decide) ?_
  refine V_istore (L' := [(0, .int a0), (1, .ref (E.1 20 g1)), (2, .ref (E.1 20 g2)), (3, .int v_1), (4, .int (0 : Int32))]) C dX3_reduce_22 (by decide) [1, 2, 3, 4, 0] rfl ?_
  refine V_sub (LP := [(0, .int a0), (1, .ref (E.1 20 g1)), (2, .ref (E.1 20 g2)), (3, .int v_1), (4, .int (0 : Int32))]) [0, 1, 2, 3, 4] rfl ?_
  refine lp_X3_reduce_24 hl C a0 g1 g2 v_1 hg1 hg2 (fun μ_18 x h => ?_) 1000 _ _ h
  cases h
  exact V_return C rfl rfl dX3_reduce_59
set_option maxHeartbeats 4000000 in
set_option maxRecDepth 100000 in
theorem con_X1_shapeLike {l : Launch} {E : WE} (hl : l.stackTraces = false) (g0 : Nat) (g1 : Nat) (hg0 : g0 < 18) (hg1 : g1 < 18) {μ : Mem} {x} (h : f_X1_shapeLike g0 g1 μ = some x) : Con l E lvC yX1_shapeLike cX1_shapeLike 2 none 2 [.ref (E.1 20 g0), .ref (E.1 20 g1)] μ (rBu x) := by
  refine Con.of (by decide) hl (Nat.le_of_ble_eq_true rfl) (fun Y C => ?_)
  replace C : Ok Y l E lvC 2 RX1 cX1_shapeLike none 2 := C
  show V Y l E lvC 2 (rBu x) 0 [(0, .ref (E.1 20 g0)), (1, .ref (E.1 20 g1))] [] μ
  unfold f_X1_shapeLike at h
  refine V_aload_n C 0 dX1_shapeLike_0 rfl 0 rfl ?_
  obtain ⟨u_1, μ_2, hv, h⟩ := bW_inv h
  refine V_callVo C 20 g0 (gr_0in g0 hg0) none (con_X1_restart hl g0 hg0 hv) tb_X1_restart lk_RX1_32 rfl rfl rfl (by decide) (by decide) rfl (Nat.le_of_ble_eq_true rfl) rfl dX1_shapeLike_1 rfl ?_
  clear hv
  refine V_aload_n C 0 dX1_shapeLike_4 rfl 0 rfl ?_
  refine V_aload_n C 1 dX1_shapeLike_5 rfl 1 rfl ?_
  refine V_iconst C (0 : Int32) dX1_shapeLike_6 (by decide) ?_
  refine V_aload_n C 1 dX1_shapeLike_7 rfl 1 rfl ?_
  refine V_getf (v := .int (μ_2 20 g1 2)) C 20 g1 (gr_0in g1 hg1) fl_RX1_18 rfl rfl dX1_shapeLike_8 ?_
  rcases bB_inv h with ⟨e_5, μ_4, hv, h⟩ | ⟨u_3, μ_4, hv, h⟩
  · cases h; exact V_callVe C 20 g0 (gr_0in g0 hg0) e_5 (con_X1_addAxesOf hl g0 g1 (0 : Int32) (μ_2 20 g1 2) hg0 hg1 hv) tb_X1_addAxesOf lk_RX1_35 rfl rfl rfl (by decide) (by decide) rfl (Nat.le_of_ble_eq_true rfl) rfl dX1_shapeLike_11 rfl
  refine V_callVo C 20 g0 (gr_0in g0 hg0) none (con_X1_addAxesOf hl g0 g1 (0 : Int32) (μ_2 20 g1 2) hg0 hg1 hv) tb_X1_addAxesOf lk_RX1_35 rfl rfl rfl (by decide) (by decide) rfl (Nat.le_of_ble_eq_true rfl) rfl dX1_shapeLike_11 rfl ?_
  clear hv
  cases h
  exact V_return C rfl rfl dX1_shapeLike_14
set_option maxHeartbeats 4000000 in
set_option maxRecDepth 100000 in
theorem lp_X3_scan_16 {Y : Mc} {l : Launch} {E : WE} (hl : l.stackTraces = false) (C : Ok Y l E lvC 6 RX3 cX3_scan none 3) {κ : Mem → Option (Except Nat Unit × Mem)} (c0_5 : Int32) (g_6 : Nat) (g_7 : Nat) (c3_8 : Int32) (hg_6 : g_6 < 18) (hg_7 : g_7 < 18) (hκ : ∀  (μ_18 : Mem) x, κ  μ_18 = some x → V Y l E lvC 6 (rBu x) 68 [] [] μ_18) : ∀ (n : Nat) (a4_9 : Int32) (a5_10 : Int32) (μ_11 : Mem) {x}, f_X3_scan_L16 κ c0_5 g_6 g_7 c3_8 n a4_9 a5_10 μ_11 = some x → V Y l E lvC 6 (rBu x) 16 [(0, .int c0_5), (1, .ref (E.1 20 g_6)), (2, .ref (E.1 20 g_7)), (3, .int c3_8), (4, .int a4_9), (5, .int a5_10)] [] μ_11 := by
  intro n
  induction n with
  | zero =>
    intro a4_9 a5_10 μ_11 x h
    simp [f_X3_scan_L16] at h
  | succ n ih =>
    intro a4_9 a5_10 μ_11 x h
    rw [f_X3_scan_L16] at h
    refine V_iload C dX3_scan_16 5 rfl ?_
    refine V_aload_n C 2 dX3_scan_18 rfl 2 rfl ?_
    refine V_getf (v := .int (μ_11 20 g_7 3)) C 20 g_7 (gr_0in g_7 hg_7) fl_RX3_51 rfl rfl dX3_scan_19 ?_
    refine V_icmp_ge C (tgt := 68) dX3_scan_22 (by decide) (fun hc => ?_) (fun hc => ?_)
    · replace h := (if_pos hc).symm.trans h
      refine V_sub (LP := []) [] rfl ?_
      exact hκ _ _ h
    · replace h := (if_neg hc).symm.trans h
      refine V_iload C dX3_scan_25 5 rfl ?_
      refine V_iload C dX3_scan_27 4 rfl ?_
      refine V_iload_n C 3 dX3_scan_29 rfl 3 rfl ?_
      refine V_iadd C dX3_scan_30 ?_
      obtain ⟨j_13, hj_13, h⟩ := jn_ex h
      have J_13 : ∀ (a4_12 : Int32) x, j_13 a4_12 = some x → V Y l E lvC 6 (rBu x) 38 [(0, .int c0_5), (1, .ref (E.1 20 g_6)), (2, .ref (E.1 20 g_7)), (3, .int c3_8), (4, .int a4_12), (5, .int a5_10)] [] μ_11 := by
        intro a4_12  x h
        rw [hj_13] at h; clear hj_13
        refine V_aload_n C 2 dX3_scan_38 rfl 2 rfl ?_
        refine V_getf (v := .ref (E.1 22 g_7)) C 20 g_7 (gr_0in g_7 hg_7) fl_RX3_55 rfl rfl dX3_scan_39 ?_
        refine V_iload C dX3_scan_42 5 rfl ?_
        refine V_iload_n C 0 dX3_scan_44 rfl 0 rfl ?_
        refine V_aload_n C 1 dX3_scan_45 rfl 1 rfl ?_
        refine V_getf (v := .ref (E.1 22 g_6)) C 20 g_6 (gr_0in g_6 hg_6) fl_RX3_55 rfl rfl dX3_scan_46 ?_
        refine V_iload C dX3_scan_49 4 rfl ?_
        refine V_iload C dX3_scan_51 5 rfl ?_
        refine V_iload C dX3_scan_53 4 rfl ?_
        refine V_isub C dX3_scan_55 ?_
        refine V_iconst C (1 : Int32) dX3_scan_56 (by decide) ?_
        refine V_iadd C dX3_scan_57 ?_
        rcases bT_inv h with ⟨e_15, hv, h⟩ | ⟨v_14, hv, h⟩
        · cases h; exact V_callSe C e_15 (con_X3_fold hl c0_5 22 g_6 a4_12 ((a5_10 - a4_12) + (1 : Int32)) (gr_2in g_6 hg_6) (fun _ => rfl) hv) tb_X3_fold lk_RX3_98 (by decide) (by decide) rfl (Nat.le_of_ble_eq_true rfl) rfl dX3_scan_58 rfl
        refine V_callSo C (some (.int v_14)) (con_X3_fold hl c0_5 22 g_6 a4_12 ((a5_10 - a4_12) + (1 : Int32)) (gr_2in g_6 hg_6) (fun _ => rfl) hv) tb_X3_fold lk_RX3_98 (by decide) (by decide) rfl (Nat.le_of_ble_eq_true rfl) rfl dX3_scan_58 rfl ?_
        clear hv
        obtain ⟨hi9, h⟩ := gd_inv h
        refine V_iast C 22 g_7 (gr_2in g_7 hg_7) (fun _ => rfl) (inb_in hi9) dX3_scan_61 ?_
        refine V_memn (fun μ_16 hn9 => ?_)
        replace h := lt_eq hn9 h; clear hn9
        obtain ⟨x_17, hn9⟩ : ∃ z : Int32, z = a5_10 + (1 : Int32) := ⟨_, rfl⟩
        replace h := lt_eq hn9 h
        refine V_iinc (L' := [(0, .int c0_5), (1, .ref (E.1 20 g_6)), (2, .ref (E.1 20 g_7)), (3, .int c3_8), (4, .int a4_12), (5, .int x_17)]) C x_17 dX3_scan_62 5 rfl (by rw [hn9]; exact congrArg (a5_10 + ·) (by decide)) (by decide) [1, 2, 3, 4, 5, 0] rfl ?_
        clear hn9
        refine V_goto C (tgt := 16) dX3_scan_65 (by decide) ?_
        refine V_sub (LP := [(0, .int c0_5), (1, .ref (E.1 20 g_6)), (2, .ref (E.1 20 g_7)), (3, .int c3_8), (4, .int a4_12), (5, .int x_17)]) [0, 1, 2, 3, 4, 5] rfl ?_
        exact ih _ _ _ h
      clear hj_13
      refine V_icmp_ne C (tgt := 38) dX3_scan_31 (by decide) (fun hc => ?_) (fun hc => ?_)
      · replace h := (if_neg hc).symm.trans h
        refine V_sub (LP := [(0, .int c0_5), (1, .ref (E.1 20 g_6)), (2, .ref (E.1 20 g_7)), (3, .int c3_8), (4, .int a4_9), (5, .int a5_10)]) [0, 1, 2, 3, 4, 5] rfl ?_
        exact J_13 _ _ h
      · replace h := (if_pos hc).symm.trans h
        refine V_iload C dX3_scan_34 5 rfl ?_
        refine V_istore (L' := [(0, .int c0_5), (1, .ref (E.1 20 g_6)), (2, .ref (E.1 20 g_7)), (3, .int c3_8), (4, .int a5_10), (5, .int a5_10)]) C dX3_scan_36 (by decide) [1, 2, 3, 4, 0, 5] rfl ?_
        refine V_sub (LP := [(0, .int c0_5), (1, .ref (E.1 20 g_6)), (2, .ref (E.1 20 g_7)), (3, .int c3_8), (4, .int a5_10), (5, .int a5_10)]) [0, 1, 2, 3, 4, 5] rfl ?_
        exact J_13 _ _ h
set_option maxHeartbeats 4000000 in
set_option maxRecDepth 100000 in
theorem con_X3_scan {l : Launch} {E : WE} (hl : l.stackTraces = false) (a0 : Int32) (g1 : Nat) (g2 : Nat) (hg1 : g1 < 18) (hg2 : g2 < 18) {μ : Mem} {x} (h : f_X3_scan a0 g1 g2 μ = some x) : Con l E lvC yX3_scan cX3_scan 6 none 3 [.int a0, .ref (E.1 20 g1), .ref (E.1 20 g2)] μ (rBu x) := by
  refine Con.of (by decide) hl (Nat.le_of_ble_eq_true rfl) (fun Y C => ?_)
  replace C : Ok Y l E lvC 6 RX3 cX3_scan none 3 := C
  show V Y l E lvC 6 (rBu x) 0 [(0, .int a0), (1, .ref (E.1 20 g1)), (2, .ref (E.1 20 g2))] [] μ
  unfold f_X3_scan at h
  refine V_aload_n C 1 dX3_scan_0 rfl 1 rfl ?_
  obtain ⟨v_1, hv, h⟩ := bP_inv h
  refine V_callVo C 20 g1 (gr_0in g1 hg1) (some (.int v_1)) (con_X1_rowLength hl g1 hg1 hv) tb_X1_rowLength lk_RX3_87 rfl rfl rfl (by decide) (by decide) rfl (Nat.le_of_ble_eq_true rfl) rfl dX3_scan_1 rfl ?_
  clear hv
  refine V_istore_n (L' := [(0, .int a0), (1, .ref (E.1 20 g1)), (2, .ref (E.1 20 g2)), (3, .int v_1)]) C 3 dX3_scan_4 rfl (by decide) [1, 2, 3, 0] rfl ?_
  refine V_aload_n C 2 dX3_scan_5 rfl 2 rfl ?_
  refine V_aload_n C 1 dX3_scan_6 rfl 1 rfl ?_
  rcases bB_inv h with ⟨e_4, μ_3, hv, h⟩ | ⟨u_2, μ_3, hv, h⟩
  · cases h; exact V_callVe C 20 g2 (gr_0in g2 hg2) e_4 (con_X1_shapeLike hl g2 g1 hg2 hg1 hv) tb_X1_shapeLike lk_RX3_45 rfl rfl rfl (by decide) (by decide) rfl (Nat.le_of_ble_eq_true rfl) rfl dX3_scan_7 rfl
  refine V_callVo C 20 g2 (gr_0in g2 hg2) none (con_X1_shapeLike hl g2 g1 hg2 hg1 hv) tb_X1_shapeLike lk_RX3_45 rfl rfl rfl (by decide) (by decide) rfl (Nat.le_of_ble_eq_true rfl) rfl dX3_scan_7 rfl ?_
  clear hv
  refine V_iconst C (0 : Int32) dX3_scan_10 (by decide) ?_
  refine V_istore (L' := [(0, .int a0), (1, .ref (E.1 20 g1)), (2, .ref (E.1 20 g2)), (3, .int v_1), (4, .int (0 : Int32))]) C dX3_scan_11 (by decide) [1, 2, 3, 4, 0] rfl ?_
  refine V_iconst C (0 : Int32) dX3_scan_13 (by decide) ?_
  refine V_istore (L' := [(0, .int a0), (1, .ref (E.1 20 g1)), (2, .ref (E.1 20 g2)), (3, .int v_1), (4, .int (0 : Int32)), (5, .int (0 : Int32))]) C dX3_scan_14 (by decide) [1, 2, 3, 4, 5, 0] rfl ?_
  refine V_sub (LP := [(0, .int a0), (1, .ref (E.1 20 g1)), (2, .ref (E.1 20 g2)), (3, .int v_1), (4, .int (0 : Int32)), (5, .int (0 : Int32))]) [0, 1, 2, 3, 4, 5] rfl ?_
  refine lp_X3_scan_16 hl C a0 g1 g2 v_1 hg1 hg2 (fun μ_19 x h => ?_) 1000 _ _ _ h
  cases h
  exact V_return C rfl rfl dX3_scan_68
set_option maxHeartbeats 4000000 in
set_option maxRecDepth 100000 in
theorem con_J0_isLatin1_aae02 {l : Launch} {E : WE} (hl : l.stackTraces = false) (j0 : Nat) (hj0 : j0 < 4) {μ : Mem} {x} (h : f_J0_isLatin1_aae02 j0 μ = some x) : Con l E lvC yJ0_isLatin1_aae02 cJ0_isLatin1_aae02 1 (some .boolean) 0 [.ref (E.2.2.2.1 j0)] μ (rPi x μ) := by
  refine Con.ofF (by decide +kernel) hl (Nat.le_of_ble_eq_true rfl) (fun Y C => ?_)
  replace C : Ok Y l E lvC 1 RJ0 cJ0_isLatin1_aae02 (some .boolean) 0 := C
  show V Y l E lvC 1 (rPi x μ) 0 [(0, .ref (E.2.2.2.1 j0))] [] μ
  unfold f_J0_isLatin1_aae02 at h
  refine V_compact C sl_RJ0_38 dJ0_isLatin1_aae02_0 ?_
  obtain ⟨j_1, hj_1, h⟩ := jn_ex h
  have J_1 : ∀ (_ : Unit) x, j_1 () = some x → V Y l E lvC 1 (rPi x μ) 17 [] [] μ := by
    intro _  x h
    rw [hj_1] at h; clear hj_1
    refine V_iconst C (0 : Int32) dJ0_isLatin1_aae02_17 (by decide) ?_
    cases h
    exact V_ireturn C rfl rfl rfl dJ0_isLatin1_aae02_18
  clear hj_1
  refine V_if_eq C (tgt := 17) dJ0_isLatin1_aae02_3 (by decide) (fun hc => ?_) (fun hc => ?_)
  · replace h := (if_pos hc).symm.trans h
    refine V_sub (LP := []) [] rfl ?_
    exact J_1 () _ h
  · replace h := (if_neg hc).symm.trans h
    refine V_aload_n C 0 dJ0_isLatin1_aae02_6 rfl 0 rfl ?_
    refine V_strCod C j0 hj0 sl_RJ0_15 dJ0_isLatin1_aae02_7 ?_
    refine V_if_ne C (tgt := 17) dJ0_isLatin1_aae02_10 (by decide) (fun hc => ?_) (fun hc => ?_)
    · replace h := (if_neg hc).symm.trans h
      refine V_sub (LP := []) [] rfl ?_
      exact J_1 () _ h
    · replace h := (if_pos hc).symm.trans h
      refine V_iconst C (1 : Int32) dJ0_isLatin1_aae02_13 (by decide) ?_
      refine V_goto C (tgt := 18) dJ0_isLatin1_aae02_14 (by decide) ?_
      cases h
      exact V_ireturn C rfl rfl rfl dJ0_isLatin1_aae02_18
set_option maxHeartbeats 4000000 in
set_option maxRecDepth 100000 in
theorem con_J0_coder_7d493 {l : Launch} {E : WE} (hl : l.stackTraces = false) (j0 : Nat) (hj0 : j0 < 4) {μ : Mem} {x} (h : f_J0_coder_7d493 j0 μ = some x) : Con l E lvC yJ0_coder_7d493 cJ0_coder_7d493 1 (some .byte) 0 [.ref (E.2.2.2.1 j0)] μ (rPi x μ) := by
  refine Con.ofF (by decide +kernel) hl (Nat.le_of_ble_eq_true rfl) (fun Y C => ?_)
  replace C : Ok Y l E lvC 1 RJ0 cJ0_coder_7d493 (some .byte) 0 := C
  show V Y l E lvC 1 (rPi x μ) 0 [(0, .ref (E.2.2.2.1 j0))] [] μ
  unfold f_J0_coder_7d493 at h
  refine V_compact C sl_RJ0_38 dJ0_coder_7d493_0 ?_
  refine V_if_eq C (tgt := 13) dJ0_coder_7d493_3 (by decide) (fun hc => ?_) (fun hc => ?_)
  · replace h := (if_pos hc).symm.trans h
    refine V_iconst C (1 : Int32) dJ0_coder_7d493_13 (by decide) ?_
    cases h
    exact V_ireturn C rfl rfl rfl dJ0_coder_7d493_14
  · replace h := (if_neg hc).symm.trans h
    refine V_aload_n C 0 dJ0_coder_7d493_6 rfl 0 rfl ?_
    refine V_strCod C j0 hj0 sl_RJ0_15 dJ0_coder_7d493_7 ?_
    refine V_goto C (tgt := 14) dJ0_coder_7d493_10 (by decide) ?_
    cases h
    exact V_ireturn C rfl rfl rfl dJ0_coder_7d493_14
set_option maxHeartbeats 4000000 in
set_option maxRecDepth 100000 in
theorem con_J0_length_8abf5 {l : Launch} {E : WE} (hl : l.stackTraces = false) (j0 : Nat) (hj0 : j0 < 4) {μ : Mem} {x} (h : f_J0_length_8abf5 j0 μ = some x) : Con l E lvC yJ0_length_8abf5 cJ0_length_8abf5 1 (some .int) 1 [.ref (E.2.2.2.1 j0)] μ (rPi x μ) := by
  refine Con.ofF (by decide +kernel) hl (Nat.le_of_ble_eq_true rfl) (fun Y C => ?_)
  replace C : Ok Y l E lvC 1 RJ0 cJ0_length_8abf5 (some .int) 1 := C
  show V Y l E lvC 1 (rPi x μ) 0 [(0, .ref (E.2.2.2.1 j0))] [] μ
  unfold f_J0_length_8abf5 at h
  refine V_aload_n C 0 dJ0_length_8abf5_0 rfl 0 rfl ?_
  refine V_strVal C j0 hj0 sl_RJ0_9 dJ0_length_8abf5_1 ?_
  refine V_bytLen C j0 hj0 dJ0_length_8abf5_4 ?_
  refine V_aload_n C 0 dJ0_length_8abf5_5 rfl 0 rfl ?_
  obtain ⟨v_1, hv, h⟩ := bP_inv h
  refine V_callKo C j0 hj0 (some (.int v_1)) (con_J0_coder_7d493 hl j0 hj0 hv) tb_J0_coder_7d493 lk_RJ0_335 rfl (by decide) (by decide) rfl (Nat.le_of_ble_eq_true rfl) rfl dJ0_length_8abf5_6 rfl ?_
  clear hv
  refine V_ishr C dJ0_length_8abf5_9 ?_
  cases h
  exact V_ireturn C rfl rfl rfl dJ0_length_8abf5_10
set_option maxHeartbeats 4000000 in
set_option maxRecDepth 100000 in
theorem con_J1_canEncode_9a6ad {l : Launch} {E : WE} (hl : l.stackTraces = false) (a0 : Int32)  {μ : Mem} {x} (h : f_J1_canEncode_9a6ad a0 μ = some x) : Con l E lvC yJ1_canEncode_9a6ad cJ1_canEncode_9a6ad 1 (some .boolean) 0 [.int a0] μ (rPi x μ) := by
  refine Con.ofF (by decide +kernel) hl (Nat.le_of_ble_eq_true rfl) (fun Y C => ?_)
  replace C : Ok Y l E lvC 1 RJ1 cJ1_canEncode_9a6ad (some .boolean) 0 := C
  show V Y l E lvC 1 (rPi x μ) 0 [(0, .int a0)] [] μ
  unfold f_J1_canEncode_9a6ad at h
  refine V_iload_n C 0 dJ1_canEncode_9a6ad_0 rfl 0 rfl ?_
  obtain ⟨j_1, hj_1, h⟩ := jn_ex h
  have J_1 : ∀ (_ : Unit) x, j_1 () = some x → V Y l E lvC 1 (rPi x μ) 15 [] [] μ := by
    intro _  x h
    rw [hj_1] at h; clear hj_1
    refine V_iconst C (0 : Int32) dJ1_canEncode_9a6ad_15 (by decide) ?_
    cases h
    exact V_ireturn C rfl rfl rfl dJ1_canEncode_9a6ad_16
  clear hj_1
  refine V_if_lt C (tgt := 15) dJ1_canEncode_9a6ad_1 (by decide) (fun hc => ?_) (fun hc => ?_)
  · replace h := (if_pos hc).symm.trans h
    refine V_sub (LP := []) [] rfl ?_
    exact J_1 () _ h
  · replace h := (if_neg hc).symm.trans h
    refine V_iload_n C 0 dJ1_canEncode_9a6ad_4 rfl 0 rfl ?_
    refine V_sipush C (255 : Int32) dJ1_canEncode_9a6ad_5 (by decide) ?_
    refine V_icmp_gt C (tgt := 15) dJ1_canEncode_9a6ad_8 (by decide) (fun hc => ?_) (fun hc => ?_)
    · replace h := (if_pos hc).symm.trans h
      refine V_sub (LP := []) [] rfl ?_
      exact J_1 () _ h
    · replace h := (if_neg hc).symm.trans h
      refine V_iconst C (1 : Int32) dJ1_canEncode_9a6ad_11 (by decide) ?_
      refine V_goto C (tgt := 16) dJ1_canEncode_9a6ad_12 (by decide) ?_
      cases h
      exact V_ireturn C rfl rfl rfl dJ1_canEncode_9a6ad_16
set_option maxHeartbeats 4000000 in
set_option maxRecDepth 100000 in
theorem lp_J1_indexOfChar_4cfef_7 {Y : Mc} {l : Launch} {E : WE} (hl : l.stackTraces = false) (C : Ok Y l E lvC 6 RJ1 cJ1_indexOfChar_4cfef (some .int) 0) {κ : Unit → Option (Int32)} (j_2 : Nat) (c3_3 : Int32) (c4_4 : Int32) (μ_6 : Mem) (hj_2 : j_2 < 4) (hκ : ∀ (_ : Unit) x, κ () = some x → V Y l E lvC 6 (rPi x μ_6) 31 [] [] μ_6) : ∀ (n : Nat) (a5_5 : Int32) {x}, f_J1_indexOfChar_4cfef_L7 κ j_2 c3_3 c4_4 μ_6 n a5_5 = some x → V Y l E lvC 6 (rPi x μ_6) 7 [(0, .ref (E.2.2.2.2 j_2)), (3, .int c3_3), (4, .int c4_4), (5, .int a5_5)] [] μ_6 := by
  intro n
  induction n with
  | zero =>
    intro a5_5 x h
    simp [f_J1_indexOfChar_4cfef_L7] at h
  | succ n ih =>
    intro a5_5 x h
    rw [f_J1_indexOfChar_4cfef_L7] at h
    refine V_iload C dJ1_indexOfChar_4cfef_7 3 rfl ?_
    refine V_iload_n C 3 dJ1_indexOfChar_4cfef_9 rfl 1 rfl ?_
    refine V_icmp_ge C (tgt := 31) dJ1_indexOfChar_4cfef_10 (by decide) (fun hc => ?_) (fun hc => ?_)
    · replace h := (if_pos hc).symm.trans h
      refine V_sub (LP := []) [] rfl ?_
      exact hκ () _ h
    · replace h := (if_neg hc).symm.trans h
      refine V_aload_n C 0 dJ1_indexOfChar_4cfef_13 rfl 0 rfl ?_
      refine V_iload C dJ1_indexOfChar_4cfef_14 3 rfl ?_
      obtain ⟨hi9, h⟩ := gd_inv h
      refine V_bytLd C j_2 hj_2 (inb_in hi9) dJ1_indexOfChar_4cfef_16 ?_
      refine V_iload C dJ1_indexOfChar_4cfef_17 2 rfl ?_
      refine V_icmp_ne C (tgt := 25) dJ1_indexOfChar_4cfef_19 (by decide) (fun hc => ?_) (fun hc => ?_)
      · replace h := (if_neg hc).symm.trans h
        obtain ⟨x_7, hn9⟩ : ∃ z : Int32, z = a5_5 + (1 : Int32) := ⟨_, rfl⟩
        replace h := lt_eq hn9 h
        refine V_iinc (L' := [(0, .ref (E.2.2.2.2 j_2)), (3, .int c3_3), (4, .int c4_4), (5, .int x_7)]) C x_7 dJ1_indexOfChar_4cfef_25 3 rfl (by rw [hn9]; exact congrArg (a5_5 + ·) (by decide)) (by decide) [1, 2, 3, 0] rfl ?_
        clear hn9
        refine V_goto C (tgt := 7) dJ1_indexOfChar_4cfef_28 (by decide) ?_
        refine V_sub (LP := [(0, .ref (E.2.2.2.2 j_2)), (3, .int c3_3), (4, .int c4_4), (5, .int x_7)]) [0, 1, 2, 3] rfl ?_
        exact ih _ h
      · replace h := (if_pos hc).symm.trans h
        refine V_iload C dJ1_indexOfChar_4cfef_22 3 rfl ?_
        cases h
        exact V_ireturn C rfl rfl rfl dJ1_indexOfChar_4cfef_24
set_option maxHeartbeats 4000000 in
set_option maxRecDepth 100000 in
theorem con_J1_indexOfChar_4cfef {l : Launch} {E : WE} (hl : l.stackTraces = false) (j0 : Nat) (a1 : Int32) (a2 : Int32) (a3 : Int32) (hj0 : j0 < 4) {μ : Mem} {x} (h : f_J1_indexOfChar_4cfef j0 a1 a2 a3 μ = some x) : Con l E lvC yJ1_indexOfChar_4cfef cJ1_indexOfChar_4cfef 6 (some .int) 0 [.ref (E.2.2.2.2 j0), .int a1, .int a2, .int a3] μ (rPi x μ) := by
  refine Con.ofF (by decide +kernel) hl (Nat.le_of_ble_eq_true rfl) (fun Y C => ?_)
  replace C : Ok Y l E lvC 6 RJ1 cJ1_indexOfChar_4cfef (some .int) 0 := C
  show V Y l E lvC 6 (rPi x μ) 0 [(0, .ref (E.2.2.2.2 j0)), (1, .int a1), (2, .int a2), (3, .int a3)] [] μ
  unfold f_J1_indexOfChar_4cfef at h
  refine V_iload_n C 1 dJ1_indexOfChar_4cfef_0 rfl 1 rfl ?_
  refine V_i2b C dJ1_indexOfChar_4cfef_1 ?_
  refine V_topi (fun x_1 hn9 => ?_)
  replace h := lt_eq hn9 h; clear hn9
  refine V_istore (L' := [(0, .ref (E.2.2.2.2 j0)), (1, .int a1), (2, .int a2), (3, .int a3), (4, .int x_1)]) C dJ1_indexOfChar_4cfef_2 (by decide) [1, 2, 3, 4, 0] rfl ?_
  refine V_iload_n C 2 dJ1_indexOfChar_4cfef_4 rfl 2 rfl ?_
  refine V_istore (L' := [(0, .ref (E.2.2.2.2 j0)), (1, .int a1), (2, .int a2), (3, .int a3), (4, .int x_1), (5, .int a2)]) C dJ1_indexOfChar_4cfef_5 (by decide) [1, 2, 3, 4, 5, 0] rfl ?_
  refine V_sub (LP := [(0, .ref (E.2.2.2.2 j0)), (3, .int a3), (4, .int x_1), (5, .int a2)]) [0, 3, 4, 5] rfl ?_
  refine lp_J1_indexOfChar_4cfef_7 hl C j0 a3 x_1 μ hj0 (fun _ x h => ?_) 1000 _ h
  refine V_iconst C (-1 : Int32) dJ1_indexOfChar_4cfef_31 (by decide) ?_
  cases h
  exact V_ireturn C rfl rfl rfl dJ1_indexOfChar_4cfef_32
set_option maxHeartbeats 4000000 in
set_option maxRecDepth 100000 in
theorem con_J1_indexOf_4cfef {l : Launch} {E : WE} (hl : l.stackTraces = false) (j0 : Nat) (a1 : Int32) (a2 : Int32) (a3 : Int32) (hj0 : j0 < 4) {μ : Mem} {x} (h : f_J1_indexOf_4cfef j0 a1 a2 a3 μ = some x) : Con l E lvC yJ1_indexOf_4cfef cJ1_indexOf_4cfef 4 (some .int) 1 [.ref (E.2.2.2.2 j0), .int a1, .int a2, .int a3] μ (rPi x μ) := by
  refine Con.ofF (by decide +kernel) hl (Nat.le_of_ble_eq_true rfl) (fun Y C => ?_)
  replace C : Ok Y l E lvC 4 RJ1 cJ1_indexOf_4cfef (some .int) 1 := C
  show V Y l E lvC 4 (rPi x μ) 0 [(0, .ref (E.2.2.2.2 j0)), (1, .int a1), (2, .int a2), (3, .int a3)] [] μ
  unfold f_J1_indexOf_4cfef at h
  refine V_iload_n C 1 dJ1_indexOf_4cfef_0 rfl 1 rfl ?_
  obtain ⟨v_1, hv, h⟩ := bP_inv h
  refine V_callSo C (some (.int v_1)) (con_J1_canEncode_9a6ad hl a1 hv) tb_J1_canEncode_9a6ad lk_RJ1_88 (by decide) (by decide) rfl (Nat.le_of_ble_eq_true rfl) rfl dJ1_indexOf_4cfef_1 rfl ?_
  clear hv
  refine V_if_ne C (tgt := 9) dJ1_indexOf_4cfef_4 (by decide) (fun hc => ?_) (fun hc => ?_)
  · replace h := (if_neg hc).symm.trans h
    refine V_iload_n C 2 dJ1_indexOf_4cfef_9 rfl 2 rfl ?_
    refine V_iconst C (0 : Int32) dJ1_indexOf_4cfef_10 (by decide) ?_
    refine V_mmax C lk_RJ1_92 w_max1 w_math w_max2 (Nat.le_of_ble_eq_true rfl) dJ1_indexOf_4cfef_11 ?_
    refine V_topi (fun x_2 hn9 => ?_)
    replace h := lt_eq hn9 h; clear hn9
    refine V_istore_n (L' := [(0, .ref (E.2.2.2.2 j0)), (1, .int a1), (2, .int x_2), (3, .int a3)]) C 2 dJ1_indexOf_4cfef_14 rfl (by decide) [1, 2, 0, 3] rfl ?_
    refine V_iload_n C 3 dJ1_indexOf_4cfef_15 rfl 3 rfl ?_
    refine V_aload_n C 0 dJ1_indexOf_4cfef_16 rfl 0 rfl ?_
    refine V_bytLen C j0 hj0 dJ1_indexOf_4cfef_17 ?_
    refine V_mmin C lk_RJ1_38 w_min1 w_math w_min2 (Nat.le_of_ble_eq_true rfl) dJ1_indexOf_4cfef_18 ?_
    refine V_topi (fun x_3 hn9 => ?_)
    replace h := lt_eq hn9 h; clear hn9
    refine V_istore_n (L' := [(0, .ref (E.2.2.2.2 j0)), (1, .int a1), (2, .int x_2), (3, .int x_3)]) C 3 dJ1_indexOf_4cfef_21 rfl (by decide) [1, 2, 3, 0] rfl ?_
    refine V_iload_n C 2 dJ1_indexOf_4cfef_22 rfl 2 rfl ?_
    refine V_iload_n C 3 dJ1_indexOf_4cfef_23 rfl 3 rfl ?_
    refine V_icmp_lt C (tgt := 29) dJ1_indexOf_4cfef_24 (by decide) (fun hc => ?_) (fun hc => ?_)
    · replace h := (if_pos hc).symm.trans h
      refine V_aload_n C 0 dJ1_indexOf_4cfef_29 rfl 0 rfl ?_
      refine V_iload_n C 1 dJ1_indexOf_4cfef_30 rfl 1 rfl ?_
      refine V_iload_n C 2 dJ1_indexOf_4cfef_31 rfl 2 rfl ?_
      refine V_iload_n C 3 dJ1_indexOf_4cfef_32 rfl 3 rfl ?_
      obtain ⟨v_4, hv, h⟩ := bP_inv h
      refine V_callSo C (some (.int v_4)) (con_J1_indexOfChar_4cfef hl j0 a1 x_2 x_3 hj0 hv) tb_J1_indexOfChar_4cfef lk_RJ1_95 (by decide) (by decide) rfl (Nat.le_of_ble_eq_true rfl) rfl dJ1_indexOf_4cfef_33 rfl ?_
      clear hv
      cases h
      exact V_ireturn C rfl rfl rfl dJ1_indexOf_4cfef_36
    · replace h := (if_neg hc).symm.trans h
      refine V_iconst C (-1 : Int32) dJ1_indexOf_4cfef_27 (by decide) ?_
      cases h
      exact V_ireturn C rfl rfl rfl dJ1_indexOf_4cfef_28
  · replace h := (if_pos hc).symm.trans h
    refine V_iconst C (-1 : Int32) dJ1_indexOf_4cfef_7 (by decide) ?_
    cases h
    exact V_ireturn C rfl rfl rfl dJ1_indexOf_4cfef_8
set_option maxHeartbeats 4000000 in
set_option maxRecDepth 100000 in
theorem con_J0_indexOf_7cf53 {l : Launch} {E : WE} (hl : l.stackTraces = false) (j0 : Nat) (a1 : Int32) (a2 : Int32) (hj0 : j0 < 4) {μ : Mem} {x} (h : f_J0_indexOf_7cf53 j0 a1 a2 μ = some x) : Con l E lvC yJ0_indexOf_7cf53 cJ0_indexOf_7cf53 3 (some .int) 2 [.ref (E.2.2.2.1 j0), .int a1, .int a2] μ (rPi x μ) := by
  refine Con.ofF (by decide +kernel) hl (Nat.le_of_ble_eq_true rfl) (fun Y C => ?_)
  replace C : Ok Y l E lvC 3 RJ0 cJ0_indexOf_7cf53 (some .int) 2 := C
  show V Y l E lvC 3 (rPi x μ) 0 [(0, .ref (E.2.2.2.1 j0)), (1, .int a1), (2, .int a2)] [] μ
  unfold f_J0_indexOf_7cf53 at h
  refine V_aload_n C 0 dJ0_indexOf_7cf53_0 rfl 0 rfl ?_
  obtain ⟨v_1, hv, h⟩ := bP_inv h
  refine V_callKo C j0 hj0 (some (.int v_1)) (con_J0_isLatin1_aae02 hl j0 hj0 hv) tb_J0_isLatin1_aae02 lk_RJ0_492 rfl (by decide) (by decide) rfl (Nat.le_of_ble_eq_true rfl) rfl dJ0_indexOf_7cf53_1 rfl ?_
  clear hv
  refine V_if_eq C (tgt := 23) dJ0_indexOf_7cf53_4 (by decide) (fun hc => ?_) (fun hc => ?_)
  · replace h := (if_pos hc).symm.trans h
    refine V_aload_n C 0 dJ0_indexOf_7cf53_23 rfl 0 rfl ?_
    refine V_strVal C j0 hj0 sl_RJ0_9 dJ0_indexOf_7cf53_24 ?_
    refine V_iload_n C 1 dJ0_indexOf_7cf53_27 rfl 1 rfl ?_
    refine V_iload_n C 2 dJ0_indexOf_7cf53_28 rfl 2 rfl ?_
    refine V_aload_n C 0 dJ0_indexOf_7cf53_29 rfl 0 rfl ?_
    obtain ⟨v_2, hv, h⟩ := bP_inv h
    refine V_callKo C j0 hj0 (some (.int v_2)) (con_J0_length_8abf5 hl j0 hj0 hv) tb_J0_length_8abf5 lk_RJ0_505 rfl (by decide) (by decide) rfl (Nat.le_of_ble_eq_true rfl) rfl dJ0_indexOf_7cf53_30 rfl ?_
    clear hv
    cases h
  · replace h := (if_neg hc).symm.trans h
    refine V_aload_n C 0 dJ0_indexOf_7cf53_7 rfl 0 rfl ?_
    refine V_strVal C j0 hj0 sl_RJ0_9 dJ0_indexOf_7cf53_8 ?_
    refine V_iload_n C 1 dJ0_indexOf_7cf53_11 rfl 1 rfl ?_
    refine V_iload_n C 2 dJ0_indexOf_7cf53_12 rfl 2 rfl ?_
    refine V_aload_n C 0 dJ0_indexOf_7cf53_13 rfl 0 rfl ?_
    obtain ⟨v_3, hv, h⟩ := bP_inv h
    refine V_callKo C j0 hj0 (some (.int v_3)) (con_J0_length_8abf5 hl j0 hj0 hv) tb_J0_length_8abf5 lk_RJ0_505 rfl (by decide) (by decide) rfl (Nat.le_of_ble_eq_true rfl) rfl dJ0_indexOf_7cf53_14 rfl ?_
    clear hv
    obtain ⟨v_4, hv, h⟩ := bP_inv h
    refine V_callSo C (some (.int v_4)) (con_J1_indexOf_4cfef hl j0 a1 a2 v_3 hj0 hv) tb_J1_indexOf_4cfef lk_RJ0_637 (by decide) (by decide) rfl (Nat.le_of_ble_eq_true rfl) rfl dJ0_indexOf_7cf53_17 rfl ?_
    clear hv
    refine V_goto C (tgt := 36) dJ0_indexOf_7cf53_20 (by decide) ?_
    cases h
    exact V_ireturn C rfl rfl rfl dJ0_indexOf_7cf53_36
