set_option maxHeartbeats 4000000 in
set_option maxRecDepth 100000 in
theorem con_X7_size {l : Launch} {E : WE} (hl : l.stackTraces = false)   {μ : Mem} {x} (h : f_X7_size  μ = some x) : Con l E lvC yX7_size cX7_size 1 (some .int) 0 [.ref (E.1 0 0)] μ (rPi x μ) := by
  refine Con.of (by decide) hl (Nat.le_of_ble_eq_true rfl) (fun Y C => ?_)
  replace C : Ok Y l E lvC 1 RX7 cX7_size (some .int) 0 := C
  show V Y l E lvC 1 (rPi x μ) 0 [(0, .ref (E.1 0 0))] [] μ
  unfold f_X7_size at h
  refine V_aload_n C 0 dX7_size_0 rfl 0 rfl ?_
  refine V_getf (v := .ref (E.1 20 17)) C 0 0 m_0 fl_RX7_33 rfl rfl dX7_size_1 ?_
  refine V_getf (v := .int (μ 20 17 3)) C 20 17 (gr_0in 17 (by decide)) fl_RX7_74 rfl rfl dX7_size_4 ?_
  cases h
  exact V_ireturn C rfl rfl rfl dX7_size_7
set_option maxHeartbeats 4000000 in
set_option maxRecDepth 100000 in
theorem con_X7_element {l : Launch} {E : WE} (hl : l.stackTraces = false) (a1 : Int32)  {μ : Mem} {x} (h : f_X7_element a1 μ = some x) : Con l E lvC yX7_element cX7_element 2 (some .long) 0 [.ref (E.1 0 0), .int a1] μ (rPl x μ) := by
  refine Con.of (by decide) hl (Nat.le_of_ble_eq_true rfl) (fun Y C => ?_)
  replace C : Ok Y l E lvC 2 RX7 cX7_element (some .long) 0 := C
  show V Y l E lvC 2 (rPl x μ) 0 [(0, .ref (E.1 0 0)), (1, .int a1)] [] μ
  unfold f_X7_element at h
  refine V_iload_n C 1 dX7_element_0 rfl 1 rfl ?_
  obtain ⟨j_1, hj_1, h⟩ := jn_ex h
  have J_1 : ∀ (_ : Unit) x, j_1 () = some x → V Y l E lvC 2 (rPl x μ) 28 [] [] μ := by
    intro _  x h
    rw [hj_1] at h; clear hj_1
    refine V_ldc2 C (4294967296 : Int64) kl_RX7_87 dX7_element_28 ?_
    cases h
    exact V_lreturn C rfl rfl dX7_element_31
  clear hj_1
  refine V_if_lt C (tgt := 28) dX7_element_1 (by decide) (fun hc => ?_) (fun hc => ?_)
  · replace h := (if_pos hc).symm.trans h
    refine V_sub (LP := []) [] rfl ?_
    exact J_1 () _ h
  · replace h := (if_neg hc).symm.trans h
    refine V_iload_n C 1 dX7_element_4 rfl 1 rfl ?_
    refine V_aload_n C 0 dX7_element_5 rfl 0 rfl ?_
    refine V_getf (v := .ref (E.1 20 17)) C 0 0 m_0 fl_RX7_33 rfl rfl dX7_element_6 ?_
    refine V_getf (v := .int (μ 20 17 3)) C 20 17 (gr_0in 17 (by decide)) fl_RX7_74 rfl rfl dX7_element_9 ?_
    refine V_icmp_ge C (tgt := 28) dX7_element_12 (by decide) (fun hc => ?_) (fun hc => ?_)
    · replace h := (if_pos hc).symm.trans h
      refine V_sub (LP := []) [] rfl ?_
      exact J_1 () _ h
    · replace h := (if_neg hc).symm.trans h
      refine V_aload_n C 0 dX7_element_15 rfl 0 rfl ?_
      refine V_getf (v := .ref (E.1 20 17)) C 0 0 m_0 fl_RX7_33 rfl rfl dX7_element_16 ?_
      refine V_getf (v := .ref (E.1 22 17)) C 20 17 (gr_0in 17 (by decide)) fl_RX7_84 rfl rfl dX7_element_19 ?_
      refine V_iload_n C 1 dX7_element_22 rfl 1 rfl ?_
      obtain ⟨hi9, h⟩ := gd_inv h
      refine V_iald C 22 17 (gr_2in 17 (by decide)) (fun _ => rfl) (inb_in hi9) dX7_element_23 ?_
      refine V_i2l C dX7_element_24 ?_
      refine V_goto C (tgt := 31) dX7_element_25 (by decide) ?_
      cases h
      exact V_lreturn C rfl rfl dX7_element_31
set_option maxHeartbeats 4000000 in
set_option maxRecDepth 100000 in
theorem lp_X7_sum_4 {Y : Mc} {l : Launch} {E : WE} (hl : l.stackTraces = false) (C : Ok Y l E lvC 4 RX7 cX7_sum (some .long) 0) {κ : Int64 → Option (Int64)}  (μ_3 : Mem)  (hκ : ∀ (a1_6 : Int64) x, κ a1_6 = some x → V Y l E lvC 4 (rPl x μ_3) 34 [(1, .long a1_6)] [] μ_3) : ∀ (n : Nat) (a1_1 : Int64) (a3_2 : Int32) {x}, f_X7_sum_L4 κ  μ_3 n a1_1 a3_2 = some x → V Y l E lvC 4 (rPl x μ_3) 4 [(0, .ref (E.1 0 0)), (1, .long a1_1), (3, .int a3_2)] [] μ_3 := by
  intro n
  induction n with
  | zero =>
    intro a1_1 a3_2 x h
    simp [f_X7_sum_L4] at h
  | succ n ih =>
    intro a1_1 a3_2 x h
    rw [f_X7_sum_L4] at h
    refine V_iload_n C 3 dX7_sum_4 rfl 2 rfl ?_
    refine V_aload_n C 0 dX7_sum_5 rfl 0 rfl ?_
    refine V_getf (v := .ref (E.1 20 17)) C 0 0 m_0 fl_RX7_33 rfl rfl dX7_sum_6 ?_
    refine V_getf (v := .int (μ_3 20 17 3)) C 20 17 (gr_0in 17 (by decide)) fl_RX7_74 rfl rfl dX7_sum_9 ?_
    refine V_icmp_ge C (tgt := 34) dX7_sum_12 (by decide) (fun hc => ?_) (fun hc => ?_)
    · replace h := (if_pos hc).symm.trans h
      refine V_sub (LP := [(1, .long a1_1)]) [1] rfl ?_
      exact hκ _ _ h
    · replace h := (if_neg hc).symm.trans h
      refine V_lload_n C 1 dX7_sum_15 rfl 1 rfl ?_
      refine V_aload_n C 0 dX7_sum_16 rfl 0 rfl ?_
      refine V_getf (v := .ref (E.1 20 17)) C 0 0 m_0 fl_RX7_33 rfl rfl dX7_sum_17 ?_
      refine V_getf (v := .ref (E.1 22 17)) C 20 17 (gr_0in 17 (by decide)) fl_RX7_84 rfl rfl dX7_sum_20 ?_
      refine V_iload_n C 3 dX7_sum_23 rfl 2 rfl ?_
      obtain ⟨hi9, h⟩ := gd_inv h
      refine V_iald C 22 17 (gr_2in 17 (by decide)) (fun _ => rfl) (inb_in hi9) dX7_sum_24 ?_
      refine V_i2l C dX7_sum_25 ?_
      refine V_ladd C dX7_sum_26 ?_
      refine V_topl (fun x_4 hn9 => ?_)
      replace h := lt_eq hn9 h; clear hn9
      refine V_lstore_n (L' := [(0, .ref (E.1 0 0)), (1, .long x_4), (3, .int a3_2)]) C 1 dX7_sum_27 rfl (by decide) [1, 0, 2] rfl ?_
      obtain ⟨x_5, hn9⟩ : ∃ z : Int32, z = a3_2 + (1 : Int32) := ⟨_, rfl⟩
      replace h := lt_eq hn9 h
      refine V_iinc (L' := [(0, .ref (E.1 0 0)), (1, .long x_4), (3, .int x_5)]) C x_5 dX7_sum_28 2 rfl (by rw [hn9]; exact congrArg (a3_2 + ·) (by decide)) (by decide) [1, 2, 0] rfl ?_
      clear hn9
      refine V_goto C (tgt := 4) dX7_sum_31 (by decide) ?_
      refine V_sub (LP := [(0, .ref (E.1 0 0)), (1, .long x_4), (3, .int x_5)]) [0, 1, 2] rfl ?_
      exact ih _ _ h
set_option maxHeartbeats 4000000 in
set_option maxRecDepth 100000 in
theorem con_X7_sum {l : Launch} {E : WE} (hl : l.stackTraces = false)   {μ : Mem} {x} (h : f_X7_sum  μ = some x) : Con l E lvC yX7_sum cX7_sum 4 (some .long) 0 [.ref (E.1 0 0)] μ (rPl x μ) := by
  refine Con.of (by decide) hl (Nat.le_of_ble_eq_true rfl) (fun Y C => ?_)
  replace C : Ok Y l E lvC 4 RX7 cX7_sum (some .long) 0 := C
  show V Y l E lvC 4 (rPl x μ) 0 [(0, .ref (E.1 0 0))] [] μ
  unfold f_X7_sum at h
  refine V_lconst C (0 : Int64) dX7_sum_0 (by decide) ?_
  refine V_lstore_n (L' := [(0, .ref (E.1 0 0)), (1, .long (0 : Int64))]) C 1 dX7_sum_1 rfl (by decide) [1, 0] rfl ?_
  refine V_iconst C (0 : Int32) dX7_sum_2 (by decide) ?_
  refine V_istore_n (L' := [(0, .ref (E.1 0 0)), (1, .long (0 : Int64)), (3, .int (0 : Int32))]) C 3 dX7_sum_3 rfl (by decide) [1, 2, 0] rfl ?_
  refine V_sub (LP := [(0, .ref (E.1 0 0)), (1, .long (0 : Int64)), (3, .int (0 : Int32))]) [0, 1, 2] rfl ?_
  refine lp_X7_sum_4 hl C μ (fun a1_7 x h => ?_) 1000 _ _ h
  refine V_lload_n C 1 dX7_sum_34 rfl 0 rfl ?_
  cases h
  exact V_lreturn C rfl rfl dX7_sum_35
set_option maxHeartbeats 4000000 in
set_option maxRecDepth 100000 in
theorem con_X7_held {l : Launch} {E : WE} (hl : l.stackTraces = false) (a1 : Int32)  {μ : Mem} {x} (h : f_X7_held a1 μ = some x) : Con l E lvC yX7_held cX7_held 2 (some .int) 1 [.ref (E.1 0 0), .int a1] μ (rPi x μ) := by
  refine Con.of (by decide) hl (Nat.le_of_ble_eq_true rfl) (fun Y C => ?_)
  replace C : Ok Y l E lvC 2 RX7 cX7_held (some .int) 1 := C
  show V Y l E lvC 2 (rPi x μ) 0 [(0, .ref (E.1 0 0)), (1, .int a1)] [] μ
  unfold f_X7_held at h
  refine V_aload_n C 0 dX7_held_0 rfl 0 rfl ?_
  refine V_getf (v := .ref (E.1 11 0)) C 0 0 m_0 fl_RX7_19 rfl rfl dX7_held_1 ?_
  refine V_iload_n C 1 dX7_held_4 rfl 1 rfl ?_
  obtain ⟨v_1, hv, h⟩ := bP_inv h
  refine V_callVo C 11 0 m_11 (some (.int v_1)) (con_X2_has hl a1 hv) tb_X2_has lk_RX7_89 rfl rfl rfl (by decide) (by decide) rfl (Nat.le_of_ble_eq_true rfl) rfl dX7_held_5 rfl ?_
  clear hv
  refine V_if_eq C (tgt := 26) dX7_held_8 (by decide) (fun hc => ?_) (fun hc => ?_)
  · replace h := (if_pos hc).symm.trans h
    refine V_iconst C (-1 : Int32) dX7_held_26 (by decide) ?_
    cases h
    exact V_ireturn C rfl rfl rfl dX7_held_27
  · replace h := (if_neg hc).symm.trans h
    refine V_aload_n C 0 dX7_held_11 rfl 0 rfl ?_
    refine V_getf (v := .ref (E.1 11 0)) C 0 0 m_0 fl_RX7_19 rfl rfl dX7_held_12 ?_
    refine V_getf (v := .ref (E.1 12 0)) C 11 0 m_11 fl_RX7_93 rfl rfl dX7_held_15 ?_
    refine V_iload_n C 1 dX7_held_18 rfl 1 rfl ?_
    obtain ⟨hi9, h⟩ := gd_inv h
    refine V_aald (a := E.1 20 (a1).toNatClampNeg) C 12 0 m_12 rfl (inb_in hi9) rfl dX7_held_19 ?_
    refine V_topg (fun g_2 hn9 => ?_)
    replace h := lt_eq hn9 h; clear hn9
    obtain ⟨hg_2, h⟩ := gd_inv h
    replace hg_2 := dec_t hg_2
    refine V_getf (v := .int (μ 20 g_2 3)) C 20 g_2 (gr_0in g_2 hg_2) fl_RX7_74 rfl rfl dX7_held_20 ?_
    refine V_goto C (tgt := 27) dX7_held_23 (by decide) ?_
    cases h
    exact V_ireturn C rfl rfl rfl dX7_held_27
set_option maxHeartbeats 4000000 in
set_option maxRecDepth 100000 in
theorem con_X7_forget {l : Launch} {E : WE} (hl : l.stackTraces = false) (a1 : Int32)  {μ : Mem} {x} (h : f_X7_forget a1 μ = some x) : Con l E lvC yX7_forget cX7_forget 2 (some .boolean) 1 [.ref (E.1 0 0), .int a1] μ (rWi x) := by
  refine Con.of (by decide) hl (Nat.le_of_ble_eq_true rfl) (fun Y C => ?_)
  replace C : Ok Y l E lvC 2 RX7 cX7_forget (some .boolean) 1 := C
  show V Y l E lvC 2 (rWi x) 0 [(0, .ref (E.1 0 0)), (1, .int a1)] [] μ
  unfold f_X7_forget at h
  refine V_aload_n C 0 dX7_forget_0 rfl 0 rfl ?_
  refine V_getf (v := .ref (E.1 11 0)) C 0 0 m_0 fl_RX7_19 rfl rfl dX7_forget_1 ?_
  refine V_iload_n C 1 dX7_forget_4 rfl 1 rfl ?_
  obtain ⟨v_1, hv, h⟩ := bP_inv h
  refine V_callVo C 11 0 m_11 (some (.int v_1)) (con_X2_has hl a1 hv) tb_X2_has lk_RX7_89 rfl rfl rfl (by decide) (by decide) rfl (Nat.le_of_ble_eq_true rfl) rfl dX7_forget_5 rfl ?_
  clear hv
  refine V_if_ne C (tgt := 13) dX7_forget_8 (by decide) (fun hc => ?_) (fun hc => ?_)
  · replace h := (if_neg hc).symm.trans h
    refine V_aload_n C 0 dX7_forget_13 rfl 0 rfl ?_
    refine V_getf (v := .ref (E.1 11 0)) C 0 0 m_0 fl_RX7_19 rfl rfl dX7_forget_14 ?_
    refine V_getf (v := .ref (E.1 13 0)) C 11 0 m_11 fl_RX7_97 rfl rfl dX7_forget_17 ?_
    refine V_iload_n C 1 dX7_forget_20 rfl 1 rfl ?_
    refine V_iconst C (0 : Int32) dX7_forget_21 (by decide) ?_
    obtain ⟨hi9, h⟩ := gd_inv h
    refine V_zast C 13 0 m_13 (fun _ => rfl) (inb_in hi9) dX7_forget_22 ?_
    refine V_memn (fun μ_2 hn9 => ?_)
    replace h := lt_eq hn9 h; clear hn9
    refine V_iconst C (1 : Int32) dX7_forget_23 (by decide) ?_
    cases h
    exact V_ireturn C rfl rfl rfl dX7_forget_24
  · replace h := (if_pos hc).symm.trans h
    refine V_iconst C (0 : Int32) dX7_forget_11 (by decide) ?_
    cases h
    exact V_ireturn C rfl rfl rfl dX7_forget_12
set_option maxHeartbeats 4000000 in
set_option maxRecDepth 100000 in
theorem con_X7_done {l : Launch} {E : WE} (hl : l.stackTraces = false)   {μ : Mem} {x} (h : f_X7_done  μ = some x) : Con l E lvC yX7_done cX7_done 1 (some .int) 0 [.ref (E.1 0 0)] μ (rPi x μ) := by
  refine Con.of (by decide) hl (Nat.le_of_ble_eq_true rfl) (fun Y C => ?_)
  replace C : Ok Y l E lvC 1 RX7 cX7_done (some .int) 0 := C
  show V Y l E lvC 1 (rPi x μ) 0 [(0, .ref (E.1 0 0))] [] μ
  unfold f_X7_done at h
  refine V_aload_n C 0 dX7_done_0 rfl 0 rfl ?_
  refine V_getf (v := .ref (E.1 14 0)) C 0 0 m_0 fl_RX7_26 rfl rfl dX7_done_1 ?_
  refine V_getf (v := .int (μ 14 0 6)) C 14 0 m_14 fl_RX7_101 rfl rfl dX7_done_4 ?_
  cases h
  exact V_ireturn C rfl rfl rfl dX7_done_7
