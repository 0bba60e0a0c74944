set_option maxHeartbeats 4000000 in
set_option maxRecDepth 100000 in
theorem con_X2_put {l : Launch} {E : WE} (hl : l.stackTraces = false) (a1 : Int32) (g2 : Nat) (hg2 : g2 < 18) {μ : Mem} {x} (h : f_X2_put a1 g2 μ = some x) : Con l E lvC yX2_put cX2_put 3 none 4 [.ref (E.1 11 0), .int a1, .ref (E.1 20 g2)] μ (rBu x) := by
  refine Con.of (by decide) hl (Nat.le_of_ble_eq_true rfl) (fun Y C => ?_)
  replace C : Ok Y l E lvC 3 RX2 cX2_put none 4 := C
  show V Y l E lvC 3 (rBu x) 0 [(0, .ref (E.1 11 0)), (1, .int a1), (2, .ref (E.1 20 g2))] [] μ
  unfold f_X2_put at h
  refine V_aload_n C 0 dX2_put_0 rfl 0 rfl ?_
  refine V_getf (v := .ref (E.1 12 0)) C 11 0 m_11 fl_RX2_11 rfl rfl dX2_put_1 ?_
  refine V_iload_n C 1 dX2_put_4 rfl 1 rfl ?_
  obtain ⟨hi9, h⟩ := gd_inv h
  refine V_aald (a := E.1 20 (a1).toNatClampNeg) C 12 0 m_12 rfl (inb_in hi9) rfl dX2_put_5 ?_
  refine V_topg (fun g_1 hn9 => ?_)
  replace h := lt_eq hn9 h; clear hn9
  obtain ⟨hg_1, h⟩ := gd_inv h
  replace hg_1 := dec_t hg_1
  refine V_aload_n C 2 dX2_put_6 rfl 2 rfl ?_
  rcases bB_inv h with ⟨e_4, μ_3, hv, h⟩ | ⟨u_2, μ_3, hv, h⟩
  · cases h; exact V_callVe C 20 g_1 (gr_0in g_1 hg_1) e_4 (con_X1_copy hl g_1 g2 hg_1 hg2 hv) tb_X1_copy lk_RX2_22 rfl rfl rfl (by decide) (by decide) rfl (Nat.le_of_ble_eq_true rfl) rfl dX2_put_7 rfl
  refine V_callVo C 20 g_1 (gr_0in g_1 hg_1) none (con_X1_copy hl g_1 g2 hg_1 hg2 hv) tb_X1_copy lk_RX2_22 rfl rfl rfl (by decide) (by decide) rfl (Nat.le_of_ble_eq_true rfl) rfl dX2_put_7 rfl ?_
  clear hv
  refine V_aload_n C 0 dX2_put_10 rfl 0 rfl ?_
  refine V_getf (v := .ref (E.1 13 0)) C 11 0 m_11 fl_RX2_17 rfl rfl dX2_put_11 ?_
  refine V_iload_n C 1 dX2_put_14 rfl 1 rfl ?_
  refine V_iconst C (1 : Int32) dX2_put_15 (by decide) ?_
  obtain ⟨hi9, h⟩ := gd_inv h
  refine V_zast C 13 0 m_13 (fun _ => rfl) (inb_in hi9) dX2_put_16 ?_
  refine V_memn (fun μ_5 hn9 => ?_)
  replace h := lt_eq hn9 h; clear hn9
  cases h
  exact V_return C rfl rfl dX2_put_17
set_option maxHeartbeats 4000000 in
set_option maxRecDepth 100000 in
theorem con_X6_codeAt {l : Launch} {E : WE} (hl : l.stackTraces = false) (a1 : Int32)  {μ : Mem} {x} (h : f_X6_codeAt a1 μ = some x) : Con l E lvC yX6_codeAt cX6_codeAt 2 (some .char) 0 [.ref (E.1 2 0), .int a1] μ (rPi x μ) := by
  refine Con.of (by decide) hl (Nat.le_of_ble_eq_true rfl) (fun Y C => ?_)
  replace C : Ok Y l E lvC 2 RX6 cX6_codeAt (some .char) 0 := C
  show V Y l E lvC 2 (rPi x μ) 0 [(0, .ref (E.1 2 0)), (1, .int a1)] [] μ
  unfold f_X6_codeAt at h
  refine V_iload_n C 1 dX6_codeAt_0 rfl 1 rfl ?_
  obtain ⟨j_1, hj_1, h⟩ := jn_ex h
  have J_1 : ∀ (_ : Unit) x, j_1 () = some x → V Y l E lvC 2 (rPi x μ) 21 [] [] μ := by
    intro _  x h
    rw [hj_1] at h; clear hj_1
    refine V_iconst C (0 : Int32) dX6_codeAt_21 (by decide) ?_
    cases h
    exact V_ireturn C rfl rfl rfl dX6_codeAt_22
  clear hj_1
  refine V_if_lt C (tgt := 21) dX6_codeAt_1 (by decide) (fun hc => ?_) (fun hc => ?_)
  · replace h := (if_pos hc).symm.trans h
    refine V_sub (LP := []) [] rfl ?_
    exact J_1 () _ h
  · replace h := (if_neg hc).symm.trans h
    refine V_iload_n C 1 dX6_codeAt_4 rfl 1 rfl ?_
    refine V_aload_n C 0 dX6_codeAt_5 rfl 0 rfl ?_
    refine V_getf (v := .int (μ 2 0 1)) C 2 0 m_2 fl_RX6_19 rfl rfl dX6_codeAt_6 ?_
    refine V_icmp_ge C (tgt := 21) dX6_codeAt_9 (by decide) (fun hc => ?_) (fun hc => ?_)
    · replace h := (if_pos hc).symm.trans h
      refine V_sub (LP := []) [] rfl ?_
      exact J_1 () _ h
    · replace h := (if_neg hc).symm.trans h
      refine V_aload_n C 0 dX6_codeAt_12 rfl 0 rfl ?_
      refine V_getf (v := .ref (E.1 3 0)) C 2 0 m_2 fl_RX6_9 rfl rfl dX6_codeAt_13 ?_
      refine V_iload_n C 1 dX6_codeAt_16 rfl 1 rfl ?_
      obtain ⟨hi9, h⟩ := gd_inv h
      refine V_cald C 3 0 m_3 (fun _ => rfl) (inb_in hi9) dX6_codeAt_17 ?_
      refine V_goto C (tgt := 22) dX6_codeAt_18 (by decide) ?_
      obtain ⟨hr9, h⟩ := gd_inv h
      cases h
      exact V_ireturn C rfl (isc_nar hr9) rfl dX6_codeAt_22
set_option maxHeartbeats 4000000 in
set_option maxRecDepth 100000 in
theorem lp_X5_skipBlanks_2 {Y : Mc} {l : Launch} {E : WE} (hl : l.stackTraces = false) (C : Ok Y l E lvC 2 RX5 cX5_skipBlanks none 1) {κ : Mem → Option (Unit × Mem)}   (hκ : ∀  (μ_6 : Mem) x, κ  μ_6 = some x → V Y l E lvC 2 (rWu x) 41 [] [] μ_6) : ∀ (n : Nat) (a1_1 : Int32) (μ_2 : Mem) {x}, f_X5_skipBlanks_L2 κ  n a1_1 μ_2 = some x → V Y l E lvC 2 (rWu x) 2 [(0, .ref (E.1 1 0)), (1, .int a1_1)] [] μ_2 := by
  intro n
  induction n with
  | zero =>
    intro a1_1 μ_2 x h
    simp [f_X5_skipBlanks_L2] at h
  | succ n ih =>
    intro a1_1 μ_2 x h
    rw [f_X5_skipBlanks_L2] at h
    refine V_iload_n C 1 dX5_skipBlanks_2 rfl 1 rfl ?_
    refine V_sipush C (200 : Int32) dX5_skipBlanks_3 (by decide) ?_
    refine V_icmp_ge C (tgt := 41) dX5_skipBlanks_6 (by decide) (fun hc => ?_) (fun hc => ?_)
    · replace h := (if_pos hc).symm.trans h
      refine V_sub (LP := []) [] rfl ?_
      exact hκ _ _ h
    · replace h := (if_neg hc).symm.trans h
      refine V_aload_n C 0 dX5_skipBlanks_9 rfl 0 rfl ?_
      refine V_getf (v := .ref (E.1 2 0)) C 1 0 m_1 fl_RX5_12 rfl rfl dX5_skipBlanks_10 ?_
      refine V_aload_n C 0 dX5_skipBlanks_13 rfl 0 rfl ?_
      refine V_getf (v := .int (μ_2 1 0 11)) C 1 0 m_1 fl_RX5_41 rfl rfl dX5_skipBlanks_14 ?_
      obtain ⟨v_3, hv, h⟩ := bP_inv h
      refine V_callVo C 2 0 m_2 (some (.int v_3)) (con_X6_codeAt hl (μ_2 1 0 11) hv) tb_X6_codeAt lk_RX5_77 rfl rfl rfl (by decide) (by decide) rfl (Nat.le_of_ble_eq_true rfl) rfl dX5_skipBlanks_17 rfl ?_
      clear hv
      refine V_bipush C (32 : Int32) dX5_skipBlanks_20 (by decide) ?_
      refine V_icmp_ne C (tgt := 41) dX5_skipBlanks_22 (by decide) (fun hc => ?_) (fun hc => ?_)
      · replace h := (if_neg hc).symm.trans h
        refine V_sub (LP := []) [] rfl ?_
        exact hκ _ _ h
      · replace h := (if_pos hc).symm.trans h
        refine V_aload_n C 0 dX5_skipBlanks_25 rfl 0 rfl ?_
        refine V_dup C dX5_skipBlanks_26 rfl ?_
        refine V_getf (v := .int (μ_2 1 0 11)) C 1 0 m_1 fl_RX5_41 rfl rfl dX5_skipBlanks_27 ?_
        refine V_iconst C (1 : Int32) dX5_skipBlanks_30 (by decide) ?_
        refine V_iadd C dX5_skipBlanks_31 ?_
        refine V_putI C 1 0 m_1 fp_RX5_41 rfl rfl rfl rfl (Nat.le_of_ble_eq_true rfl) dX5_skipBlanks_32 ?_
        refine V_memn (fun μ_4 hn9 => ?_)
        replace h := lt_eq hn9 h; clear hn9
        obtain ⟨x_5, hn9⟩ : ∃ z : Int32, z = a1_1 + (1 : Int32) := ⟨_, rfl⟩
        replace h := lt_eq hn9 h
        refine V_iinc (L' := [(0, .ref (E.1 1 0)), (1, .int x_5)]) C x_5 dX5_skipBlanks_35 1 rfl (by rw [hn9]; exact congrArg (a1_1 + ·) (by decide)) (by decide) [1, 0] rfl ?_
        clear hn9
        refine V_goto C (tgt := 2) dX5_skipBlanks_38 (by decide) ?_
        refine V_sub (LP := [(0, .ref (E.1 1 0)), (1, .int x_5)]) [0, 1] rfl ?_
        exact ih _ _ h
set_option maxHeartbeats 4000000 in
set_option maxRecDepth 100000 in
theorem con_X5_skipBlanks {l : Launch} {E : WE} (hl : l.stackTraces = false)   {μ : Mem} {x} (h : f_X5_skipBlanks  μ = some x) : Con l E lvC yX5_skipBlanks cX5_skipBlanks 2 none 1 [.ref (E.1 1 0)] μ (rWu x) := by
  refine Con.of (by decide) hl (Nat.le_of_ble_eq_true rfl) (fun Y C => ?_)
  replace C : Ok Y l E lvC 2 RX5 cX5_skipBlanks none 1 := C
  show V Y l E lvC 2 (rWu x) 0 [(0, .ref (E.1 1 0))] [] μ
  unfold f_X5_skipBlanks at h
  refine V_iconst C (0 : Int32) dX5_skipBlanks_0 (by decide) ?_
  refine V_istore_n (L' := [(0, .ref (E.1 1 0)), (1, .int (0 : Int32))]) C 1 dX5_skipBlanks_1 rfl (by decide) [1, 0] rfl ?_
  refine V_sub (LP := [(0, .ref (E.1 1 0)), (1, .int (0 : Int32))]) [0, 1] rfl ?_
  refine lp_X5_skipBlanks_2 hl C (fun μ_7 x h => ?_) 1000 _ _ h
  cases h
  exact V_return C rfl rfl dX5_skipBlanks_41
set_option maxHeartbeats 4000000 in
set_option maxRecDepth 100000 in
theorem con_X5_isName {l : Launch} {E : WE} (hl : l.stackTraces = false) (a0 : Int32)  {μ : Mem} {x} (h : f_X5_isName a0 μ = some x) : Con l E lvC yX5_isName cX5_isName 1 (some .boolean) 0 [.int a0] μ (rPi x μ) := by
  refine Con.of (by decide) hl (Nat.le_of_ble_eq_true rfl) (fun Y C => ?_)
  replace C : Ok Y l E lvC 1 RX5 cX5_isName (some .boolean) 0 := C
  show V Y l E lvC 1 (rPi x μ) 0 [(0, .int a0)] [] μ
  unfold f_X5_isName at h
  refine V_iload_n C 0 dX5_isName_0 rfl 0 rfl ?_
  refine V_bipush C (65 : Int32) dX5_isName_1 (by decide) ?_
  obtain ⟨j_1, hj_1, h⟩ := jn_ex h
  have J_1 : ∀ (_ : Unit) x, j_1 () = some x → V Y l E lvC 1 (rPi x μ) 16 [] [] μ := by
    intro _  x h
    rw [hj_1] at h; clear hj_1
    refine V_iconst C (0 : Int32) dX5_isName_16 (by decide) ?_
    cases h
    exact V_ireturn C rfl rfl rfl dX5_isName_17
  clear hj_1
  refine V_icmp_lt C (tgt := 16) dX5_isName_3 (by decide) (fun hc => ?_) (fun hc => ?_)
  · replace h := (if_pos hc).symm.trans h
    refine V_sub (LP := []) [] rfl ?_
    exact J_1 () _ h
  · replace h := (if_neg hc).symm.trans h
    refine V_iload_n C 0 dX5_isName_6 rfl 0 rfl ?_
    refine V_bipush C (73 : Int32) dX5_isName_7 (by decide) ?_
    refine V_icmp_ge C (tgt := 16) dX5_isName_9 (by decide) (fun hc => ?_) (fun hc => ?_)
    · replace h := (if_pos hc).symm.trans h
      refine V_sub (LP := []) [] rfl ?_
      exact J_1 () _ h
    · replace h := (if_neg hc).symm.trans h
      refine V_iconst C (1 : Int32) dX5_isName_12 (by decide) ?_
      refine V_goto C (tgt := 17) dX5_isName_13 (by decide) ?_
      cases h
      exact V_ireturn C rfl rfl rfl dX5_isName_17
set_option maxHeartbeats 4000000 in
set_option maxRecDepth 100000 in
theorem con_X5_readTarget {l : Launch} {E : WE} (hl : l.stackTraces = false)   {μ : Mem} {x} (h : f_X5_readTarget  μ = some x) : Con l E lvC yX5_readTarget cX5_readTarget 3 none 2 [.ref (E.1 1 0)] μ (rWu x) := by
  refine Con.of (by decide) hl (Nat.le_of_ble_eq_true rfl) (fun Y C => ?_)
  replace C : Ok Y l E lvC 3 RX5 cX5_readTarget none 2 := C
  show V Y l E lvC 3 (rWu x) 0 [(0, .ref (E.1 1 0))] [] μ
  unfold f_X5_readTarget at h
  refine V_aload_n C 0 dX5_readTarget_0 rfl 0 rfl ?_
  refine V_iconst C (-1 : Int32) dX5_readTarget_1 (by decide) ?_
  refine V_putI C 1 0 m_1 fp_RX5_74 rfl rfl rfl rfl (Nat.le_of_ble_eq_true rfl) dX5_readTarget_2 ?_
  refine V_memn (fun μ_1 hn9 => ?_)
  replace h := lt_eq hn9 h; clear hn9
  refine V_aload_n C 0 dX5_readTarget_5 rfl 0 rfl ?_
  obtain ⟨u_2, μ_3, hv, h⟩ := bW_inv h
  refine V_callVo C 1 0 m_1 none (con_X5_skipBlanks hl hv) tb_X5_skipBlanks lk_RX5_71 rfl rfl rfl (by decide) (by decide) rfl (Nat.le_of_ble_eq_true rfl) rfl dX5_readTarget_6 rfl ?_
  clear hv
  refine V_aload_n C 0 dX5_readTarget_9 rfl 0 rfl ?_
  refine V_getf (v := .int (μ_3 1 0 11)) C 1 0 m_1 fl_RX5_41 rfl rfl dX5_readTarget_10 ?_
  refine V_topi (fun x_4 hn9 => ?_)
  replace h := lt_eq hn9 h; clear hn9
  refine V_istore_n (L' := [(0, .ref (E.1 1 0)), (1, .int x_4)]) C 1 dX5_readTarget_13 rfl (by decide) [1, 0] rfl ?_
  refine V_aload_n C 0 dX5_readTarget_14 rfl 0 rfl ?_
  refine V_getf (v := .ref (E.1 2 0)) C 1 0 m_1 fl_RX5_12 rfl rfl dX5_readTarget_15 ?_
  refine V_aload_n C 0 dX5_readTarget_18 rfl 0 rfl ?_
  refine V_getf (v := .int (μ_3 1 0 11)) C 1 0 m_1 fl_RX5_41 rfl rfl dX5_readTarget_19 ?_
  obtain ⟨v_5, hv, h⟩ := bP_inv h
  refine V_callVo C 2 0 m_2 (some (.int v_5)) (con_X6_codeAt hl (μ_3 1 0 11) hv) tb_X6_codeAt lk_RX5_77 rfl rfl rfl (by decide) (by decide) rfl (Nat.le_of_ble_eq_true rfl) rfl dX5_readTarget_22 rfl ?_
  clear hv
  refine V_istore_n (L' := [(0, .ref (E.1 1 0)), (1, .int x_4), (2, .int v_5)]) C 2 dX5_readTarget_25 rfl (by decide) [1, 2, 0] rfl ?_
  refine V_aload_n C 0 dX5_readTarget_26 rfl 0 rfl ?_
  refine V_dup C dX5_readTarget_27 rfl ?_
  refine V_getf (v := .int (μ_3 1 0 11)) C 1 0 m_1 fl_RX5_41 rfl rfl dX5_readTarget_28 ?_
  refine V_iconst C (1 : Int32) dX5_readTarget_31 (by decide) ?_
  refine V_iadd C dX5_readTarget_32 ?_
  refine V_putI C 1 0 m_1 fp_RX5_41 rfl rfl rfl rfl (Nat.le_of_ble_eq_true rfl) dX5_readTarget_33 ?_
  refine V_memn (fun μ_6 hn9 => ?_)
  replace h := lt_eq hn9 h; clear hn9
  refine V_aload_n C 0 dX5_readTarget_36 rfl 0 rfl ?_
  obtain ⟨u_7, μ_8, hv, h⟩ := bW_inv h
  refine V_callVo C 1 0 m_1 none (con_X5_skipBlanks hl hv) tb_X5_skipBlanks lk_RX5_71 rfl rfl rfl (by decide) (by decide) rfl (Nat.le_of_ble_eq_true rfl) rfl dX5_readTarget_37 rfl ?_
  clear hv
  refine V_iload_n C 2 dX5_readTarget_40 rfl 2 rfl ?_
  obtain ⟨v_9, hv, h⟩ := bP_inv h
  refine V_callSo C (some (.int v_9)) (con_X5_isName hl v_5 hv) tb_X5_isName lk_RX5_81 (by decide) (by decide) rfl (Nat.le_of_ble_eq_true rfl) rfl dX5_readTarget_41 rfl ?_
  clear hv
  obtain ⟨j_11, hj_11, h⟩ := jn_ex h
  have J_11 : ∀ (μ_10 : Mem) x, j_11 μ_10 = some x → V Y l E lvC 3 (rWu x) 88 [(0, .ref (E.1 1 0)), (1, .int x_4)] [] μ_10 := by
    intro μ_10  x h
    rw [hj_11] at h; clear hj_11
    refine V_aload_n C 0 dX5_readTarget_88 rfl 0 rfl ?_
    refine V_iload_n C 1 dX5_readTarget_89 rfl 1 rfl ?_
    refine V_putI C 1 0 m_1 fp_RX5_41 rfl rfl rfl rfl (Nat.le_of_ble_eq_true rfl) dX5_readTarget_90 ?_
    refine V_memn (fun μ_12 hn9 => ?_)
    replace h := lt_eq hn9 h; clear hn9
    cases h
    exact V_return C rfl rfl dX5_readTarget_93
  clear hj_11
  refine V_if_eq C (tgt := 88) dX5_readTarget_44 (by decide) (fun hc => ?_) (fun hc => ?_)
  · replace h := (if_pos hc).symm.trans h
    refine V_sub (LP := [(0, .ref (E.1 1 0)), (1, .int x_4)]) [0, 1] rfl ?_
    exact J_11 _ _ h
  · replace h := (if_neg hc).symm.trans h
    refine V_aload_n C 0 dX5_readTarget_47 rfl 0 rfl ?_
    refine V_getf (v := .ref (E.1 2 0)) C 1 0 m_1 fl_RX5_12 rfl rfl dX5_readTarget_48 ?_
    refine V_aload_n C 0 dX5_readTarget_51 rfl 0 rfl ?_
    refine V_getf (v := .int (μ_8 1 0 11)) C 1 0 m_1 fl_RX5_41 rfl rfl dX5_readTarget_52 ?_
    obtain ⟨v_13, hv, h⟩ := bP_inv h
    refine V_callVo C 2 0 m_2 (some (.int v_13)) (con_X6_codeAt hl (μ_8 1 0 11) hv) tb_X6_codeAt lk_RX5_77 rfl rfl rfl (by decide) (by decide) rfl (Nat.le_of_ble_eq_true rfl) rfl dX5_readTarget_55 rfl ?_
    clear hv
    refine V_bipush C (58 : Int32) dX5_readTarget_58 (by decide) ?_
    refine V_icmp_ne C (tgt := 88) dX5_readTarget_60 (by decide) (fun hc => ?_) (fun hc => ?_)
    · replace h := (if_neg hc).symm.trans h
      refine V_sub (LP := [(0, .ref (E.1 1 0)), (1, .int x_4)]) [0, 1] rfl ?_
      exact J_11 _ _ h
    · replace h := (if_pos hc).symm.trans h
      refine V_aload_n C 0 dX5_readTarget_63 rfl 0 rfl ?_
      refine V_iload_n C 2 dX5_readTarget_64 rfl 2 rfl ?_
      refine V_bipush C (65 : Int32) dX5_readTarget_65 (by decide) ?_
      refine V_isub C dX5_readTarget_67 ?_
      refine V_putI C 1 0 m_1 fp_RX5_74 rfl rfl rfl rfl (Nat.le_of_ble_eq_true rfl) dX5_readTarget_68 ?_
      refine V_memn (fun μ_14 hn9 => ?_)
      replace h := lt_eq hn9 h; clear hn9
      refine V_aload_n C 0 dX5_readTarget_71 rfl 0 rfl ?_
      refine V_dup C dX5_readTarget_72 rfl ?_
      refine V_getf (v := .int (μ_14 1 0 11)) C 1 0 m_1 fl_RX5_41 rfl rfl dX5_readTarget_73 ?_
      refine V_iconst C (1 : Int32) dX5_readTarget_76 (by decide) ?_
      refine V_iadd C dX5_readTarget_77 ?_
      refine V_putI C 1 0 m_1 fp_RX5_41 rfl rfl rfl rfl (Nat.le_of_ble_eq_true rfl) dX5_readTarget_78 ?_
      refine V_memn (fun μ_15 hn9 => ?_)
      replace h := lt_eq hn9 h; clear hn9
      refine V_aload_n C 0 dX5_readTarget_81 rfl 0 rfl ?_
      obtain ⟨u_16, μ_17, hv, h⟩ := bW_inv h
      refine V_callVo C 1 0 m_1 none (con_X5_skipBlanks hl hv) tb_X5_skipBlanks lk_RX5_71 rfl rfl rfl (by decide) (by decide) rfl (Nat.le_of_ble_eq_true rfl) rfl dX5_readTarget_82 rfl ?_
      clear hv
      refine V_goto C (tgt := 93) dX5_readTarget_85 (by decide) ?_
      cases h
      exact V_return C rfl rfl dX5_readTarget_93
set_option maxHeartbeats 4000000 in
set_option maxRecDepth 100000 in
theorem con_X5_isDigit {l : Launch} {E : WE} (hl : l.stackTraces = false) (a0 : Int32)  {μ : Mem} {x} (h : f_X5_isDigit a0 μ = some x) : Con l E lvC yX5_isDigit cX5_isDigit 1 (some .boolean) 0 [.int a0] μ (rPi x μ) := by
  refine Con.of (by decide) hl (Nat.le_of_ble_eq_true rfl) (fun Y C => ?_)
  replace C : Ok Y l E lvC 1 RX5 cX5_isDigit (some .boolean) 0 := C
  show V Y l E lvC 1 (rPi x μ) 0 [(0, .int a0)] [] μ
  unfold f_X5_isDigit at h
  refine V_iload_n C 0 dX5_isDigit_0 rfl 0 rfl ?_
  refine V_bipush C (48 : Int32) dX5_isDigit_1 (by decide) ?_
  obtain ⟨j_1, hj_1, h⟩ := jn_ex h
  have J_1 : ∀ (_ : Unit) x, j_1 () = some x → V Y l E lvC 1 (rPi x μ) 16 [] [] μ := by
    intro _  x h
    rw [hj_1] at h; clear hj_1
    refine V_iconst C (0 : Int32) dX5_isDigit_16 (by decide) ?_
    cases h
    exact V_ireturn C rfl rfl rfl dX5_isDigit_17
  clear hj_1
  refine V_icmp_lt C (tgt := 16) dX5_isDigit_3 (by decide) (fun hc => ?_) (fun hc => ?_)
  · replace h := (if_pos hc).symm.trans h
    refine V_sub (LP := []) [] rfl ?_
    exact J_1 () _ h
  · replace h := (if_neg hc).symm.trans h
    refine V_iload_n C 0 dX5_isDigit_6 rfl 0 rfl ?_
    refine V_bipush C (57 : Int32) dX5_isDigit_7 (by decide) ?_
    refine V_icmp_gt C (tgt := 16) dX5_isDigit_9 (by decide) (fun hc => ?_) (fun hc => ?_)
    · replace h := (if_pos hc).symm.trans h
      refine V_sub (LP := []) [] rfl ?_
      exact J_1 () _ h
    · replace h := (if_neg hc).symm.trans h
      refine V_iconst C (1 : Int32) dX5_isDigit_12 (by decide) ?_
      refine V_goto C (tgt := 17) dX5_isDigit_13 (by decide) ?_
      cases h
      exact V_ireturn C rfl rfl rfl dX5_isDigit_17
set_option maxHeartbeats 4000000 in
set_option maxRecDepth 100000 in
theorem lp_X5_readNumber_40 {Y : Mc} {l : Launch} {E : WE} (hl : l.stackTraces = false) (C : Ok Y l E lvC 4 RX5 cX5_readNumber (some .boolean) 1) {κ : Int32 → Int32 → Mem → Option (Int32 × Mem)} (c1_6 : Int32)  (hκ : ∀ (a2_16 : Int32) (a3_17 : Int32) (μ_18 : Mem) x, κ a2_16 a3_17 μ_18 = some x → V Y l E lvC 4 (rWi x) 99 [(0, .ref (E.1 1 0)), (1, .int c1_6), (2, .int a2_16), (3, .int a3_17)] [] μ_18) : ∀ (n : Nat) (a2_7 : Int32) (a3_8 : Int32) (μ_9 : Mem) {x}, f_X5_readNumber_L40 κ c1_6 n a2_7 a3_8 μ_9 = some x → V Y l E lvC 4 (rWi x) 40 [(0, .ref (E.1 1 0)), (1, .int c1_6), (2, .int a2_7), (3, .int a3_8)] [] μ_9 := by
  intro n
  induction n with
  | zero =>
    intro a2_7 a3_8 μ_9 x h
    simp [f_X5_readNumber_L40] at h
  | succ n ih =>
    intro a2_7 a3_8 μ_9 x h
    rw [f_X5_readNumber_L40] at h
    refine V_iload_n C 3 dX5_readNumber_40 rfl 3 rfl ?_
    refine V_bipush C (9 : Int32) dX5_readNumber_41 (by decide) ?_
    refine V_icmp_ge C (tgt := 99) dX5_readNumber_43 (by decide) (fun hc => ?_) (fun hc => ?_)
    · replace h := (if_pos hc).symm.trans h
      refine V_sub (LP := [(0, .ref (E.1 1 0)), (1, .int c1_6), (2, .int a2_7), (3, .int a3_8)]) [0, 1, 2, 3] rfl ?_
      exact hκ _ _ _ _ h
    · replace h := (if_neg hc).symm.trans h
      refine V_aload_n C 0 dX5_readNumber_46 rfl 0 rfl ?_
      refine V_getf (v := .ref (E.1 2 0)) C 1 0 m_1 fl_RX5_12 rfl rfl dX5_readNumber_47 ?_
      refine V_aload_n C 0 dX5_readNumber_50 rfl 0 rfl ?_
      refine V_getf (v := .int (μ_9 1 0 11)) C 1 0 m_1 fl_RX5_41 rfl rfl dX5_readNumber_51 ?_
      obtain ⟨v_10, hv, h⟩ := bP_inv h
      refine V_callVo C 2 0 m_2 (some (.int v_10)) (con_X6_codeAt hl (μ_9 1 0 11) hv) tb_X6_codeAt lk_RX5_77 rfl rfl rfl (by decide) (by decide) rfl (Nat.le_of_ble_eq_true rfl) rfl dX5_readNumber_54 rfl ?_
      clear hv
      obtain ⟨v_11, hv, h⟩ := bP_inv h
      refine V_callSo C (some (.int v_11)) (con_X5_isDigit hl v_10 hv) tb_X5_isDigit lk_RX5_85 (by decide) (by decide) rfl (Nat.le_of_ble_eq_true rfl) rfl dX5_readNumber_57 rfl ?_
      clear hv
      refine V_if_eq C (tgt := 99) dX5_readNumber_60 (by decide) (fun hc => ?_) (fun hc => ?_)
      · replace h := (if_pos hc).symm.trans h
        refine V_sub (LP := [(0, .ref (E.1 1 0)), (1, .int c1_6), (2, .int a2_7), (3, .int a3_8)]) [0, 1, 2, 3] rfl ?_
        exact hκ _ _ _ _ h
      · replace h := (if_neg hc).symm.trans h
        refine V_bipush C (10 : Int32) dX5_readNumber_63 (by decide) ?_
        refine V_iload_n C 2 dX5_readNumber_65 rfl 2 rfl ?_
        refine V_imul C dX5_readNumber_66 ?_
        refine V_aload_n C 0 dX5_readNumber_67 rfl 0 rfl ?_
        refine V_getf (v := .ref (E.1 2 0)) C 1 0 m_1 fl_RX5_12 rfl rfl dX5_readNumber_68 ?_
        refine V_aload_n C 0 dX5_readNumber_71 rfl 0 rfl ?_
        refine V_getf (v := .int (μ_9 1 0 11)) C 1 0 m_1 fl_RX5_41 rfl rfl dX5_readNumber_72 ?_
        obtain ⟨v_12, hv, h⟩ := bP_inv h
        refine V_callVo C 2 0 m_2 (some (.int v_12)) (con_X6_codeAt hl (μ_9 1 0 11) hv) tb_X6_codeAt lk_RX5_77 rfl rfl rfl (by decide) (by decide) rfl (Nat.le_of_ble_eq_true rfl) rfl dX5_readNumber_75 rfl ?_
        clear hv
        refine V_bipush C (48 : Int32) dX5_readNumber_78 (by decide) ?_
        refine V_isub C dX5_readNumber_80 ?_
        refine V_iadd C dX5_readNumber_81 ?_
        refine V_topi (fun x_13 hn9 => ?_)
        replace h := lt_eq hn9 h; clear hn9
        refine V_istore_n (L' := [(0, .ref (E.1 1 0)), (1, .int c1_6), (2, .int x_13), (3, .int a3_8)]) C 2 dX5_readNumber_82 rfl (by decide) [1, 2, 0, 3] rfl ?_
        refine V_aload_n C 0 dX5_readNumber_83 rfl 0 rfl ?_
        refine V_dup C dX5_readNumber_84 rfl ?_
        refine V_getf (v := .int (μ_9 1 0 11)) C 1 0 m_1 fl_RX5_41 rfl rfl dX5_readNumber_85 ?_
        refine V_iconst C (1 : Int32) dX5_readNumber_88 (by decide) ?_
        refine V_iadd C dX5_readNumber_89 ?_
        refine V_putI C 1 0 m_1 fp_RX5_41 rfl rfl rfl rfl (Nat.le_of_ble_eq_true rfl) dX5_readNumber_90 ?_
        refine V_memn (fun μ_14 hn9 => ?_)
        replace h := lt_eq hn9 h; clear hn9
        obtain ⟨x_15, hn9⟩ : ∃ z : Int32, z = a3_8 + (1 : Int32) := ⟨_, rfl⟩
        replace h := lt_eq hn9 h
        refine V_iinc (L' := [(0, .ref (E.1 1 0)), (1, .int c1_6), (2, .int x_13), (3, .int x_15)]) C x_15 dX5_readNumber_93 3 rfl (by rw [hn9]; exact congrArg (a3_8 + ·) (by decide)) (by decide) [1, 2, 3, 0] rfl ?_
        clear hn9
        refine V_goto C (tgt := 40) dX5_readNumber_96 (by decide) ?_
        refine V_sub (LP := [(0, .ref (E.1 1 0)), (1, .int c1_6), (2, .int x_13), (3, .int x_15)]) [0, 1, 2, 3] rfl ?_
        exact ih _ _ _ h
set_option maxHeartbeats 4000000 in
set_option maxRecDepth 100000 in
theorem con_X5_readNumber {l : Launch} {E : WE} (hl : l.stackTraces = false)   {μ : Mem} {x} (h : f_X5_readNumber  μ = some x) : Con l E lvC yX5_readNumber cX5_readNumber 4 (some .boolean) 1 [.ref (E.1 1 0)] μ (rWi x) := by
  refine Con.of (by decide) hl (Nat.le_of_ble_eq_true rfl) (fun Y C => ?_)
  replace C : Ok Y l E lvC 4 RX5 cX5_readNumber (some .boolean) 1 := C
  show V Y l E lvC 4 (rWi x) 0 [(0, .ref (E.1 1 0))] [] μ
  unfold f_X5_readNumber at h
  refine V_aload_n C 0 dX5_readNumber_0 rfl 0 rfl ?_
  refine V_getf (v := .ref (E.1 2 0)) C 1 0 m_1 fl_RX5_12 rfl rfl dX5_readNumber_1 ?_
  refine V_aload_n C 0 dX5_readNumber_4 rfl 0 rfl ?_
  refine V_getf (v := .int (μ 1 0 11)) C 1 0 m_1 fl_RX5_41 rfl rfl dX5_readNumber_5 ?_
  obtain ⟨v_1, hv, h⟩ := bP_inv h
  refine V_callVo C 2 0 m_2 (some (.int v_1)) (con_X6_codeAt hl (μ 1 0 11) hv) tb_X6_codeAt lk_RX5_77 rfl rfl rfl (by decide) (by decide) rfl (Nat.le_of_ble_eq_true rfl) rfl dX5_readNumber_8 rfl ?_
  clear hv
  refine V_bipush C (95 : Int32) dX5_readNumber_11 (by decide) ?_
  obtain ⟨j_3, hj_3, h⟩ := jn_ex h
  have J_3 : ∀ (s_2 : Int32) x, j_3 s_2 = some x → V Y l E lvC 4 (rWi x) 21 [(0, .ref (E.1 1 0))] [.int s_2] μ := by
    intro s_2  x h
    rw [hj_3] at h; clear hj_3
    refine V_istore_n (L' := [(0, .ref (E.1 1 0)), (1, .int s_2)]) C 1 dX5_readNumber_21 rfl (by decide) [1, 0] rfl ?_
    refine V_iload_n C 1 dX5_readNumber_22 rfl 1 rfl ?_
    obtain ⟨j_5, hj_5, h⟩ := jn_ex h
    have J_5 : ∀ (μ_4 : Mem) x, j_5 μ_4 = some x → V Y l E lvC 4 (rWi x) 36 [(0, .ref (E.1 1 0)), (1, .int s_2)] [] μ_4 := by
      intro μ_4  x h
      rw [hj_5] at h; clear hj_5
      refine V_iconst C (0 : Int32) dX5_readNumber_36 (by decide) ?_
      refine V_istore_n (L' := [(0, .ref (E.1 1 0)), (1, .int s_2), (2, .int (0 : Int32))]) C 2 dX5_readNumber_37 rfl (by decide) [1, 2, 0] rfl ?_
      refine V_iconst C (0 : Int32) dX5_readNumber_38 (by decide) ?_
      refine V_istore_n (L' := [(0, .ref (E.1 1 0)), (1, .int s_2), (2, .int (0 : Int32)), (3, .int (0 : Int32))]) C 3 dX5_readNumber_39 rfl (by decide) [1, 2, 3, 0] rfl ?_
      refine V_sub (LP := [(0, .ref (E.1 1 0)), (1, .int s_2), (2, .int (0 : Int32)), (3, .int (0 : Int32))]) [0, 1, 2, 3] rfl ?_
      refine lp_X5_readNumber_40 hl C s_2 (fun a2_19 a3_20 μ_21 x h => ?_) 1000 _ _ _ h
      refine V_aload_n C 0 dX5_readNumber_99 rfl 0 rfl ?_
      refine V_getf (v := .ref (E.1 10 0)) C 1 0 m_1 fl_RX5_38 rfl rfl dX5_readNumber_100 ?_
      refine V_aload_n C 0 dX5_readNumber_103 rfl 0 rfl ?_
      refine V_getf (v := .int (μ_21 1 0 9)) C 1 0 m_1 fl_RX5_48 rfl rfl dX5_readNumber_104 ?_
      refine V_iload_n C 1 dX5_readNumber_107 rfl 1 rfl ?_
      obtain ⟨j_23, hj_23, h⟩ := jn_ex h
      have J_23 : ∀ (s_22 : Int32) x, j_23 s_22 = some x → V Y l E lvC 4 (rWi x) 117 [(0, .ref (E.1 1 0)), (3, .int a3_20)] [.int s_22, .int (μ_21 1 0 9), .ref (E.1 10 0)] μ_21 := by
        intro s_22  x h
        rw [hj_23] at h; clear hj_23
        obtain ⟨hi9, h⟩ := gd_inv h
        refine V_iast C 10 0 m_10 (fun _ => rfl) (inb_in hi9) dX5_readNumber_117 ?_
        refine V_memn (fun μ_24 hn9 => ?_)
        replace h := lt_eq hn9 h; clear hn9
        refine V_aload_n C 0 dX5_readNumber_118 rfl 0 rfl ?_
        refine V_dup C dX5_readNumber_119 rfl ?_
        refine V_getf (v := .int (μ_24 1 0 9)) C 1 0 m_1 fl_RX5_48 rfl rfl dX5_readNumber_120 ?_
        refine V_iconst C (1 : Int32) dX5_readNumber_123 (by decide) ?_
        refine V_iadd C dX5_readNumber_124 ?_
        refine V_putI C 1 0 m_1 fp_RX5_48 rfl rfl rfl rfl (Nat.le_of_ble_eq_true rfl) dX5_readNumber_125 ?_
        refine V_memn (fun μ_25 hn9 => ?_)
        replace h := lt_eq hn9 h; clear hn9
        refine V_iload_n C 3 dX5_readNumber_128 rfl 1 rfl ?_
        obtain ⟨j_26, hj_26, h⟩ := jn_ex h
        have J_26 : ∀ (_ : Unit) x, j_26 () = some x → V Y l E lvC 4 (rWi x) 169 [] [] μ_25 := by
          intro _  x h
          rw [hj_26] at h; clear hj_26
          refine V_iconst C (0 : Int32) dX5_readNumber_169 (by decide) ?_
          cases h
          exact V_ireturn C rfl rfl rfl dX5_readNumber_170
        clear hj_26
        refine V_if_le C (tgt := 169) dX5_readNumber_129 (by decide) (fun hc => ?_) (fun hc => ?_)
        · replace h := (if_pos hc).symm.trans h
          refine V_sub (LP := []) [] rfl ?_
          exact J_26 () _ h
        · replace h := (if_neg hc).symm.trans h
          refine V_aload_n C 0 dX5_readNumber_132 rfl 0 rfl ?_
          refine V_getf (v := .ref (E.1 2 0)) C 1 0 m_1 fl_RX5_12 rfl rfl dX5_readNumber_133 ?_
          refine V_aload_n C 0 dX5_readNumber_136 rfl 0 rfl ?_
          refine V_getf (v := .int (μ_25 1 0 11)) C 1 0 m_1 fl_RX5_41 rfl rfl dX5_readNumber_137 ?_
          obtain ⟨v_27, hv, h⟩ := bP_inv h
          refine V_callVo C 2 0 m_2 (some (.int v_27)) (con_X6_codeAt hl (μ_25 1 0 11) hv) tb_X6_codeAt lk_RX5_77 rfl rfl rfl (by decide) (by decide) rfl (Nat.le_of_ble_eq_true rfl) rfl dX5_readNumber_140 rfl ?_
          clear hv
          obtain ⟨v_28, hv, h⟩ := bP_inv h
          refine V_callSo C (some (.int v_28)) (con_X5_isDigit hl v_27 hv) tb_X5_isDigit lk_RX5_85 (by decide) (by decide) rfl (Nat.le_of_ble_eq_true rfl) rfl dX5_readNumber_143 rfl ?_
          clear hv
          refine V_if_ne C (tgt := 169) dX5_readNumber_146 (by decide) (fun hc => ?_) (fun hc => ?_)
          · replace h := (if_neg hc).symm.trans h
            refine V_sub (LP := []) [] rfl ?_
            exact J_26 () _ h
          · replace h := (if_pos hc).symm.trans h
            refine V_aload_n C 0 dX5_readNumber_149 rfl 0 rfl ?_
            refine V_getf (v := .ref (E.1 2 0)) C 1 0 m_1 fl_RX5_12 rfl rfl dX5_readNumber_150 ?_
            refine V_aload_n C 0 dX5_readNumber_153 rfl 0 rfl ?_
            refine V_getf (v := .int (μ_25 1 0 11)) C 1 0 m_1 fl_RX5_41 rfl rfl dX5_readNumber_154 ?_
            obtain ⟨v_29, hv, h⟩ := bP_inv h
            refine V_callVo C 2 0 m_2 (some (.int v_29)) (con_X6_codeAt hl (μ_25 1 0 11) hv) tb_X6_codeAt lk_RX5_77 rfl rfl rfl (by decide) (by decide) rfl (Nat.le_of_ble_eq_true rfl) rfl dX5_readNumber_157 rfl ?_
            clear hv
            refine V_bipush C (95 : Int32) dX5_readNumber_160 (by decide) ?_
            refine V_icmp_eq C (tgt := 169) dX5_readNumber_162 (by decide) (fun hc => ?_) (fun hc => ?_)
            · replace h := (if_pos hc).symm.trans h
              refine V_sub (LP := []) [] rfl ?_
              exact J_26 () _ h
            · replace h := (if_neg hc).symm.trans h
              refine V_iconst C (1 : Int32) dX5_readNumber_165 (by decide) ?_
              refine V_goto C (tgt := 170) dX5_readNumber_166 (by decide) ?_
              cases h
              exact V_ireturn C rfl rfl rfl dX5_readNumber_170
      clear hj_23
      refine V_if_eq C (tgt := 116) dX5_readNumber_108 (by decide) (fun hc => ?_) (fun hc => ?_)
      · replace h := (if_pos hc).symm.trans h
        refine V_iload_n C 2 dX5_readNumber_116 rfl 2 rfl ?_
        refine V_sub (LP := [(0, .ref (E.1 1 0)), (3, .int a3_20)]) [0, 3] rfl ?_
        exact J_23 _ _ h
      · replace h := (if_neg hc).symm.trans h
        refine V_iload_n C 2 dX5_readNumber_111 rfl 2 rfl ?_
        refine V_ineg C dX5_readNumber_112 ?_
        refine V_goto C (tgt := 117) dX5_readNumber_113 (by decide) ?_
        refine V_sub (LP := [(0, .ref (E.1 1 0)), (3, .int a3_20)]) [0, 3] rfl ?_
        exact J_23 _ _ h
    clear hj_5
    refine V_if_eq C (tgt := 36) dX5_readNumber_23 (by decide) (fun hc => ?_) (fun hc => ?_)
    · replace h := (if_pos hc).symm.trans h
      refine V_sub (LP := [(0, .ref (E.1 1 0)), (1, .int s_2)]) [0, 1] rfl ?_
      exact J_5 _ _ h
    · replace h := (if_neg hc).symm.trans h
      refine V_aload_n C 0 dX5_readNumber_26 rfl 0 rfl ?_
      refine V_dup C dX5_readNumber_27 rfl ?_
      refine V_getf (v := .int (μ 1 0 11)) C 1 0 m_1 fl_RX5_41 rfl rfl dX5_readNumber_28 ?_
      refine V_iconst C (1 : Int32) dX5_readNumber_31 (by decide) ?_
      refine V_iadd C dX5_readNumber_32 ?_
      refine V_putI C 1 0 m_1 fp_RX5_41 rfl rfl rfl rfl (Nat.le_of_ble_eq_true rfl) dX5_readNumber_33 ?_
      refine V_memn (fun μ_30 hn9 => ?_)
      replace h := lt_eq hn9 h; clear hn9
      refine V_sub (LP := [(0, .ref (E.1 1 0)), (1, .int s_2)]) [0, 1] rfl ?_
      exact J_5 _ _ h
  clear hj_3
  refine V_icmp_ne C (tgt := 20) dX5_readNumber_13 (by decide) (fun hc => ?_) (fun hc => ?_)
  · replace h := (if_neg hc).symm.trans h
    refine V_iconst C (0 : Int32) dX5_readNumber_20 (by decide) ?_
    refine V_sub (LP := [(0, .ref (E.1 1 0))]) [0] rfl ?_
    exact J_3 _ _ h
  · replace h := (if_pos hc).symm.trans h
    refine V_iconst C (1 : Int32) dX5_readNumber_16 (by decide) ?_
    refine V_goto C (tgt := 21) dX5_readNumber_17 (by decide) ?_
    refine V_sub (LP := [(0, .ref (E.1 1 0))]) [0] rfl ?_
    exact J_3 _ _ h
set_option maxHeartbeats 4000000 in
set_option maxRecDepth 100000 in
theorem con_X5_addStep {l : Launch} {E : WE} (hl : l.stackTraces = false) (a1 : Int32)  {μ : Mem} {x} (h : f_X5_addStep a1 μ = some x) : Con l E lvC yX5_addStep cX5_addStep 2 none 0 [.ref (E.1 1 0), .int a1] μ (rWu x) := by
  refine Con.of (by decide) hl (Nat.le_of_ble_eq_true rfl) (fun Y C => ?_)
  replace C : Ok Y l E lvC 2 RX5 cX5_addStep none 0 := C
  show V Y l E lvC 2 (rWu x) 0 [(0, .ref (E.1 1 0)), (1, .int a1)] [] μ
  unfold f_X5_addStep at h
  refine V_aload_n C 0 dX5_addStep_0 rfl 0 rfl ?_
  refine V_getf (v := .ref (E.1 4 0)) C 1 0 m_1 fl_RX5_18 rfl rfl dX5_addStep_1 ?_
  refine V_aload_n C 0 dX5_addStep_4 rfl 0 rfl ?_
  refine V_getf (v := .int (μ 1 0 8)) C 1 0 m_1 fl_RX5_45 rfl rfl dX5_addStep_5 ?_
  refine V_iload_n C 1 dX5_addStep_8 rfl 1 rfl ?_
  obtain ⟨hi9, h⟩ := gd_inv h
  refine V_iast C 4 0 m_4 (fun _ => rfl) (inb_in hi9) dX5_addStep_9 ?_
  refine V_memn (fun μ_1 hn9 => ?_)
  replace h := lt_eq hn9 h; clear hn9
  refine V_aload_n C 0 dX5_addStep_10 rfl 0 rfl ?_
  refine V_dup C dX5_addStep_11 rfl ?_
  refine V_getf (v := .int (μ_1 1 0 8)) C 1 0 m_1 fl_RX5_45 rfl rfl dX5_addStep_12 ?_
  refine V_iconst C (1 : Int32) dX5_addStep_15 (by decide) ?_
  refine V_iadd C dX5_addStep_16 ?_
  refine V_putI C 1 0 m_1 fp_RX5_45 rfl rfl rfl rfl (Nat.le_of_ble_eq_true rfl) dX5_addStep_17 ?_
  refine V_memn (fun μ_2 hn9 => ?_)
  replace h := lt_eq hn9 h; clear hn9
  cases h
  exact V_return C rfl rfl dX5_addStep_20
set_option maxHeartbeats 4000000 in
set_option maxRecDepth 100000 in
theorem lp_X5_readNumbers_7 {Y : Mc} {l : Launch} {E : WE} (hl : l.stackTraces = false) (C : Ok Y l E lvC 3 RX5 cX5_readNumbers (some .boolean) 2) {κ : Mem → Option (Int32 × Mem)} (c1_2 : Int32)  (hκ : ∀  (μ_14 : Mem) x, κ  μ_14 = some x → V Y l E lvC 3 (rWi x) 69 [(0, .ref (E.1 1 0)), (1, .int c1_2)] [] μ_14) : ∀ (n : Nat) (a2_3 : Int32) (μ_4 : Mem) {x}, f_X5_readNumbers_L7 κ c1_2 n a2_3 μ_4 = some x → V Y l E lvC 3 (rWi x) 7 [(0, .ref (E.1 1 0)), (1, .int c1_2), (2, .int a2_3)] [] μ_4 := by
  intro n
  induction n with
  | zero =>
    intro a2_3 μ_4 x h
    simp [f_X5_readNumbers_L7] at h
  | succ n ih =>
    intro a2_3 μ_4 x h
    rw [f_X5_readNumbers_L7] at h
    refine V_iload_n C 2 dX5_readNumbers_7 rfl 2 rfl ?_
    refine V_sipush C (200 : Int32) dX5_readNumbers_8 (by decide) ?_
    refine V_icmp_ge C (tgt := 69) dX5_readNumbers_11 (by decide) (fun hc => ?_) (fun hc => ?_)
    · replace h := (if_pos hc).symm.trans h
      refine V_sub (LP := [(0, .ref (E.1 1 0)), (1, .int c1_2)]) [0, 1] rfl ?_
      exact hκ _ _ h
    · replace h := (if_neg hc).symm.trans h
      refine V_aload_n C 0 dX5_readNumbers_14 rfl 0 rfl ?_
      refine V_getf (v := .ref (E.1 2 0)) C 1 0 m_1 fl_RX5_12 rfl rfl dX5_readNumbers_15 ?_
      refine V_aload_n C 0 dX5_readNumbers_18 rfl 0 rfl ?_
      refine V_getf (v := .int (μ_4 1 0 11)) C 1 0 m_1 fl_RX5_41 rfl rfl dX5_readNumbers_19 ?_
      obtain ⟨v_5, hv, h⟩ := bP_inv h
      refine V_callVo C 2 0 m_2 (some (.int v_5)) (con_X6_codeAt hl (μ_4 1 0 11) hv) tb_X6_codeAt lk_RX5_77 rfl rfl rfl (by decide) (by decide) rfl (Nat.le_of_ble_eq_true rfl) rfl dX5_readNumbers_22 rfl ?_
      clear hv
      obtain ⟨v_6, hv, h⟩ := bP_inv h
      refine V_callSo C (some (.int v_6)) (con_X5_isDigit hl v_5 hv) tb_X5_isDigit lk_RX5_85 (by decide) (by decide) rfl (Nat.le_of_ble_eq_true rfl) rfl dX5_readNumbers_25 rfl ?_
      clear hv
      obtain ⟨j_7, hj_7, h⟩ := jn_ex h
      have J_7 : ∀ (_ : Unit) x, j_7 () = some x → V Y l E lvC 3 (rWi x) 50 [(0, .ref (E.1 1 0)), (1, .int c1_2), (2, .int a2_3)] [] μ_4 := by
        intro _  x h
        rw [hj_7] at h; clear hj_7
        refine V_aload_n C 0 dX5_readNumbers_50 rfl 0 rfl ?_
        obtain ⟨v_8, μ_9, hv, h⟩ := bW_inv h
        refine V_callVo C 1 0 m_1 (some (.int v_8)) (con_X5_readNumber hl hv) tb_X5_readNumber lk_RX5_120 rfl rfl rfl (by decide) (by decide) rfl (Nat.le_of_ble_eq_true rfl) rfl dX5_readNumbers_51 rfl ?_
        clear hv
        refine V_if_ne C (tgt := 59) dX5_readNumbers_54 (by decide) (fun hc => ?_) (fun hc => ?_)
        · replace h := (if_neg hc).symm.trans h
          refine V_aload_n C 0 dX5_readNumbers_59 rfl 0 rfl ?_
          obtain ⟨u_10, μ_11, hv, h⟩ := bW_inv h
          refine V_callVo C 1 0 m_1 none (con_X5_skipBlanks hl hv) tb_X5_skipBlanks lk_RX5_71 rfl rfl rfl (by decide) (by decide) rfl (Nat.le_of_ble_eq_true rfl) rfl dX5_readNumbers_60 rfl ?_
          clear hv
          obtain ⟨x_12, hn9⟩ : ∃ z : Int32, z = a2_3 + (1 : Int32) := ⟨_, rfl⟩
          replace h := lt_eq hn9 h
          refine V_iinc (L' := [(0, .ref (E.1 1 0)), (1, .int c1_2), (2, .int x_12)]) C x_12 dX5_readNumbers_63 2 rfl (by rw [hn9]; exact congrArg (a2_3 + ·) (by decide)) (by decide) [1, 2, 0] rfl ?_
          clear hn9
          refine V_goto C (tgt := 7) dX5_readNumbers_66 (by decide) ?_
          refine V_sub (LP := [(0, .ref (E.1 1 0)), (1, .int c1_2), (2, .int x_12)]) [0, 1, 2] rfl ?_
          exact ih _ _ h
        · replace h := (if_pos hc).symm.trans h
          refine V_iconst C (0 : Int32) dX5_readNumbers_57 (by decide) ?_
          cases h
          exact V_ireturn C rfl rfl rfl dX5_readNumbers_58
      clear hj_7
      refine V_if_ne C (tgt := 50) dX5_readNumbers_28 (by decide) (fun hc => ?_) (fun hc => ?_)
      · replace h := (if_neg hc).symm.trans h
        refine V_sub (LP := [(0, .ref (E.1 1 0)), (1, .int c1_2), (2, .int a2_3)]) [0, 1, 2] rfl ?_
        exact J_7 () _ h
      · replace h := (if_pos hc).symm.trans h
        refine V_aload_n C 0 dX5_readNumbers_31 rfl 0 rfl ?_
        refine V_getf (v := .ref (E.1 2 0)) C 1 0 m_1 fl_RX5_12 rfl rfl dX5_readNumbers_32 ?_
        refine V_aload_n C 0 dX5_readNumbers_35 rfl 0 rfl ?_
        refine V_getf (v := .int (μ_4 1 0 11)) C 1 0 m_1 fl_RX5_41 rfl rfl dX5_readNumbers_36 ?_
        obtain ⟨v_13, hv, h⟩ := bP_inv h
        refine V_callVo C 2 0 m_2 (some (.int v_13)) (con_X6_codeAt hl (μ_4 1 0 11) hv) tb_X6_codeAt lk_RX5_77 rfl rfl rfl (by decide) (by decide) rfl (Nat.le_of_ble_eq_true rfl) rfl dX5_readNumbers_39 rfl ?_
        clear hv
        refine V_bipush C (95 : Int32) dX5_readNumbers_42 (by decide) ?_
        refine V_icmp_eq C (tgt := 50) dX5_readNumbers_44 (by decide) (fun hc => ?_) (fun hc => ?_)
        · replace h := (if_pos hc).symm.trans h
          refine V_sub (LP := [(0, .ref (E.1 1 0)), (1, .int c1_2), (2, .int a2_3)]) [0, 1, 2] rfl ?_
          exact J_7 () _ h
        · replace h := (if_neg hc).symm.trans h
          refine V_goto C (tgt := 69) dX5_readNumbers_47 (by decide) ?_
          refine V_sub (LP := [(0, .ref (E.1 1 0)), (1, .int c1_2)]) [0, 1] rfl ?_
          exact hκ _ _ h
set_option maxHeartbeats 4000000 in
set_option maxRecDepth 100000 in
theorem con_X5_readNumbers {l : Launch} {E : WE} (hl : l.stackTraces = false)   {μ : Mem} {x} (h : f_X5_readNumbers  μ = some x) : Con l E lvC yX5_readNumbers cX5_readNumbers 3 (some .boolean) 2 [.ref (E.1 1 0)] μ (rWi x) := by
  refine Con.of (by decide) hl (Nat.le_of_ble_eq_true rfl) (fun Y C => ?_)
  replace C : Ok Y l E lvC 3 RX5 cX5_readNumbers (some .boolean) 2 := C
  show V Y l E lvC 3 (rWi x) 0 [(0, .ref (E.1 1 0))] [] μ
  unfold f_X5_readNumbers at h
  refine V_aload_n C 0 dX5_readNumbers_0 rfl 0 rfl ?_
  refine V_getf (v := .int (μ 1 0 9)) C 1 0 m_1 fl_RX5_48 rfl rfl dX5_readNumbers_1 ?_
  refine V_topi (fun x_1 hn9 => ?_)
  replace h := lt_eq hn9 h; clear hn9
  refine V_istore_n (L' := [(0, .ref (E.1 1 0)), (1, .int x_1)]) C 1 dX5_readNumbers_4 rfl (by decide) [1, 0] rfl ?_
  refine V_iconst C (0 : Int32) dX5_readNumbers_5 (by decide) ?_
  refine V_istore_n (L' := [(0, .ref (E.1 1 0)), (1, .int x_1), (2, .int (0 : Int32))]) C 2 dX5_readNumbers_6 rfl (by decide) [1, 2, 0] rfl ?_
  refine V_sub (LP := [(0, .ref (E.1 1 0)), (1, .int x_1), (2, .int (0 : Int32))]) [0, 1, 2] rfl ?_
  refine lp_X5_readNumbers_7 hl C x_1 (fun μ_15 x h => ?_) 1000 _ _ h
  refine V_aload_n C 0 dX5_readNumbers_69 rfl 0 rfl ?_
  refine V_getf (v := .ref (E.1 5 0)) C 1 0 m_1 fl_RX5_22 rfl rfl dX5_readNumbers_70 ?_
  refine V_aload_n C 0 dX5_readNumbers_73 rfl 0 rfl ?_
  refine V_getf (v := .int (μ_15 1 0 8)) C 1 0 m_1 fl_RX5_45 rfl rfl dX5_readNumbers_74 ?_
  refine V_iload_n C 1 dX5_readNumbers_77 rfl 1 rfl ?_
  obtain ⟨hi9, h⟩ := gd_inv h
  refine V_iast C 5 0 m_5 (fun _ => rfl) (inb_in hi9) dX5_readNumbers_78 ?_
  refine V_memn (fun μ_16 hn9 => ?_)
  replace h := lt_eq hn9 h; clear hn9
  refine V_aload_n C 0 dX5_readNumbers_79 rfl 0 rfl ?_
  refine V_getf (v := .ref (E.1 6 0)) C 1 0 m_1 fl_RX5_25 rfl rfl dX5_readNumbers_80 ?_
  refine V_aload_n C 0 dX5_readNumbers_83 rfl 0 rfl ?_
  refine V_getf (v := .int (μ_16 1 0 8)) C 1 0 m_1 fl_RX5_45 rfl rfl dX5_readNumbers_84 ?_
  refine V_aload_n C 0 dX5_readNumbers_87 rfl 0 rfl ?_
  refine V_getf (v := .int (μ_16 1 0 9)) C 1 0 m_1 fl_RX5_48 rfl rfl dX5_readNumbers_88 ?_
  refine V_iload_n C 1 dX5_readNumbers_91 rfl 1 rfl ?_
  refine V_isub C dX5_readNumbers_92 ?_
  obtain ⟨hi9, h⟩ := gd_inv h
  refine V_iast C 6 0 m_6 (fun _ => rfl) (inb_in hi9) dX5_readNumbers_93 ?_
  refine V_memn (fun μ_17 hn9 => ?_)
  replace h := lt_eq hn9 h; clear hn9
  refine V_aload_n C 0 dX5_readNumbers_94 rfl 0 rfl ?_
  refine V_iconst C (0 : Int32) dX5_readNumbers_95 (by decide) ?_
  obtain ⟨u_18, μ_19, hv, h⟩ := bW_inv h
  refine V_callVo C 1 0 m_1 none (con_X5_addStep hl (0 : Int32) hv) tb_X5_addStep lk_RX5_91 rfl rfl rfl (by decide) (by decide) rfl (Nat.le_of_ble_eq_true rfl) rfl dX5_readNumbers_96 rfl ?_
  clear hv
  refine V_aload_n C 0 dX5_readNumbers_99 rfl 0 rfl ?_
  refine V_iconst C (0 : Int32) dX5_readNumbers_100 (by decide) ?_
  refine V_putI C 1 0 m_1 fp_RX5_54 rfl rfl rfl rfl (Nat.le_of_ble_eq_true rfl) dX5_readNumbers_101 ?_
  refine V_memn (fun μ_20 hn9 => ?_)
  replace h := lt_eq hn9 h; clear hn9
  refine V_iconst C (1 : Int32) dX5_readNumbers_104 (by decide) ?_
  cases h
  exact V_ireturn C rfl rfl rfl dX5_readNumbers_105
set_option maxHeartbeats 4000000 in
set_option maxRecDepth 100000 in
theorem con_X5_isNumberFunction {l : Launch} {E : WE} (hl : l.stackTraces = false) (a0 : Int32)  {μ : Mem} {x} (h : f_X5_isNumberFunction a0 μ = some x) : Con l E lvC yX5_isNumberFunction cX5_isNumberFunction 1 (some .boolean) 4 [.int a0] μ (rPi x μ) := by
  refine Con.of (by decide) hl (Nat.le_of_ble_eq_true rfl) (fun Y C => ?_)
  replace C : Ok Y l E lvC 1 RX5 cX5_isNumberFunction (some .boolean) 4 := C
  show V Y l E lvC 1 (rPi x μ) 0 [(0, .int a0)] [] μ
  unfold f_X5_isNumberFunction at h
  refine V_ldcS (tx := "+-*%|<>=&^") C 0 (by decide +kernel) dX5_isNumberFunction_0 ?_
  refine V_iload_n C 0 dX5_isNumberFunction_2 rfl 0 rfl ?_
  obtain ⟨v_1, hv, h⟩ := bP_inv h
  refine V_callKo C 0 (by decide) (some (.int v_1)) (con_J0_indexOf_0f7a4 hl 0 a0 (by decide) hv) tb_J0_indexOf_0f7a4 lk_RX5_110 rfl (by decide) (by decide) rfl (Nat.le_of_ble_eq_true rfl) rfl dX5_isNumberFunction_3 rfl ?_
  clear hv
  refine V_if_lt C (tgt := 13) dX5_isNumberFunction_6 (by decide) (fun hc => ?_) (fun hc => ?_)
  · replace h := (if_pos hc).symm.trans h
    refine V_iconst C (0 : Int32) dX5_isNumberFunction_13 (by decide) ?_
    cases h
    exact V_ireturn C rfl rfl rfl dX5_isNumberFunction_14
  · replace h := (if_neg hc).symm.trans h
    refine V_iconst C (1 : Int32) dX5_isNumberFunction_9 (by decide) ?_
    refine V_goto C (tgt := 14) dX5_isNumberFunction_10 (by decide) ?_
    cases h
    exact V_ireturn C rfl rfl rfl dX5_isNumberFunction_14
set_option maxHeartbeats 4000000 in
set_option maxRecDepth 100000 in
theorem con_X5_addFunction {l : Launch} {E : WE} (hl : l.stackTraces = false) (a1 : Int32) (a2 : Int32) (a3 : Int32) (a4 : Int32)  {μ : Mem} {x} (h : f_X5_addFunction a1 a2 a3 a4 μ = some x) : Con l E lvC yX5_addFunction cX5_addFunction 5 none 1 [.ref (E.1 1 0), .int a1, .int a2, .int a3, .int a4] μ (rWu x) := by
  refine Con.of (by decide) hl (Nat.le_of_ble_eq_true rfl) (fun Y C => ?_)
  replace C : Ok Y l E lvC 5 RX5 cX5_addFunction none 1 := C
  show V Y l E lvC 5 (rWu x) 0 [(0, .ref (E.1 1 0)), (1, .int a1), (2, .int a2), (3, .int a3), (4, .int a4)] [] μ
  unfold f_X5_addFunction at h
  refine V_aload_n C 0 dX5_addFunction_0 rfl 0 rfl ?_
  refine V_getf (v := .ref (E.1 7 0)) C 1 0 m_1 fl_RX5_28 rfl rfl dX5_addFunction_1 ?_
  refine V_aload_n C 0 dX5_addFunction_4 rfl 0 rfl ?_
  refine V_getf (v := .int (μ 1 0 8)) C 1 0 m_1 fl_RX5_45 rfl rfl dX5_addFunction_5 ?_
  refine V_iload_n C 2 dX5_addFunction_8 rfl 2 rfl ?_
  obtain ⟨hi9, h⟩ := gd_inv h
  refine V_cast C 7 0 m_7 (fun _ => rfl) (inb_in hi9) dX5_addFunction_9 ?_
  refine V_memn (fun μ_1 hn9 => ?_)
  replace h := lt_eq hn9 h; clear hn9
  refine V_aload_n C 0 dX5_addFunction_10 rfl 0 rfl ?_
  refine V_getf (v := .ref (E.1 8 0)) C 1 0 m_1 fl_RX5_32 rfl rfl dX5_addFunction_11 ?_
  refine V_aload_n C 0 dX5_addFunction_14 rfl 0 rfl ?_
  refine V_getf (v := .int (μ_1 1 0 8)) C 1 0 m_1 fl_RX5_45 rfl rfl dX5_addFunction_15 ?_
  refine V_iload_n C 3 dX5_addFunction_18 rfl 3 rfl ?_
  obtain ⟨hi9, h⟩ := gd_inv h
  refine V_cast C 8 0 m_8 (fun _ => rfl) (inb_in hi9) dX5_addFunction_19 ?_
  refine V_memn (fun μ_2 hn9 => ?_)
  replace h := lt_eq hn9 h; clear hn9
  refine V_aload_n C 0 dX5_addFunction_20 rfl 0 rfl ?_
  refine V_getf (v := .ref (E.1 9 0)) C 1 0 m_1 fl_RX5_35 rfl rfl dX5_addFunction_21 ?_
  refine V_aload_n C 0 dX5_addFunction_24 rfl 0 rfl ?_
  refine V_getf (v := .int (μ_2 1 0 8)) C 1 0 m_1 fl_RX5_45 rfl rfl dX5_addFunction_25 ?_
  refine V_iload C dX5_addFunction_28 4 rfl ?_
  obtain ⟨hi9, h⟩ := gd_inv h
  refine V_cast C 9 0 m_9 (fun _ => rfl) (inb_in hi9) dX5_addFunction_30 ?_
  refine V_memn (fun μ_3 hn9 => ?_)
  replace h := lt_eq hn9 h; clear hn9
  refine V_aload_n C 0 dX5_addFunction_31 rfl 0 rfl ?_
  refine V_iload_n C 1 dX5_addFunction_32 rfl 1 rfl ?_
  obtain ⟨u_4, μ_5, hv, h⟩ := bW_inv h
  refine V_callVo C 1 0 m_1 none (con_X5_addStep hl a1 hv) tb_X5_addStep lk_RX5_91 rfl rfl rfl (by decide) (by decide) rfl (Nat.le_of_ble_eq_true rfl) rfl dX5_addFunction_33 rfl ?_
  clear hv
  cases h
  exact V_return C rfl rfl dX5_addFunction_36
set_option maxHeartbeats 4000000 in
set_option maxRecDepth 100000 in
theorem con_X5_readFunctionOfOne {l : Launch} {E : WE} (hl : l.stackTraces = false) (a1 : Int32)  {μ : Mem} {x} (h : f_X5_readFunctionOfOne a1 μ = some x) : Con l E lvC yX5_readFunctionOfOne cX5_readFunctionOfOne 3 (some .boolean) 5 [.ref (E.1 1 0), .int a1] μ (rWi x) := by
  refine Con.of (by decide) hl (Nat.le_of_ble_eq_true rfl) (fun Y C => ?_)
  replace C : Ok Y l E lvC 3 RX5 cX5_readFunctionOfOne (some .boolean) 5 := C
  show V Y l E lvC 3 (rWi x) 0 [(0, .ref (E.1 1 0)), (1, .int a1)] [] μ
  unfold f_X5_readFunctionOfOne at h
  refine V_aload_n C 0 dX5_readFunctionOfOne_0 rfl 0 rfl ?_
  obtain ⟨u_1, μ_2, hv, h⟩ := bW_inv h
  refine V_callVo C 1 0 m_1 none (con_X5_skipBlanks hl hv) tb_X5_skipBlanks lk_RX5_71 rfl rfl rfl (by decide) (by decide) rfl (Nat.le_of_ble_eq_true rfl) rfl dX5_readFunctionOfOne_1 rfl ?_
  clear hv
  refine V_aload_n C 0 dX5_readFunctionOfOne_4 rfl 0 rfl ?_
  refine V_getf (v := .ref (E.1 2 0)) C 1 0 m_1 fl_RX5_12 rfl rfl dX5_readFunctionOfOne_5 ?_
  refine V_aload_n C 0 dX5_readFunctionOfOne_8 rfl 0 rfl ?_
  refine V_getf (v := .int (μ_2 1 0 11)) C 1 0 m_1 fl_RX5_41 rfl rfl dX5_readFunctionOfOne_9 ?_
  obtain ⟨v_3, hv, h⟩ := bP_inv h
  refine V_callVo C 2 0 m_2 (some (.int v_3)) (con_X6_codeAt hl (μ_2 1 0 11) hv) tb_X6_codeAt lk_RX5_77 rfl rfl rfl (by decide) (by decide) rfl (Nat.le_of_ble_eq_true rfl) rfl dX5_readFunctionOfOne_12 rfl ?_
  clear hv
  refine V_istore_n (L' := [(0, .ref (E.1 1 0)), (1, .int a1), (2, .int v_3)]) C 2 dX5_readFunctionOfOne_15 rfl (by decide) [1, 2, 0] rfl ?_
  refine V_iload_n C 1 dX5_readFunctionOfOne_16 rfl 1 rfl ?_
  obtain ⟨v_4, hv, h⟩ := bP_inv h
  refine V_callSo C (some (.int v_4)) (con_X5_isNumberFunction hl a1 hv) tb_X5_isNumberFunction lk_RX5_101 (by decide) (by decide) rfl (Nat.le_of_ble_eq_true rfl) rfl dX5_readFunctionOfOne_17 rfl ?_
  clear hv
  obtain ⟨j_6, hj_6, h⟩ := jn_ex h
  have J_6 : ∀ (μ_5 : Mem) x, j_6 μ_5 = some x → V Y l E lvC 3 (rWi x) 55 [(0, .ref (E.1 1 0)), (1, .int a1)] [] μ_5 := by
    intro μ_5  x h
    rw [hj_6] at h; clear hj_6
    refine V_aload_n C 0 dX5_readFunctionOfOne_55 rfl 0 rfl ?_
    refine V_iconst C (4 : Int32) dX5_readFunctionOfOne_56 (by decide) ?_
    refine V_iload_n C 1 dX5_readFunctionOfOne_57 rfl 1 rfl ?_
    refine V_iconst C (0 : Int32) dX5_readFunctionOfOne_58 (by decide) ?_
    refine V_iconst C (0 : Int32) dX5_readFunctionOfOne_59 (by decide) ?_
    obtain ⟨u_7, μ_8, hv, h⟩ := bW_inv h
    refine V_callVo C 1 0 m_1 none (con_X5_addFunction hl (4 : Int32) a1 (0 : Int32) (0 : Int32) hv) tb_X5_addFunction lk_RX5_104 rfl rfl rfl (by decide) (by decide) rfl (Nat.le_of_ble_eq_true rfl) rfl dX5_readFunctionOfOne_60 rfl ?_
    clear hv
    refine V_ldcS (tx := "-|*") C 3 (by decide +kernel) dX5_readFunctionOfOne_63 ?_
    refine V_iload_n C 1 dX5_readFunctionOfOne_65 rfl 1 rfl ?_
    obtain ⟨v_9, hv, h⟩ := bP_inv h
    refine V_callKo C 3 (by decide) (some (.int v_9)) (con_J0_indexOf_0f7a4 hl 3 a1 (by decide) hv) tb_J0_indexOf_0f7a4 lk_RX5_110 rfl (by decide) (by decide) rfl (Nat.le_of_ble_eq_true rfl) rfl dX5_readFunctionOfOne_66 rfl ?_
    clear hv
    obtain ⟨j_10, hj_10, h⟩ := jn_ex h
    have J_10 : ∀ (_ : Unit) x, j_10 () = some x → V Y l E lvC 3 (rWi x) 81 [] [] μ_8 := by
      intro _  x h
      rw [hj_10] at h; clear hj_10
      refine V_iconst C (1 : Int32) dX5_readFunctionOfOne_81 (by decide) ?_
      refine V_goto C (tgt := 86) dX5_readFunctionOfOne_82 (by decide) ?_
      cases h
      exact V_ireturn C rfl rfl rfl dX5_readFunctionOfOne_86
    clear hj_10
    refine V_if_ge C (tgt := 81) dX5_readFunctionOfOne_69 (by decide) (fun hc => ?_) (fun hc => ?_)
    · replace h := (if_pos hc).symm.trans h
      refine V_sub (LP := []) [] rfl ?_
      exact J_10 () _ h
    · replace h := (if_neg hc).symm.trans h
      refine V_ldcS (tx := "ir,tv") C 1 (by decide +kernel) dX5_readFunctionOfOne_72 ?_
      refine V_iload_n C 1 dX5_readFunctionOfOne_74 rfl 1 rfl ?_
      obtain ⟨v_11, hv, h⟩ := bP_inv h
      refine V_callKo C 1 (by decide) (some (.int v_11)) (con_J0_indexOf_0f7a4 hl 1 a1 (by decide) hv) tb_J0_indexOf_0f7a4 lk_RX5_110 rfl (by decide) (by decide) rfl (Nat.le_of_ble_eq_true rfl) rfl dX5_readFunctionOfOne_75 rfl ?_
      clear hv
      refine V_if_lt C (tgt := 85) dX5_readFunctionOfOne_78 (by decide) (fun hc => ?_) (fun hc => ?_)
      · replace h := (if_pos hc).symm.trans h
        refine V_iconst C (0 : Int32) dX5_readFunctionOfOne_85 (by decide) ?_
        cases h
        exact V_ireturn C rfl rfl rfl dX5_readFunctionOfOne_86
      · replace h := (if_neg hc).symm.trans h
        refine V_sub (LP := []) [] rfl ?_
        exact J_10 () _ h
  clear hj_6
  refine V_if_eq C (tgt := 55) dX5_readFunctionOfOne_20 (by decide) (fun hc => ?_) (fun hc => ?_)
  · replace h := (if_pos hc).symm.trans h
    refine V_sub (LP := [(0, .ref (E.1 1 0)), (1, .int a1)]) [0, 1] rfl ?_
    exact J_6 _ _ h
  · replace h := (if_neg hc).symm.trans h
    refine V_iload_n C 2 dX5_readFunctionOfOne_23 rfl 2 rfl ?_
    refine V_bipush C (47 : Int32) dX5_readFunctionOfOne_24 (by decide) ?_
    obtain ⟨j_12, hj_12, h⟩ := jn_ex h
    have J_12 : ∀ (_ : Unit) x, j_12 () = some x → V Y l E lvC 3 (rWi x) 35 [(0, .ref (E.1 1 0)), (1, .int a1), (2, .int v_3)] [] μ_2 := by
      intro _  x h
      rw [hj_12] at h; clear hj_12
      refine V_aload_n C 0 dX5_readFunctionOfOne_35 rfl 0 rfl ?_
      refine V_dup C dX5_readFunctionOfOne_36 rfl ?_
      refine V_getf (v := .int (μ_2 1 0 11)) C 1 0 m_1 fl_RX5_41 rfl rfl dX5_readFunctionOfOne_37 ?_
      refine V_iconst C (1 : Int32) dX5_readFunctionOfOne_40 (by decide) ?_
      refine V_iadd C dX5_readFunctionOfOne_41 ?_
      refine V_putI C 1 0 m_1 fp_RX5_41 rfl rfl rfl rfl (Nat.le_of_ble_eq_true rfl) dX5_readFunctionOfOne_42 ?_
      refine V_memn (fun μ_13 hn9 => ?_)
      replace h := lt_eq hn9 h; clear hn9
      refine V_aload_n C 0 dX5_readFunctionOfOne_45 rfl 0 rfl ?_
      refine V_iconst C (4 : Int32) dX5_readFunctionOfOne_46 (by decide) ?_
      refine V_iload_n C 1 dX5_readFunctionOfOne_47 rfl 1 rfl ?_
      refine V_iload_n C 2 dX5_readFunctionOfOne_48 rfl 2 rfl ?_
      refine V_iconst C (0 : Int32) dX5_readFunctionOfOne_49 (by decide) ?_
      obtain ⟨u_14, μ_15, hv, h⟩ := bW_inv h
      refine V_callVo C 1 0 m_1 none (con_X5_addFunction hl (4 : Int32) a1 v_3 (0 : Int32) hv) tb_X5_addFunction lk_RX5_104 rfl rfl rfl (by decide) (by decide) rfl (Nat.le_of_ble_eq_true rfl) rfl dX5_readFunctionOfOne_50 rfl ?_
      clear hv
      refine V_iconst C (1 : Int32) dX5_readFunctionOfOne_53 (by decide) ?_
      cases h
      exact V_ireturn C rfl rfl rfl dX5_readFunctionOfOne_54
    clear hj_12
    refine V_icmp_eq C (tgt := 35) dX5_readFunctionOfOne_26 (by decide) (fun hc => ?_) (fun hc => ?_)
    · replace h := (if_pos hc).symm.trans h
      refine V_sub (LP := [(0, .ref (E.1 1 0)), (1, .int a1), (2, .int v_3)]) [0, 1, 2] rfl ?_
      exact J_12 () _ h
    · replace h := (if_neg hc).symm.trans h
      refine V_iload_n C 2 dX5_readFunctionOfOne_29 rfl 2 rfl ?_
      refine V_bipush C (92 : Int32) dX5_readFunctionOfOne_30 (by decide) ?_
      refine V_icmp_ne C (tgt := 55) dX5_readFunctionOfOne_32 (by decide) (fun hc => ?_) (fun hc => ?_)
      · replace h := (if_neg hc).symm.trans h
        refine V_sub (LP := [(0, .ref (E.1 1 0)), (1, .int a1)]) [0, 1] rfl ?_
        exact J_6 _ _ h
      · replace h := (if_pos hc).symm.trans h
        refine V_sub (LP := [(0, .ref (E.1 1 0)), (1, .int a1), (2, .int v_3)]) [0, 1, 2] rfl ?_
        exact J_12 () _ h
set_option maxHeartbeats 4000000 in
set_option maxRecDepth 100000 in
theorem con_X5_readStart {l : Launch} {E : WE} (hl : l.stackTraces = false)   {μ : Mem} {x} (h : f_X5_readStart  μ = some x) : Con l E lvC yX5_readStart cX5_readStart 2 (some .boolean) 6 [.ref (E.1 1 0)] μ (rWi x) := by
  refine Con.of (by decide) hl (Nat.le_of_ble_eq_true rfl) (fun Y C => ?_)
  replace C : Ok Y l E lvC 2 RX5 cX5_readStart (some .boolean) 6 := C
  show V Y l E lvC 2 (rWi x) 0 [(0, .ref (E.1 1 0))] [] μ
  unfold f_X5_readStart at h
  refine V_aload_n C 0 dX5_readStart_0 rfl 0 rfl ?_
  refine V_getf (v := .ref (E.1 2 0)) C 1 0 m_1 fl_RX5_12 rfl rfl dX5_readStart_1 ?_
  refine V_aload_n C 0 dX5_readStart_4 rfl 0 rfl ?_
  refine V_getf (v := .int (μ 1 0 11)) C 1 0 m_1 fl_RX5_41 rfl rfl dX5_readStart_5 ?_
  obtain ⟨v_1, hv, h⟩ := bP_inv h
  refine V_callVo C 2 0 m_2 (some (.int v_1)) (con_X6_codeAt hl (μ 1 0 11) hv) tb_X6_codeAt lk_RX5_77 rfl rfl rfl (by decide) (by decide) rfl (Nat.le_of_ble_eq_true rfl) rfl dX5_readStart_8 rfl ?_
  clear hv
  refine V_istore_n (L' := [(0, .ref (E.1 1 0)), (1, .int v_1)]) C 1 dX5_readStart_11 rfl (by decide) [1, 0] rfl ?_
  refine V_iload_n C 1 dX5_readStart_12 rfl 1 rfl ?_
  obtain ⟨v_2, hv, h⟩ := bP_inv h
  refine V_callSo C (some (.int v_2)) (con_X5_isDigit hl v_1 hv) tb_X5_isDigit lk_RX5_85 (by decide) (by decide) rfl (Nat.le_of_ble_eq_true rfl) rfl dX5_readStart_13 rfl ?_
  clear hv
  obtain ⟨j_3, hj_3, h⟩ := jn_ex h
  have J_3 : ∀ (_ : Unit) x, j_3 () = some x → V Y l E lvC 2 (rWi x) 25 [(0, .ref (E.1 1 0))] [] μ := by
    intro _  x h
    rw [hj_3] at h; clear hj_3
    refine V_aload_n C 0 dX5_readStart_25 rfl 0 rfl ?_
    obtain ⟨v_4, μ_5, hv, h⟩ := bW_inv h
    refine V_callVo C 1 0 m_1 (some (.int v_4)) (con_X5_readNumbers hl hv) tb_X5_readNumbers lk_RX5_88 rfl rfl rfl (by decide) (by decide) rfl (Nat.le_of_ble_eq_true rfl) rfl dX5_readStart_26 rfl ?_
    clear hv
    obtain ⟨hr9, h⟩ := gd_inv h
    cases h
    exact V_ireturn C rfl (isb_nar hr9) rfl dX5_readStart_29
  clear hj_3
  refine V_if_ne C (tgt := 25) dX5_readStart_16 (by decide) (fun hc => ?_) (fun hc => ?_)
  · replace h := (if_neg hc).symm.trans h
    refine V_sub (LP := [(0, .ref (E.1 1 0))]) [0] rfl ?_
    exact J_3 () _ h
  · replace h := (if_pos hc).symm.trans h
    refine V_iload_n C 1 dX5_readStart_19 rfl 1 rfl ?_
    refine V_bipush C (95 : Int32) dX5_readStart_20 (by decide) ?_
    refine V_icmp_ne C (tgt := 30) dX5_readStart_22 (by decide) (fun hc => ?_) (fun hc => ?_)
    · replace h := (if_neg hc).symm.trans h
      refine V_aload_n C 0 dX5_readStart_30 rfl 0 rfl ?_
      refine V_dup C dX5_readStart_31 rfl ?_
      refine V_getf (v := .int (μ 1 0 11)) C 1 0 m_1 fl_RX5_41 rfl rfl dX5_readStart_32 ?_
      refine V_iconst C (1 : Int32) dX5_readStart_35 (by decide) ?_
      refine V_iadd C dX5_readStart_36 ?_
      refine V_putI C 1 0 m_1 fp_RX5_41 rfl rfl rfl rfl (Nat.le_of_ble_eq_true rfl) dX5_readStart_37 ?_
      refine V_memn (fun μ_6 hn9 => ?_)
      replace h := lt_eq hn9 h; clear hn9
      refine V_iload_n C 1 dX5_readStart_40 rfl 1 rfl ?_
      refine V_bipush C (40 : Int32) dX5_readStart_41 (by decide) ?_
      refine V_icmp_ne C (tgt := 76) dX5_readStart_43 (by decide) (fun hc => ?_) (fun hc => ?_)
      · replace h := (if_neg hc).symm.trans h
        refine V_iload_n C 1 dX5_readStart_76 rfl 1 rfl ?_
        obtain ⟨v_7, hv, h⟩ := bP_inv h
        refine V_callSo C (some (.int v_7)) (con_X5_isName hl v_1 hv) tb_X5_isName lk_RX5_81 (by decide) (by decide) rfl (Nat.le_of_ble_eq_true rfl) rfl dX5_readStart_77 rfl ?_
        clear hv
        refine V_if_eq C (tgt := 108) dX5_readStart_80 (by decide) (fun hc => ?_) (fun hc => ?_)
        · replace h := (if_pos hc).symm.trans h
          refine V_aload_n C 0 dX5_readStart_108 rfl 0 rfl ?_
          refine V_iload_n C 1 dX5_readStart_109 rfl 1 rfl ?_
          obtain ⟨v_8, μ_9, hv, h⟩ := bW_inv h
          refine V_callVo C 1 0 m_1 (some (.int v_8)) (con_X5_readFunctionOfOne hl v_1 hv) tb_X5_readFunctionOfOne lk_RX5_95 rfl rfl rfl (by decide) (by decide) rfl (Nat.le_of_ble_eq_true rfl) rfl dX5_readStart_110 rfl ?_
          clear hv
          obtain ⟨hr9, h⟩ := gd_inv h
          cases h
          exact V_ireturn C rfl (isb_nar hr9) rfl dX5_readStart_113
        · replace h := (if_neg hc).symm.trans h
          refine V_aload_n C 0 dX5_readStart_83 rfl 0 rfl ?_
          refine V_getf (v := .ref (E.1 5 0)) C 1 0 m_1 fl_RX5_22 rfl rfl dX5_readStart_84 ?_
          refine V_aload_n C 0 dX5_readStart_87 rfl 0 rfl ?_
          refine V_getf (v := .int (μ_6 1 0 8)) C 1 0 m_1 fl_RX5_45 rfl rfl dX5_readStart_88 ?_
          refine V_iload_n C 1 dX5_readStart_91 rfl 1 rfl ?_
          refine V_bipush C (65 : Int32) dX5_readStart_92 (by decide) ?_
          refine V_isub C dX5_readStart_94 ?_
          obtain ⟨hi9, h⟩ := gd_inv h
          refine V_iast C 5 0 m_5 (fun _ => rfl) (inb_in hi9) dX5_readStart_95 ?_
          refine V_memn (fun μ_10 hn9 => ?_)
          replace h := lt_eq hn9 h; clear hn9
          refine V_aload_n C 0 dX5_readStart_96 rfl 0 rfl ?_
          refine V_iconst C (1 : Int32) dX5_readStart_97 (by decide) ?_
          obtain ⟨u_11, μ_12, hv, h⟩ := bW_inv h
          refine V_callVo C 1 0 m_1 none (con_X5_addStep hl (1 : Int32) hv) tb_X5_addStep lk_RX5_91 rfl rfl rfl (by decide) (by decide) rfl (Nat.le_of_ble_eq_true rfl) rfl dX5_readStart_98 rfl ?_
          clear hv
          refine V_aload_n C 0 dX5_readStart_101 rfl 0 rfl ?_
          refine V_iconst C (0 : Int32) dX5_readStart_102 (by decide) ?_
          refine V_putI C 1 0 m_1 fp_RX5_54 rfl rfl rfl rfl (Nat.le_of_ble_eq_true rfl) dX5_readStart_103 ?_
          refine V_memn (fun μ_13 hn9 => ?_)
          replace h := lt_eq hn9 h; clear hn9
          refine V_iconst C (1 : Int32) dX5_readStart_106 (by decide) ?_
          cases h
          exact V_ireturn C rfl rfl rfl dX5_readStart_107
      · replace h := (if_pos hc).symm.trans h
        refine V_aload_n C 0 dX5_readStart_46 rfl 0 rfl ?_
        refine V_dup C dX5_readStart_47 rfl ?_
        refine V_getf (v := .int (μ_6 1 0 12)) C 1 0 m_1 fl_RX5_51 rfl rfl dX5_readStart_48 ?_
        refine V_iconst C (1 : Int32) dX5_readStart_51 (by decide) ?_
        refine V_iadd C dX5_readStart_52 ?_
        refine V_putI C 1 0 m_1 fp_RX5_51 rfl rfl rfl rfl (Nat.le_of_ble_eq_true rfl) dX5_readStart_53 ?_
        refine V_memn (fun μ_14 hn9 => ?_)
        replace h := lt_eq hn9 h; clear hn9
        refine V_aload_n C 0 dX5_readStart_56 rfl 0 rfl ?_
        refine V_iconst C (2 : Int32) dX5_readStart_57 (by decide) ?_
        obtain ⟨u_15, μ_16, hv, h⟩ := bW_inv h
        refine V_callVo C 1 0 m_1 none (con_X5_addStep hl (2 : Int32) hv) tb_X5_addStep lk_RX5_91 rfl rfl rfl (by decide) (by decide) rfl (Nat.le_of_ble_eq_true rfl) rfl dX5_readStart_58 rfl ?_
        clear hv
        refine V_aload_n C 0 dX5_readStart_61 rfl 0 rfl ?_
        refine V_getf (v := .int (μ_16 1 0 12)) C 1 0 m_1 fl_RX5_51 rfl rfl dX5_readStart_62 ?_
        refine V_bipush C (6 : Int32) dX5_readStart_65 (by decide) ?_
        refine V_icmp_gt C (tgt := 74) dX5_readStart_67 (by decide) (fun hc => ?_) (fun hc => ?_)
        · replace h := (if_pos hc).symm.trans h
          refine V_iconst C (0 : Int32) dX5_readStart_74 (by decide) ?_
          cases h
          exact V_ireturn C rfl rfl rfl dX5_readStart_75
        · replace h := (if_neg hc).symm.trans h
          refine V_iconst C (1 : Int32) dX5_readStart_70 (by decide) ?_
          refine V_goto C (tgt := 75) dX5_readStart_71 (by decide) ?_
          cases h
          exact V_ireturn C rfl rfl rfl dX5_readStart_75
    · replace h := (if_pos hc).symm.trans h
      refine V_sub (LP := [(0, .ref (E.1 1 0))]) [0] rfl ?_
      exact J_3 () _ h
