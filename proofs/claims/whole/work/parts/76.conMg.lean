set_option maxHeartbeats 4000000 in
set_option maxRecDepth 100000 in
theorem con_X8_forget {l : Launch} {E : WE} (hl : l.stackTraces = false) (a1 : Int32)  {μ : Mem} {x} (h : f_X8_forget a1 μ = some x) : Con l E lvM yX8_forget cX8_forget 2 (some .boolean) 0 [.ref (E.1 30 0), .int a1] μ (rWi x) := by
  refine Con.of (by decide) hl (Nat.le_of_ble_eq_true rfl) (fun Y C => ?_)
  replace C : Ok Y l E lvM 2 RX8 cX8_forget (some .boolean) 0 := C
  show V Y l E lvM 2 (rWi x) 0 [(0, .ref (E.1 30 0)), (1, .int a1)] [] μ
  unfold f_X8_forget at h
  refine V_aload_n C 0 dX8_forget_0 rfl 0 rfl ?_
  refine V_iconst C (0 : Int32) dX8_forget_1 (by decide) ?_
  refine V_putI C 30 0 m_30 fp_RX8_47 rfl rfl rfl rfl (Nat.le_of_ble_eq_true rfl) dX8_forget_2 ?_
  refine V_memn (fun μ_1 hn9 => ?_)
  replace h := lt_eq hn9 h; clear hn9
  refine V_iload_n C 1 dX8_forget_5 rfl 1 rfl ?_
  refine V_if_lt C (tgt := 27) dX8_forget_6 (by decide) (fun hc => ?_) (fun hc => ?_)
  · replace h := (if_pos hc).symm.trans h
    refine V_iconst C (0 : Int32) dX8_forget_27 (by decide) ?_
    cases h
    exact V_ireturn C rfl rfl rfl dX8_forget_28
  · replace h := (if_neg hc).symm.trans h
    refine V_iload_n C 1 dX8_forget_9 rfl 1 rfl ?_
    refine V_bipush C (7 : Int32) dX8_forget_10 (by decide) ?_
    refine V_icmp_gt C (tgt := 27) dX8_forget_12 (by decide) (fun hc => ?_) (fun hc => ?_)
    · replace h := (if_pos hc).symm.trans h
      refine V_iconst C (0 : Int32) dX8_forget_27 (by decide) ?_
      cases h
      exact V_ireturn C rfl rfl rfl dX8_forget_28
    · replace h := (if_neg hc).symm.trans h
      refine V_aload_n C 0 dX8_forget_15 rfl 0 rfl ?_
      refine V_getf (v := .ref (E.1 32 0)) C 30 0 m_30 fl_RX8_13 rfl rfl dX8_forget_16 ?_
      refine V_bipush C (9 : Int32) dX8_forget_19 (by decide) ?_
      refine V_iload_n C 1 dX8_forget_21 rfl 1 rfl ?_
      refine V_iadd C dX8_forget_22 ?_
      obtain ⟨hi9, h⟩ := gd_inv h
      refine V_iald C 32 0 m_32 (fun _ => rfl) (inb_in hi9) dX8_forget_23 ?_
      refine V_if_ge C (tgt := 29) dX8_forget_24 (by decide) (fun hc => ?_) (fun hc => ?_)
      · replace h := (if_pos hc).symm.trans h
        refine V_aload_n C 0 dX8_forget_29 rfl 0 rfl ?_
        refine V_getf (v := .ref (E.1 32 0)) C 30 0 m_30 fl_RX8_13 rfl rfl dX8_forget_30 ?_
        refine V_bipush C (9 : Int32) dX8_forget_33 (by decide) ?_
        refine V_iload_n C 1 dX8_forget_35 rfl 1 rfl ?_
        refine V_iadd C dX8_forget_36 ?_
        refine V_iconst C (-1 : Int32) dX8_forget_37 (by decide) ?_
        obtain ⟨hi9, h⟩ := gd_inv h
        refine V_iast C 32 0 m_32 (fun _ => rfl) (inb_in hi9) dX8_forget_38 ?_
        refine V_memn (fun μ_2 hn9 => ?_)
        replace h := lt_eq hn9 h; clear hn9
        refine V_iconst C (1 : Int32) dX8_forget_39 (by decide) ?_
        cases h
        exact V_ireturn C rfl rfl rfl dX8_forget_40
      · replace h := (if_neg hc).symm.trans h
        refine V_iconst C (0 : Int32) dX8_forget_27 (by decide) ?_
        cases h
        exact V_ireturn C rfl rfl rfl dX8_forget_28
set_option maxHeartbeats 4000000 in
set_option maxRecDepth 100000 in
theorem con_X8_done {l : Launch} {E : WE} (hl : l.stackTraces = false)   {μ : Mem} {x} (h : f_X8_done  μ = some x) : Con l E lvM yX8_done cX8_done 1 (some .int) 0 [.ref (E.1 30 0)] μ (rWi x) := by
  refine Con.of (by decide) hl (Nat.le_of_ble_eq_true rfl) (fun Y C => ?_)
  replace C : Ok Y l E lvM 1 RX8 cX8_done (some .int) 0 := C
  show V Y l E lvM 1 (rWi x) 0 [(0, .ref (E.1 30 0))] [] μ
  unfold f_X8_done at h
  refine V_aload_n C 0 dX8_done_0 rfl 0 rfl ?_
  refine V_iconst C (0 : Int32) dX8_done_1 (by decide) ?_
  refine V_putI C 30 0 m_30 fp_RX8_47 rfl rfl rfl rfl (Nat.le_of_ble_eq_true rfl) dX8_done_2 ?_
  refine V_memn (fun μ_1 hn9 => ?_)
  replace h := lt_eq hn9 h; clear hn9
  refine V_aload_n C 0 dX8_done_5 rfl 0 rfl ?_
  refine V_getf (v := .int (μ_1 30 0 18)) C 30 0 m_30 fl_RX8_180 rfl rfl dX8_done_6 ?_
  cases h
  exact V_ireturn C rfl rfl rfl dX8_done_9
