set_option maxHeartbeats 4000000 in
set_option maxRecDepth 100000 in
theorem con_X8_width {l : Launch} {E : WE} (hl : l.stackTraces = false) (a1 : Int32) (a2 : Int32)  {μ : Mem} {x} (h : f_X8_width a1 a2 μ = some x) : Con l E lvM yX8_width cX8_width 3 (some .int) 2 [.ref (E.1 30 0), .int a1, .int a2] μ (rPi x μ) := by
  refine Con.of (by decide) hl (Nat.le_of_ble_eq_true rfl) (fun Y C => ?_)
  replace C : Ok Y l E lvM 3 RX8 cX8_width (some .int) 2 := C
  show V Y l E lvM 3 (rPi x μ) 0 [(0, .ref (E.1 30 0)), (1, .int a1), (2, .int a2)] [] μ
  unfold f_X8_width at h
  refine V_aload_n C 0 dX8_width_0 rfl 0 rfl ?_
  refine V_getf (v := .ref (E.1 32 0)) C 30 0 m_30 fl_RX8_13 rfl rfl dX8_width_1 ?_
  refine V_iload_n C 1 dX8_width_4 rfl 1 rfl ?_
  obtain ⟨hi9, h⟩ := gd_inv h
  refine V_iald C 32 0 m_32 (fun _ => rfl) (inb_in hi9) dX8_width_5 ?_
  refine V_iload_n C 2 dX8_width_6 rfl 2 rfl ?_
  refine V_icmp_ne C (tgt := 18) dX8_width_7 (by decide) (fun hc => ?_) (fun hc => ?_)
  · replace h := (if_neg hc).symm.trans h
    refine V_iconst C (1 : Int32) dX8_width_18 (by decide) ?_
    cases h
    exact V_ireturn C rfl rfl rfl dX8_width_19
  · replace h := (if_pos hc).symm.trans h
    refine V_aload_n C 0 dX8_width_10 rfl 0 rfl ?_
    refine V_iload_n C 1 dX8_width_11 rfl 1 rfl ?_
    obtain ⟨v_1, hv, h⟩ := bP_inv h
    refine V_callVo C 30 0 m_30 (some (.int v_1)) (con_X8_last hl a1 hv) tb_X8_last lk_RX8_142 rfl rfl rfl (by decide) (by decide) rfl (Nat.le_of_ble_eq_true rfl) rfl dX8_width_12 rfl ?_
    clear hv
    refine V_goto C (tgt := 19) dX8_width_15 (by decide) ?_
    cases h
    exact V_ireturn C rfl rfl rfl dX8_width_19
set_option maxHeartbeats 4000000 in
set_option maxRecDepth 100000 in
theorem con_X8_before {l : Launch} {E : WE} (hl : l.stackTraces = false) (a1 : Int32) (a2 : Int32) (a3 : Int32) (a4 : Int32)  {μ : Mem} {x} (h : f_X8_before a1 a2 a3 a4 μ = some x) : Con l E lvM yX8_before cX8_before 5 (some .int) 1 [.ref (E.1 30 0), .int a1, .int a2, .int a3, .int a4] μ (rPi x μ) := by
  refine Con.of (by decide) hl (Nat.le_of_ble_eq_true rfl) (fun Y C => ?_)
  replace C : Ok Y l E lvM 5 RX8 cX8_before (some .int) 1 := C
  show V Y l E lvM 5 (rPi x μ) 0 [(0, .ref (E.1 30 0)), (1, .int a1), (2, .int a2), (3, .int a3), (4, .int a4)] [] μ
  unfold f_X8_before at h
  refine V_aload_n C 0 dX8_before_0 rfl 0 rfl ?_
  refine V_getf (v := .ref (E.1 32 0)) C 30 0 m_30 fl_RX8_13 rfl rfl dX8_before_1 ?_
  refine V_iload_n C 1 dX8_before_4 rfl 1 rfl ?_
  obtain ⟨hi9, h⟩ := gd_inv h
  refine V_iald C 32 0 m_32 (fun _ => rfl) (inb_in hi9) dX8_before_5 ?_
  refine V_if_ne C (tgt := 19) dX8_before_6 (by decide) (fun hc => ?_) (fun hc => ?_)
  · replace h := (if_neg hc).symm.trans h
    refine V_aload_n C 0 dX8_before_19 rfl 0 rfl ?_
    refine V_iload_n C 1 dX8_before_20 rfl 1 rfl ?_
    refine V_iload C dX8_before_21 4 rfl ?_
    obtain ⟨v_1, hv, h⟩ := bP_inv h
    refine V_callVo C 30 0 m_30 (some (.int v_1)) (con_X8_axisOf hl a1 a4 hv) tb_X8_axisOf lk_RX8_88 rfl rfl rfl (by decide) (by decide) rfl (Nat.le_of_ble_eq_true rfl) rfl dX8_before_23 rfl ?_
    clear hv
    cases h
    exact V_ireturn C rfl rfl rfl dX8_before_26
  · replace h := (if_pos hc).symm.trans h
    refine V_aload_n C 0 dX8_before_9 rfl 0 rfl ?_
    refine V_iload_n C 3 dX8_before_10 rfl 3 rfl ?_
    refine V_iload C dX8_before_11 4 rfl ?_
    obtain ⟨v_2, hv, h⟩ := bP_inv h
    refine V_callVo C 30 0 m_30 (some (.int v_2)) (con_X8_axisOf hl a3 a4 hv) tb_X8_axisOf lk_RX8_88 rfl rfl rfl (by decide) (by decide) rfl (Nat.le_of_ble_eq_true rfl) rfl dX8_before_13 rfl ?_
    clear hv
    refine V_goto C (tgt := 26) dX8_before_16 (by decide) ?_
    cases h
    exact V_ireturn C rfl rfl rfl dX8_before_26
set_option maxHeartbeats 4000000 in
set_option maxRecDepth 100000 in
theorem lp_X8_join_64 {Y : Mc} {l : Launch} {E : WE} (hl : l.stackTraces = false) (C : Ok Y l E lvM 12 RX8 cX8_join (some .boolean) 3) {κ : Unit → Option (Int32 × Mem)} (c1_9 : Int32) (c2_10 : Int32) (c3_11 : Int32) (μ_13 : Mem)  (hκ : ∀ (_ : Unit) x, κ () = some x → V Y l E lvM 12 (rWi x) 111 [(0, .ref (E.1 30 0)), (1, .int c1_9), (2, .int c2_10), (3, .int c3_11)] [] μ_13) : ∀ (n : Nat) (a4_12 : Int32) {x}, f_X8_join_L64 κ c1_9 c2_10 c3_11 μ_13 n a4_12 = some x → V Y l E lvM 12 (rWi x) 64 [(0, .ref (E.1 30 0)), (1, .int c1_9), (2, .int c2_10), (3, .int c3_11), (4, .int a4_12)] [] μ_13 := by
  intro n
  induction n with
  | zero =>
    intro a4_12 x h
    simp [f_X8_join_L64] at h
  | succ n ih =>
    intro a4_12 x h
    rw [f_X8_join_L64] at h
    refine V_iload C dX8_join_64 4 rfl ?_
    refine V_iload_n C 3 dX8_join_66 rfl 3 rfl ?_
    refine V_iconst C (1 : Int32) dX8_join_67 (by decide) ?_
    refine V_isub C dX8_join_68 ?_
    refine V_icmp_ge C (tgt := 111) dX8_join_69 (by decide) (fun hc => ?_) (fun hc => ?_)
    · replace h := (if_pos hc).symm.trans h
      refine V_sub (LP := [(0, .ref (E.1 30 0)), (1, .int c1_9), (2, .int c2_10), (3, .int c3_11)]) [0, 1, 2, 3] rfl ?_
      exact hκ () _ h
    · replace h := (if_neg hc).symm.trans h
      refine V_iload_n C 1 dX8_join_72 rfl 1 rfl ?_
      obtain ⟨j_14, hj_14, h⟩ := jn_ex h
      have J_14 : ∀ (_ : Unit) x, j_14 () = some x → V Y l E lvM 12 (rWi x) 105 [(0, .ref (E.1 30 0)), (1, .int c1_9), (2, .int c2_10), (3, .int c3_11), (4, .int a4_12)] [] μ_13 := by
        intro _  x h
        rw [hj_14] at h; clear hj_14
        obtain ⟨x_15, hn9⟩ : ∃ z : Int32, z = a4_12 + (1 : Int32) := ⟨_, rfl⟩
        replace h := lt_eq hn9 h
        refine V_iinc (L' := [(0, .ref (E.1 30 0)), (1, .int c1_9), (2, .int c2_10), (3, .int c3_11), (4, .int x_15)]) C x_15 dX8_join_105 4 rfl (by rw [hn9]; exact congrArg (a4_12 + ·) (by decide)) (by decide) [1, 2, 3, 4, 0] rfl ?_
        clear hn9
        refine V_goto C (tgt := 64) dX8_join_108 (by decide) ?_
        refine V_sub (LP := [(0, .ref (E.1 30 0)), (1, .int c1_9), (2, .int c2_10), (3, .int c3_11), (4, .int x_15)]) [0, 1, 2, 3, 4] rfl ?_
        exact ih _ h
      clear hj_14
      refine V_if_eq C (tgt := 105) dX8_join_73 (by decide) (fun hc => ?_) (fun hc => ?_)
      · replace h := (if_pos hc).symm.trans h
        refine V_sub (LP := [(0, .ref (E.1 30 0)), (1, .int c1_9), (2, .int c2_10), (3, .int c3_11), (4, .int a4_12)]) [0, 1, 2, 3, 4] rfl ?_
        exact J_14 () _ h
      · replace h := (if_neg hc).symm.trans h
        refine V_iload_n C 2 dX8_join_76 rfl 2 rfl ?_
        refine V_if_eq C (tgt := 105) dX8_join_77 (by decide) (fun hc => ?_) (fun hc => ?_)
        · replace h := (if_pos hc).symm.trans h
          refine V_sub (LP := [(0, .ref (E.1 30 0)), (1, .int c1_9), (2, .int c2_10), (3, .int c3_11), (4, .int a4_12)]) [0, 1, 2, 3, 4] rfl ?_
          exact J_14 () _ h
        · replace h := (if_neg hc).symm.trans h
          refine V_aload_n C 0 dX8_join_80 rfl 0 rfl ?_
          refine V_bipush C (18 : Int32) dX8_join_81 (by decide) ?_
          refine V_iload C dX8_join_83 4 rfl ?_
          obtain ⟨v_16, hv, h⟩ := bP_inv h
          refine V_callVo C 30 0 m_30 (some (.int v_16)) (con_X8_axisOf hl (18 : Int32) a4_12 hv) tb_X8_axisOf lk_RX8_88 rfl rfl rfl (by decide) (by decide) rfl (Nat.le_of_ble_eq_true rfl) rfl dX8_join_85 rfl ?_
          clear hv
          refine V_aload_n C 0 dX8_join_88 rfl 0 rfl ?_
          refine V_bipush C (19 : Int32) dX8_join_89 (by decide) ?_
          refine V_iload C dX8_join_91 4 rfl ?_
          obtain ⟨v_17, hv, h⟩ := bP_inv h
          refine V_callVo C 30 0 m_30 (some (.int v_17)) (con_X8_axisOf hl (19 : Int32) a4_12 hv) tb_X8_axisOf lk_RX8_88 rfl rfl rfl (by decide) (by decide) rfl (Nat.le_of_ble_eq_true rfl) rfl dX8_join_93 rfl ?_
          clear hv
          refine V_icmp_eq C (tgt := 105) dX8_join_96 (by decide) (fun hc => ?_) (fun hc => ?_)
          · replace h := (if_pos hc).symm.trans h
            refine V_sub (LP := [(0, .ref (E.1 30 0)), (1, .int c1_9), (2, .int c2_10), (3, .int c3_11), (4, .int a4_12)]) [0, 1, 2, 3, 4] rfl ?_
            exact J_14 () _ h
          · replace h := (if_neg hc).symm.trans h
            refine V_aload_n C 0 dX8_join_99 rfl 0 rfl ?_
            refine V_iconst C (3 : Int32) dX8_join_100 (by decide) ?_
            obtain ⟨v_18, μ_19, hv, h⟩ := bW_inv h
            refine V_callVo C 30 0 m_30 (some (.int v_18)) (con_X8_stop hl (3 : Int32) hv) tb_X8_stop lk_RX8_95 rfl rfl rfl (by decide) (by decide) rfl (Nat.le_of_ble_eq_true rfl) rfl dX8_join_101 rfl ?_
            clear hv
            obtain ⟨hr9, h⟩ := gd_inv h
            cases h
            exact V_ireturn C rfl (isb_nar hr9) rfl dX8_join_104
set_option maxHeartbeats 4000000 in
set_option maxRecDepth 100000 in
theorem lp_X8_join_243 {Y : Mc} {l : Launch} {E : WE} (hl : l.stackTraces = false) (C : Ok Y l E lvM 12 RX8 cX8_join (some .boolean) 3) {κ : Mem → Option (Int32 × Mem)} (c1_33 : Int32) (c2_34 : Int32) (c4_35 : Int32) (c5_36 : Int32) (c8_37 : Int32)  (hκ : ∀  (μ_53 : Mem) x, κ  μ_53 = some x → V Y l E lvM 12 (rWi x) 341 [] [] μ_53) : ∀ (n : Nat) (a9_38 : Int32) (μ_39 : Mem) {x}, f_X8_join_L243 κ c1_33 c2_34 c4_35 c5_36 c8_37 n a9_38 μ_39 = some x → V Y l E lvM 12 (rWi x) 243 [(0, .ref (E.1 30 0)), (1, .int c1_33), (2, .int c2_34), (4, .int c4_35), (5, .int c5_36), (8, .int c8_37), (9, .int a9_38)] [] μ_39 := by
  intro n
  induction n with
  | zero =>
    intro a9_38 μ_39 x h
    simp [f_X8_join_L243] at h
  | succ n ih =>
    intro a9_38 μ_39 x h
    rw [f_X8_join_L243] at h
    refine V_iload C dX8_join_243 6 rfl ?_
    refine V_iload C dX8_join_245 5 rfl ?_
    refine V_icmp_ge C (tgt := 341) dX8_join_247 (by decide) (fun hc => ?_) (fun hc => ?_)
    · replace h := (if_pos hc).symm.trans h
      refine V_sub (LP := []) [] rfl ?_
      exact hκ _ _ h
    · replace h := (if_neg hc).symm.trans h
      refine V_iload C dX8_join_250 6 rfl ?_
      refine V_iload C dX8_join_252 3 rfl ?_
      refine V_iload C dX8_join_254 4 rfl ?_
      refine V_iadd C dX8_join_256 ?_
      obtain ⟨hz9, h⟩ := gd_inv h
      refine V_idiv C dX8_join_257 (nz_ne hz9) ?_
      refine V_topi (fun x_40 hn9 => ?_)
      replace h := lt_eq hn9 h; clear hn9
      refine V_istore (L' := [(0, .ref (E.1 30 0)), (1, .int c1_33), (2, .int c2_34), (4, .int c4_35), (5, .int c5_36), (8, .int c8_37), (9, .int a9_38), (10, .int x_40)]) C dX8_join_258 (by decide) [1, 2, 3, 4, 5, 6, 7, 0] rfl ?_
      refine V_iload C dX8_join_260 6 rfl ?_
      refine V_iload C dX8_join_262 3 rfl ?_
      refine V_iload C dX8_join_264 4 rfl ?_
      refine V_iadd C dX8_join_266 ?_
      obtain ⟨hz9, h⟩ := gd_inv h
      refine V_irem C dX8_join_267 (nz_ne hz9) ?_
      refine V_topi (fun x_41 hn9 => ?_)
      replace h := lt_eq hn9 h; clear hn9
      refine V_istore (L' := [(0, .ref (E.1 30 0)), (1, .int c1_33), (2, .int c2_34), (4, .int c4_35), (5, .int c5_36), (8, .int c8_37), (9, .int a9_38), (10, .int x_40), (11, .int x_41)]) C dX8_join_268 (by decide) [1, 2, 3, 4, 5, 6, 7, 8, 0] rfl ?_
      refine V_aload_n C 0 dX8_join_270 rfl 0 rfl ?_
      refine V_bipush C (8 : Int32) dX8_join_271 (by decide) ?_
      refine V_iload C dX8_join_273 6 rfl ?_
      refine V_iload C dX8_join_275 8 rfl ?_
      refine V_iload C dX8_join_277 3 rfl ?_
      obtain ⟨j_43, hj_43, h⟩ := jn_ex h
      have J_43 : ∀ (s_42 : Int32) x, j_43 s_42 = some x → V Y l E lvM 12 (rWi x) 332 [(0, .ref (E.1 30 0)), (1, .int c1_33), (2, .int c2_34), (4, .int c4_35), (5, .int c5_36), (8, .int c8_37), (9, .int a9_38)] [.int s_42, .int a9_38, .int (8 : Int32), .ref (E.1 30 0)] μ_39 := by
        intro s_42  x h
        rw [hj_43] at h; clear hj_43
        obtain ⟨u_44, μ_45, hv, h⟩ := bW_inv h
        refine V_callVo C 30 0 m_30 none (con_X8_set hl (8 : Int32) a9_38 s_42 hv) tb_X8_set lk_RX8_122 rfl rfl rfl (by decide) (by decide) rfl (Nat.le_of_ble_eq_true rfl) rfl dX8_join_332 rfl ?_
        clear hv
        obtain ⟨x_46, hn9⟩ : ∃ z : Int32, z = a9_38 + (1 : Int32) := ⟨_, rfl⟩
        replace h := lt_eq hn9 h
        refine V_iinc (L' := [(0, .ref (E.1 30 0)), (1, .int c1_33), (2, .int c2_34), (4, .int c4_35), (5, .int c5_36), (8, .int c8_37), (9, .int x_46)]) C x_46 dX8_join_335 6 rfl (by rw [hn9]; exact congrArg (a9_38 + ·) (by decide)) (by decide) [1, 2, 3, 4, 5, 6, 0] rfl ?_
        clear hn9
        refine V_goto C (tgt := 243) dX8_join_338 (by decide) ?_
        refine V_sub (LP := [(0, .ref (E.1 30 0)), (1, .int c1_33), (2, .int c2_34), (4, .int c4_35), (5, .int c5_36), (8, .int c8_37), (9, .int x_46)]) [0, 1, 2, 3, 4, 5, 6] rfl ?_
        exact ih _ _ h
      clear hj_43
      refine V_icmp_ge C (tgt := 307) dX8_join_279 (by decide) (fun hc => ?_) (fun hc => ?_)
      · replace h := (if_pos hc).symm.trans h
        refine V_aload_n C 0 dX8_join_307 rfl 0 rfl ?_
        refine V_bipush C (19 : Int32) dX8_join_308 (by decide) ?_
        refine V_iload_n C 2 dX8_join_310 rfl 2 rfl ?_
        obtain ⟨j_48, hj_48, h⟩ := jn_ex h
        have J_48 : ∀ (s_47 : Int32) x, j_48 s_47 = some x → V Y l E lvM 12 (rWi x) 329 [(0, .ref (E.1 30 0)), (1, .int c1_33), (2, .int c2_34), (4, .int c4_35), (5, .int c5_36), (8, .int c8_37), (9, .int a9_38)] [.int s_47, .int (19 : Int32), .ref (E.1 30 0), .int a9_38, .int (8 : Int32), .ref (E.1 30 0)] μ_39 := by
          intro s_47  x h
          rw [hj_48] at h; clear hj_48
          obtain ⟨v_49, hv, h⟩ := bP_inv h
          refine V_callVo C 30 0 m_30 (some (.int v_49)) (con_X8_get hl (19 : Int32) s_47 hv) tb_X8_get lk_RX8_119 rfl rfl rfl (by decide) (by decide) rfl (Nat.le_of_ble_eq_true rfl) rfl dX8_join_329 rfl ?_
          clear hv
          refine V_sub (LP := [(0, .ref (E.1 30 0)), (1, .int c1_33), (2, .int c2_34), (4, .int c4_35), (5, .int c5_36), (8, .int c8_37), (9, .int a9_38)]) [0, 1, 2, 3, 4, 5, 6] rfl ?_
          exact J_43 _ _ h
        clear hj_48
        refine V_if_ne C (tgt := 318) dX8_join_311 (by decide) (fun hc => ?_) (fun hc => ?_)
        · replace h := (if_neg hc).symm.trans h
          refine V_iload C dX8_join_318 4 rfl ?_
          refine V_iload C dX8_join_320 7 rfl ?_
          refine V_imul C dX8_join_322 ?_
          refine V_iload C dX8_join_323 8 rfl ?_
          refine V_iadd C dX8_join_325 ?_
          refine V_iload C dX8_join_326 3 rfl ?_
          refine V_isub C dX8_join_328 ?_
          refine V_sub (LP := [(0, .ref (E.1 30 0)), (1, .int c1_33), (2, .int c2_34), (4, .int c4_35), (5, .int c5_36), (8, .int c8_37), (9, .int a9_38)]) [0, 1, 2, 3, 4, 5, 6] rfl ?_
          exact J_48 _ _ h
        · replace h := (if_pos hc).symm.trans h
          refine V_iconst C (0 : Int32) dX8_join_314 (by decide) ?_
          refine V_goto C (tgt := 329) dX8_join_315 (by decide) ?_
          refine V_sub (LP := [(0, .ref (E.1 30 0)), (1, .int c1_33), (2, .int c2_34), (4, .int c4_35), (5, .int c5_36), (8, .int c8_37), (9, .int a9_38)]) [0, 1, 2, 3, 4, 5, 6] rfl ?_
          exact J_48 _ _ h
      · replace h := (if_neg hc).symm.trans h
        refine V_aload_n C 0 dX8_join_282 rfl 0 rfl ?_
        refine V_bipush C (18 : Int32) dX8_join_283 (by decide) ?_
        refine V_iload_n C 1 dX8_join_285 rfl 1 rfl ?_
        obtain ⟨j_51, hj_51, h⟩ := jn_ex h
        have J_51 : ∀ (s_50 : Int32) x, j_51 s_50 = some x → V Y l E lvM 12 (rWi x) 301 [(0, .ref (E.1 30 0)), (1, .int c1_33), (2, .int c2_34), (4, .int c4_35), (5, .int c5_36), (8, .int c8_37), (9, .int a9_38)] [.int s_50, .int (18 : Int32), .ref (E.1 30 0), .int a9_38, .int (8 : Int32), .ref (E.1 30 0)] μ_39 := by
          intro s_50  x h
          rw [hj_51] at h; clear hj_51
          obtain ⟨v_52, hv, h⟩ := bP_inv h
          refine V_callVo C 30 0 m_30 (some (.int v_52)) (con_X8_get hl (18 : Int32) s_50 hv) tb_X8_get lk_RX8_119 rfl rfl rfl (by decide) (by decide) rfl (Nat.le_of_ble_eq_true rfl) rfl dX8_join_301 rfl ?_
          clear hv
          refine V_goto C (tgt := 332) dX8_join_304 (by decide) ?_
          refine V_sub (LP := [(0, .ref (E.1 30 0)), (1, .int c1_33), (2, .int c2_34), (4, .int c4_35), (5, .int c5_36), (8, .int c8_37), (9, .int a9_38)]) [0, 1, 2, 3, 4, 5, 6] rfl ?_
          exact J_43 _ _ h
        clear hj_51
        refine V_if_ne C (tgt := 293) dX8_join_286 (by decide) (fun hc => ?_) (fun hc => ?_)
        · replace h := (if_neg hc).symm.trans h
          refine V_iload C dX8_join_293 3 rfl ?_
          refine V_iload C dX8_join_295 7 rfl ?_
          refine V_imul C dX8_join_297 ?_
          refine V_iload C dX8_join_298 8 rfl ?_
          refine V_iadd C dX8_join_300 ?_
          refine V_sub (LP := [(0, .ref (E.1 30 0)), (1, .int c1_33), (2, .int c2_34), (4, .int c4_35), (5, .int c5_36), (8, .int c8_37), (9, .int a9_38)]) [0, 1, 2, 3, 4, 5, 6] rfl ?_
          exact J_51 _ _ h
        · replace h := (if_pos hc).symm.trans h
          refine V_iconst C (0 : Int32) dX8_join_289 (by decide) ?_
          refine V_goto C (tgt := 301) dX8_join_290 (by decide) ?_
          refine V_sub (LP := [(0, .ref (E.1 30 0)), (1, .int c1_33), (2, .int c2_34), (4, .int c4_35), (5, .int c5_36), (8, .int c8_37), (9, .int a9_38)]) [0, 1, 2, 3, 4, 5, 6] rfl ?_
          exact J_51 _ _ h
set_option maxHeartbeats 4000000 in
set_option maxRecDepth 100000 in
theorem con_X8_join {l : Launch} {E : WE} (hl : l.stackTraces = false)   {μ : Mem} {x} (h : f_X8_join  μ = some x) : Con l E lvM yX8_join cX8_join 12 (some .boolean) 3 [.ref (E.1 30 0)] μ (rWi x) := by
  refine Con.of (by decide) hl (Nat.le_of_ble_eq_true rfl) (fun Y C => ?_)
  replace C : Ok Y l E lvM 12 RX8 cX8_join (some .boolean) 3 := C
  show V Y l E lvM 12 (rWi x) 0 [(0, .ref (E.1 30 0))] [] μ
  unfold f_X8_join at h
  refine V_aload_n C 0 dX8_join_0 rfl 0 rfl ?_
  refine V_getf (v := .ref (E.1 32 0)) C 30 0 m_30 fl_RX8_13 rfl rfl dX8_join_1 ?_
  refine V_bipush C (18 : Int32) dX8_join_4 (by decide) ?_
  obtain ⟨hi9, h⟩ := gd_inv h
  refine V_iald C 32 0 m_32 (fun _ => rfl) (inb_in hi9) dX8_join_6 ?_
  refine V_topi (fun x_1 hn9 => ?_)
  replace h := lt_eq hn9 h; clear hn9
  refine V_istore_n (L' := [(0, .ref (E.1 30 0)), (1, .int x_1)]) C 1 dX8_join_7 rfl (by decide) [1, 0] rfl ?_
  refine V_aload_n C 0 dX8_join_8 rfl 0 rfl ?_
  refine V_getf (v := .ref (E.1 32 0)) C 30 0 m_30 fl_RX8_13 rfl rfl dX8_join_9 ?_
  refine V_bipush C (19 : Int32) dX8_join_12 (by decide) ?_
  obtain ⟨hi9, h⟩ := gd_inv h
  refine V_iald C 32 0 m_32 (fun _ => rfl) (inb_in hi9) dX8_join_14 ?_
  refine V_topi (fun x_2 hn9 => ?_)
  replace h := lt_eq hn9 h; clear hn9
  refine V_istore_n (L' := [(0, .ref (E.1 30 0)), (1, .int x_1), (2, .int x_2)]) C 2 dX8_join_15 rfl (by decide) [1, 2, 0] rfl ?_
  refine V_iload_n C 1 dX8_join_16 rfl 1 rfl ?_
  refine V_iload_n C 2 dX8_join_17 rfl 2 rfl ?_
  obtain ⟨j_4, hj_4, h⟩ := jn_ex h
  have J_4 : ∀ (s_3 : Int32) x, j_4 s_3 = some x → V Y l E lvM 12 (rWi x) 26 [(0, .ref (E.1 30 0)), (1, .int x_1), (2, .int x_2)] [.int s_3] μ := by
    intro s_3  x h
    rw [hj_4] at h; clear hj_4
    refine V_istore_n (L' := [(0, .ref (E.1 30 0)), (1, .int x_1), (2, .int x_2), (3, .int s_3)]) C 3 dX8_join_26 rfl (by decide) [1, 2, 3, 0] rfl ?_
    refine V_iload_n C 3 dX8_join_27 rfl 3 rfl ?_
    obtain ⟨j_6, hj_6, h⟩ := jn_ex h
    have J_6 : ∀ (a3_5 : Int32) x, j_6 a3_5 = some x → V Y l E lvM 12 (rWi x) 33 [(0, .ref (E.1 30 0)), (1, .int x_1), (2, .int x_2), (3, .int a3_5)] [] μ := by
      intro a3_5  x h
      rw [hj_6] at h; clear hj_6
      refine V_iload_n C 1 dX8_join_33 rfl 1 rfl ?_
      obtain ⟨j_8, hj_8, h⟩ := jn_ex h
      have J_8 : ∀ (μ_7 : Mem) x, j_8 μ_7 = some x → V Y l E lvM 12 (rWi x) 61 [(0, .ref (E.1 30 0)), (1, .int x_1), (2, .int x_2), (3, .int a3_5)] [] μ_7 := by
        intro μ_7  x h
        rw [hj_8] at h; clear hj_8
        refine V_iconst C (0 : Int32) dX8_join_61 (by decide) ?_
        refine V_istore (L' := [(0, .ref (E.1 30 0)), (1, .int x_1), (2, .int x_2), (3, .int a3_5), (4, .int (0 : Int32))]) C dX8_join_62 (by decide) [1, 2, 3, 4, 0] rfl ?_
        refine V_sub (LP := [(0, .ref (E.1 30 0)), (1, .int x_1), (2, .int x_2), (3, .int a3_5), (4, .int (0 : Int32))]) [0, 1, 2, 3, 4] rfl ?_
        refine lp_X8_join_64 hl C x_1 x_2 a3_5 μ_7 (fun _ x h => ?_) 1000 _ h
        refine V_iload_n C 1 dX8_join_111 rfl 1 rfl ?_
        obtain ⟨j_21, hj_21, h⟩ := jn_ex h
        have J_21 : ∀ (s_20 : Int32) x, j_21 s_20 = some x → V Y l E lvM 12 (rWi x) 126 [(0, .ref (E.1 30 0)), (1, .int x_1), (2, .int x_2), (3, .int a3_5)] [.int s_20] μ_7 := by
          intro s_20  x h
          rw [hj_21] at h; clear hj_21
          refine V_istore (L' := [(0, .ref (E.1 30 0)), (1, .int x_1), (2, .int x_2), (3, .int a3_5), (4, .int s_20)]) C dX8_join_126 (by decide) [1, 2, 3, 4, 0] rfl ?_
          refine V_iload_n C 2 dX8_join_128 rfl 2 rfl ?_
          obtain ⟨j_23, hj_23, h⟩ := jn_ex h
          have J_23 : ∀ (s_22 : Int32) x, j_23 s_22 = some x → V Y l E lvM 12 (rWi x) 143 [(0, .ref (E.1 30 0)), (1, .int x_1), (2, .int x_2), (3, .int a3_5), (4, .int s_20)] [.int s_22] μ_7 := by
            intro s_22  x h
            rw [hj_23] at h; clear hj_23
            refine V_istore (L' := [(0, .ref (E.1 30 0)), (1, .int x_1), (2, .int x_2), (3, .int a3_5), (4, .int s_20), (5, .int s_22)]) C dX8_join_143 (by decide) [1, 2, 3, 4, 5, 0] rfl ?_
            refine V_iload_n C 3 dX8_join_145 rfl 3 rfl ?_
            refine V_iconst C (1 : Int32) dX8_join_146 (by decide) ?_
            obtain ⟨j_25, hj_25, h⟩ := jn_ex h
            have J_25 : ∀ (s_24 : Int32) x, j_25 s_24 = some x → V Y l E lvM 12 (rWi x) 168 [(0, .ref (E.1 30 0)), (1, .int x_1), (2, .int x_2), (3, .int a3_5), (4, .int s_20), (5, .int s_22)] [.int s_24] μ_7 := by
              intro s_24  x h
              rw [hj_25] at h; clear hj_25
              refine V_istore (L' := [(0, .ref (E.1 30 0)), (1, .int x_1), (2, .int x_2), (3, .int a3_5), (4, .int s_20), (5, .int s_22), (6, .int s_24)]) C dX8_join_168 (by decide) [1, 2, 3, 4, 5, 6, 0] rfl ?_
              refine V_iload_n C 3 dX8_join_170 rfl 3 rfl ?_
              refine V_iconst C (2 : Int32) dX8_join_171 (by decide) ?_
              obtain ⟨j_27, hj_27, h⟩ := jn_ex h
              have J_27 : ∀ (s_26 : Int32) x, j_27 s_26 = some x → V Y l E lvM 12 (rWi x) 202 [(0, .ref (E.1 30 0)), (1, .int x_1), (2, .int x_2), (3, .int a3_5), (4, .int s_20), (5, .int s_22), (6, .int s_24)] [.int s_26] μ_7 := by
                intro s_26  x h
                rw [hj_27] at h; clear hj_27
                refine V_istore (L' := [(0, .ref (E.1 30 0)), (1, .int x_1), (2, .int x_2), (3, .int a3_5), (4, .int s_20), (5, .int s_22), (6, .int s_24), (7, .int s_26)]) C dX8_join_202 (by decide) [1, 2, 3, 4, 5, 6, 7, 0] rfl ?_
                refine V_aload_n C 0 dX8_join_204 rfl 0 rfl ?_
                refine V_iload_n C 3 dX8_join_205 rfl 3 rfl ?_
                refine V_iload C dX8_join_206 6 rfl ?_
                refine V_iload C dX8_join_208 7 rfl ?_
                refine V_iload_n C 3 dX8_join_210 rfl 3 rfl ?_
                refine V_iconst C (3 : Int32) dX8_join_211 (by decide) ?_
                obtain ⟨j_29, hj_29, h⟩ := jn_ex h
                have J_29 : ∀ (s_28 : Int32) x, j_29 s_28 = some x → V Y l E lvM 12 (rWi x) 224 [(0, .ref (E.1 30 0)), (1, .int x_1), (2, .int x_2), (4, .int s_20), (5, .int s_22)] [.int s_28, .int s_26, .int s_24, .int a3_5, .ref (E.1 30 0)] μ_7 := by
                  intro s_28  x h
                  rw [hj_29] at h; clear hj_29
                  obtain ⟨v_30, μ_31, hv, h⟩ := bW_inv h
                  refine V_callVo C 30 0 m_30 (some (.int v_30)) (con_X8_shape hl a3_5 s_24 s_26 s_28 hv) tb_X8_shape lk_RX8_128 rfl rfl rfl (by decide) (by decide) rfl (Nat.le_of_ble_eq_true rfl) rfl dX8_join_224 rfl ?_
                  clear hv
                  refine V_if_ne C (tgt := 232) dX8_join_227 (by decide) (fun hc => ?_) (fun hc => ?_)
                  · replace h := (if_neg hc).symm.trans h
                    refine V_aload_n C 0 dX8_join_232 rfl 0 rfl ?_
                    refine V_bipush C (8 : Int32) dX8_join_233 (by decide) ?_
                    obtain ⟨v_32, hv, h⟩ := bP_inv h
                    refine V_callVo C 30 0 m_30 (some (.int v_32)) (con_X8_sizeOf hl (8 : Int32) hv) tb_X8_sizeOf lk_RX8_98 rfl rfl rfl (by decide) (by decide) rfl (Nat.le_of_ble_eq_true rfl) rfl dX8_join_235 rfl ?_
                    clear hv
                    refine V_istore (L' := [(0, .ref (E.1 30 0)), (1, .int x_1), (2, .int x_2), (4, .int s_20), (5, .int s_22), (8, .int v_32)]) C dX8_join_238 (by decide) [1, 2, 3, 4, 5, 0] rfl ?_
                    refine V_iconst C (0 : Int32) dX8_join_240 (by decide) ?_
                    refine V_istore (L' := [(0, .ref (E.1 30 0)), (1, .int x_1), (2, .int x_2), (4, .int s_20), (5, .int s_22), (8, .int v_32), (9, .int (0 : Int32))]) C dX8_join_241 (by decide) [1, 2, 3, 4, 5, 6, 0] rfl ?_
                    refine V_sub (LP := [(0, .ref (E.1 30 0)), (1, .int x_1), (2, .int x_2), (4, .int s_20), (5, .int s_22), (8, .int v_32), (9, .int (0 : Int32))]) [0, 1, 2, 3, 4, 5, 6] rfl ?_
                    refine lp_X8_join_243 hl C x_1 x_2 s_20 s_22 v_32 (fun μ_54 x h => ?_) 1000 _ _ h
                    refine V_iconst C (1 : Int32) dX8_join_341 (by decide) ?_
                    cases h
                    exact V_ireturn C rfl rfl rfl dX8_join_342
                  · replace h := (if_pos hc).symm.trans h
                    refine V_iconst C (0 : Int32) dX8_join_230 (by decide) ?_
                    cases h
                    exact V_ireturn C rfl rfl rfl dX8_join_231
                clear hj_29
                refine V_icmp_ne C (tgt := 223) dX8_join_212 (by decide) (fun hc => ?_) (fun hc => ?_)
                · replace h := (if_neg hc).symm.trans h
                  refine V_iconst C (0 : Int32) dX8_join_223 (by decide) ?_
                  refine V_sub (LP := [(0, .ref (E.1 30 0)), (1, .int x_1), (2, .int x_2), (4, .int s_20), (5, .int s_22)]) [0, 1, 2, 4, 5] rfl ?_
                  exact J_29 _ _ h
                · replace h := (if_pos hc).symm.trans h
                  refine V_iload C dX8_join_215 4 rfl ?_
                  refine V_iload C dX8_join_217 5 rfl ?_
                  refine V_iadd C dX8_join_219 ?_
                  refine V_goto C (tgt := 224) dX8_join_220 (by decide) ?_
                  refine V_sub (LP := [(0, .ref (E.1 30 0)), (1, .int x_1), (2, .int x_2), (4, .int s_20), (5, .int s_22)]) [0, 1, 2, 4, 5] rfl ?_
                  exact J_29 _ _ h
              clear hj_27
              refine V_icmp_ne C (tgt := 183) dX8_join_172 (by decide) (fun hc => ?_) (fun hc => ?_)
              · replace h := (if_neg hc).symm.trans h
                refine V_iload_n C 3 dX8_join_183 rfl 3 rfl ?_
                refine V_iconst C (2 : Int32) dX8_join_184 (by decide) ?_
                refine V_icmp_le C (tgt := 201) dX8_join_185 (by decide) (fun hc => ?_) (fun hc => ?_)
                · replace h := (if_pos hc).symm.trans h
                  refine V_iconst C (0 : Int32) dX8_join_201 (by decide) ?_
                  refine V_sub (LP := [(0, .ref (E.1 30 0)), (1, .int x_1), (2, .int x_2), (3, .int a3_5), (4, .int s_20), (5, .int s_22), (6, .int s_24)]) [0, 1, 2, 3, 4, 5, 6] rfl ?_
                  exact J_27 _ _ h
                · replace h := (if_neg hc).symm.trans h
                  refine V_aload_n C 0 dX8_join_188 rfl 0 rfl ?_
                  refine V_bipush C (18 : Int32) dX8_join_189 (by decide) ?_
                  refine V_iload_n C 3 dX8_join_191 rfl 3 rfl ?_
                  refine V_bipush C (19 : Int32) dX8_join_192 (by decide) ?_
                  refine V_iconst C (1 : Int32) dX8_join_194 (by decide) ?_
                  obtain ⟨v_55, hv, h⟩ := bP_inv h
                  refine V_callVo C 30 0 m_30 (some (.int v_55)) (con_X8_before hl (18 : Int32) a3_5 (19 : Int32) (1 : Int32) hv) tb_X8_before lk_RX8_173 rfl rfl rfl (by decide) (by decide) rfl (Nat.le_of_ble_eq_true rfl) rfl dX8_join_195 rfl ?_
                  clear hv
                  refine V_goto C (tgt := 202) dX8_join_198 (by decide) ?_
                  refine V_sub (LP := [(0, .ref (E.1 30 0)), (1, .int x_1), (2, .int x_2), (3, .int a3_5), (4, .int s_20), (5, .int s_22), (6, .int s_24)]) [0, 1, 2, 3, 4, 5, 6] rfl ?_
                  exact J_27 _ _ h
              · replace h := (if_pos hc).symm.trans h
                refine V_iload C dX8_join_175 4 rfl ?_
                refine V_iload C dX8_join_177 5 rfl ?_
                refine V_iadd C dX8_join_179 ?_
                refine V_goto C (tgt := 202) dX8_join_180 (by decide) ?_
                refine V_sub (LP := [(0, .ref (E.1 30 0)), (1, .int x_1), (2, .int x_2), (3, .int a3_5), (4, .int s_20), (5, .int s_22), (6, .int s_24)]) [0, 1, 2, 3, 4, 5, 6] rfl ?_
                exact J_27 _ _ h
            clear hj_25
            refine V_icmp_ne C (tgt := 158) dX8_join_147 (by decide) (fun hc => ?_) (fun hc => ?_)
            · replace h := (if_neg hc).symm.trans h
              refine V_aload_n C 0 dX8_join_158 rfl 0 rfl ?_
              refine V_bipush C (18 : Int32) dX8_join_159 (by decide) ?_
              refine V_iload_n C 3 dX8_join_161 rfl 3 rfl ?_
              refine V_bipush C (19 : Int32) dX8_join_162 (by decide) ?_
              refine V_iconst C (0 : Int32) dX8_join_164 (by decide) ?_
              obtain ⟨v_56, hv, h⟩ := bP_inv h
              refine V_callVo C 30 0 m_30 (some (.int v_56)) (con_X8_before hl (18 : Int32) a3_5 (19 : Int32) (0 : Int32) hv) tb_X8_before lk_RX8_173 rfl rfl rfl (by decide) (by decide) rfl (Nat.le_of_ble_eq_true rfl) rfl dX8_join_165 rfl ?_
              clear hv
              refine V_sub (LP := [(0, .ref (E.1 30 0)), (1, .int x_1), (2, .int x_2), (3, .int a3_5), (4, .int s_20), (5, .int s_22)]) [0, 1, 2, 3, 4, 5] rfl ?_
              exact J_25 _ _ h
            · replace h := (if_pos hc).symm.trans h
              refine V_iload C dX8_join_150 4 rfl ?_
              refine V_iload C dX8_join_152 5 rfl ?_
              refine V_iadd C dX8_join_154 ?_
              refine V_goto C (tgt := 168) dX8_join_155 (by decide) ?_
              refine V_sub (LP := [(0, .ref (E.1 30 0)), (1, .int x_1), (2, .int x_2), (3, .int a3_5), (4, .int s_20), (5, .int s_22)]) [0, 1, 2, 3, 4, 5] rfl ?_
              exact J_25 _ _ h
          clear hj_23
          refine V_if_ne C (tgt := 136) dX8_join_129 (by decide) (fun hc => ?_) (fun hc => ?_)
          · replace h := (if_neg hc).symm.trans h
            refine V_aload_n C 0 dX8_join_136 rfl 0 rfl ?_
            refine V_bipush C (19 : Int32) dX8_join_137 (by decide) ?_
            refine V_iload_n C 3 dX8_join_139 rfl 3 rfl ?_
            obtain ⟨v_57, hv, h⟩ := bP_inv h
            refine V_callVo C 30 0 m_30 (some (.int v_57)) (con_X8_width hl (19 : Int32) a3_5 hv) tb_X8_width lk_RX8_170 rfl rfl rfl (by decide) (by decide) rfl (Nat.le_of_ble_eq_true rfl) rfl dX8_join_140 rfl ?_
            clear hv
            refine V_sub (LP := [(0, .ref (E.1 30 0)), (1, .int x_1), (2, .int x_2), (3, .int a3_5), (4, .int s_20)]) [0, 1, 2, 3, 4] rfl ?_
            exact J_23 _ _ h
          · replace h := (if_pos hc).symm.trans h
            refine V_iconst C (1 : Int32) dX8_join_132 (by decide) ?_
            refine V_goto C (tgt := 143) dX8_join_133 (by decide) ?_
            refine V_sub (LP := [(0, .ref (E.1 30 0)), (1, .int x_1), (2, .int x_2), (3, .int a3_5), (4, .int s_20)]) [0, 1, 2, 3, 4] rfl ?_
            exact J_23 _ _ h
        clear hj_21
        refine V_if_ne C (tgt := 119) dX8_join_112 (by decide) (fun hc => ?_) (fun hc => ?_)
        · replace h := (if_neg hc).symm.trans h
          refine V_aload_n C 0 dX8_join_119 rfl 0 rfl ?_
          refine V_bipush C (18 : Int32) dX8_join_120 (by decide) ?_
          refine V_iload_n C 3 dX8_join_122 rfl 3 rfl ?_
          obtain ⟨v_58, hv, h⟩ := bP_inv h
          refine V_callVo C 30 0 m_30 (some (.int v_58)) (con_X8_width hl (18 : Int32) a3_5 hv) tb_X8_width lk_RX8_170 rfl rfl rfl (by decide) (by decide) rfl (Nat.le_of_ble_eq_true rfl) rfl dX8_join_123 rfl ?_
          clear hv
          refine V_sub (LP := [(0, .ref (E.1 30 0)), (1, .int x_1), (2, .int x_2), (3, .int a3_5)]) [0, 1, 2, 3] rfl ?_
          exact J_21 _ _ h
        · replace h := (if_pos hc).symm.trans h
          refine V_iconst C (1 : Int32) dX8_join_115 (by decide) ?_
          refine V_goto C (tgt := 126) dX8_join_116 (by decide) ?_
          refine V_sub (LP := [(0, .ref (E.1 30 0)), (1, .int x_1), (2, .int x_2), (3, .int a3_5)]) [0, 1, 2, 3] rfl ?_
          exact J_21 _ _ h
      clear hj_8
      refine V_if_eq C (tgt := 61) dX8_join_34 (by decide) (fun hc => ?_) (fun hc => ?_)
      · replace h := (if_pos hc).symm.trans h
        refine V_sub (LP := [(0, .ref (E.1 30 0)), (1, .int x_1), (2, .int x_2), (3, .int a3_5)]) [0, 1, 2, 3] rfl ?_
        exact J_8 _ _ h
      · replace h := (if_neg hc).symm.trans h
        refine V_iload_n C 2 dX8_join_37 rfl 2 rfl ?_
        refine V_if_eq C (tgt := 61) dX8_join_38 (by decide) (fun hc => ?_) (fun hc => ?_)
        · replace h := (if_pos hc).symm.trans h
          refine V_sub (LP := [(0, .ref (E.1 30 0)), (1, .int x_1), (2, .int x_2), (3, .int a3_5)]) [0, 1, 2, 3] rfl ?_
          exact J_8 _ _ h
        · replace h := (if_neg hc).symm.trans h
          refine V_iload_n C 1 dX8_join_41 rfl 1 rfl ?_
          refine V_iload_n C 2 dX8_join_42 rfl 2 rfl ?_
          refine V_isub C dX8_join_43 ?_
          refine V_iconst C (1 : Int32) dX8_join_44 (by decide) ?_
          obtain ⟨j_59, hj_59, h⟩ := jn_ex h
          have J_59 : ∀ (_ : Unit) x, j_59 () = some x → V Y l E lvM 12 (rWi x) 55 [(0, .ref (E.1 30 0))] [] μ := by
            intro _  x h
            rw [hj_59] at h; clear hj_59
            refine V_aload_n C 0 dX8_join_55 rfl 0 rfl ?_
            refine V_iconst C (4 : Int32) dX8_join_56 (by decide) ?_
            obtain ⟨v_60, μ_61, hv, h⟩ := bW_inv h
            refine V_callVo C 30 0 m_30 (some (.int v_60)) (con_X8_stop hl (4 : Int32) hv) tb_X8_stop lk_RX8_95 rfl rfl rfl (by decide) (by decide) rfl (Nat.le_of_ble_eq_true rfl) rfl dX8_join_57 rfl ?_
            clear hv
            obtain ⟨hr9, h⟩ := gd_inv h
            cases h
            exact V_ireturn C rfl (isb_nar hr9) rfl dX8_join_60
          clear hj_59
          refine V_icmp_gt C (tgt := 55) dX8_join_45 (by decide) (fun hc => ?_) (fun hc => ?_)
          · replace h := (if_pos hc).symm.trans h
            refine V_sub (LP := [(0, .ref (E.1 30 0))]) [0] rfl ?_
            exact J_59 () _ h
          · replace h := (if_neg hc).symm.trans h
            refine V_iload_n C 2 dX8_join_48 rfl 2 rfl ?_
            refine V_iload_n C 1 dX8_join_49 rfl 1 rfl ?_
            refine V_isub C dX8_join_50 ?_
            refine V_iconst C (1 : Int32) dX8_join_51 (by decide) ?_
            refine V_icmp_le C (tgt := 61) dX8_join_52 (by decide) (fun hc => ?_) (fun hc => ?_)
            · replace h := (if_pos hc).symm.trans h
              refine V_sub (LP := [(0, .ref (E.1 30 0)), (1, .int x_1), (2, .int x_2), (3, .int a3_5)]) [0, 1, 2, 3] rfl ?_
              exact J_8 _ _ h
            · replace h := (if_neg hc).symm.trans h
              refine V_sub (LP := [(0, .ref (E.1 30 0))]) [0] rfl ?_
              exact J_59 () _ h
    clear hj_6
    refine V_if_ne C (tgt := 33) dX8_join_28 (by decide) (fun hc => ?_) (fun hc => ?_)
    · replace h := (if_neg hc).symm.trans h
      refine V_sub (LP := [(0, .ref (E.1 30 0)), (1, .int x_1), (2, .int x_2), (3, .int s_3)]) [0, 1, 2, 3] rfl ?_
      exact J_6 _ _ h
    · replace h := (if_pos hc).symm.trans h
      refine V_iconst C (1 : Int32) dX8_join_31 (by decide) ?_
      refine V_istore_n (L' := [(0, .ref (E.1 30 0)), (1, .int x_1), (2, .int x_2), (3, .int (1 : Int32))]) C 3 dX8_join_32 rfl (by decide) [1, 2, 3, 0] rfl ?_
      refine V_sub (LP := [(0, .ref (E.1 30 0)), (1, .int x_1), (2, .int x_2), (3, .int (1 : Int32))]) [0, 1, 2, 3] rfl ?_
      exact J_6 _ _ h
  clear hj_4
  refine V_icmp_le C (tgt := 25) dX8_join_18 (by decide) (fun hc => ?_) (fun hc => ?_)
  · replace h := (if_pos hc).symm.trans h
    refine V_iload_n C 2 dX8_join_25 rfl 2 rfl ?_
    refine V_sub (LP := [(0, .ref (E.1 30 0)), (1, .int x_1), (2, .int x_2)]) [0, 1, 2] rfl ?_
    exact J_4 _ _ h
  · replace h := (if_neg hc).symm.trans h
    refine V_iload_n C 1 dX8_join_21 rfl 1 rfl ?_
    refine V_goto C (tgt := 26) dX8_join_22 (by decide) ?_
    refine V_sub (LP := [(0, .ref (E.1 30 0)), (1, .int x_1), (2, .int x_2)]) [0, 1, 2] rfl ?_
    exact J_4 _ _ h
set_option maxHeartbeats 4000000 in
set_option maxRecDepth 100000 in
theorem lp_X8_pick_74 {Y : Mc} {l : Launch} {E : WE} (hl : l.stackTraces = false) (C : Ok Y l E lvM 7 RX8 cX8_pick (some .boolean) 3) {κ : Int32 → Option (Int32 × Mem)}  (μ_12 : Mem)  (hκ : ∀ (a2_16 : Int32) x, κ a2_16 = some x → V Y l E lvM 7 (rWi x) 101 [(0, .ref (E.1 30 0)), (2, .int a2_16)] [] μ_12) : ∀ (n : Nat) (a2_10 : Int32) (a3_11 : Int32) {x}, f_X8_pick_L74 κ  μ_12 n a2_10 a3_11 = some x → V Y l E lvM 7 (rWi x) 74 [(0, .ref (E.1 30 0)), (2, .int a2_10), (3, .int a3_11)] [] μ_12 := by
  intro n
  induction n with
  | zero =>
    intro a2_10 a3_11 x h
    simp [f_X8_pick_L74] at h
  | succ n ih =>
    intro a2_10 a3_11 x h
    rw [f_X8_pick_L74] at h
    refine V_iload_n C 3 dX8_pick_74 rfl 2 rfl ?_
    refine V_aload_n C 0 dX8_pick_75 rfl 0 rfl ?_
    refine V_getf (v := .ref (E.1 32 0)) C 30 0 m_30 fl_RX8_13 rfl rfl dX8_pick_76 ?_
    refine V_bipush C (19 : Int32) dX8_pick_79 (by decide) ?_
    obtain ⟨hi9, h⟩ := gd_inv h
    refine V_iald C 32 0 m_32 (fun _ => rfl) (inb_in hi9) dX8_pick_81 ?_
    refine V_icmp_ge C (tgt := 101) dX8_pick_82 (by decide) (fun hc => ?_) (fun hc => ?_)
    · replace h := (if_pos hc).symm.trans h
      refine V_sub (LP := [(0, .ref (E.1 30 0)), (2, .int a2_10)]) [0, 1] rfl ?_
      exact hκ _ _ h
    · replace h := (if_neg hc).symm.trans h
      refine V_iload_n C 2 dX8_pick_85 rfl 1 rfl ?_
      refine V_aload_n C 0 dX8_pick_86 rfl 0 rfl ?_
      refine V_bipush C (19 : Int32) dX8_pick_87 (by decide) ?_
      refine V_iload_n C 3 dX8_pick_89 rfl 2 rfl ?_
      obtain ⟨v_13, hv, h⟩ := bP_inv h
      refine V_callVo C 30 0 m_30 (some (.int v_13)) (con_X8_axisOf hl (19 : Int32) a3_11 hv) tb_X8_axisOf lk_RX8_88 rfl rfl rfl (by decide) (by decide) rfl (Nat.le_of_ble_eq_true rfl) rfl dX8_pick_90 rfl ?_
      clear hv
      refine V_imul C dX8_pick_93 ?_
      refine V_topi (fun x_14 hn9 => ?_)
      replace h := lt_eq hn9 h; clear hn9
      refine V_istore_n (L' := [(0, .ref (E.1 30 0)), (2, .int x_14), (3, .int a3_11)]) C 2 dX8_pick_94 rfl (by decide) [1, 0, 2] rfl ?_
      obtain ⟨x_15, hn9⟩ : ∃ z : Int32, z = a3_11 + (1 : Int32) := ⟨_, rfl⟩
      replace h := lt_eq hn9 h
      refine V_iinc (L' := [(0, .ref (E.1 30 0)), (2, .int x_14), (3, .int x_15)]) C x_15 dX8_pick_95 2 rfl (by rw [hn9]; exact congrArg (a3_11 + ·) (by decide)) (by decide) [1, 2, 0] rfl ?_
      clear hn9
      refine V_goto C (tgt := 74) dX8_pick_98 (by decide) ?_
      refine V_sub (LP := [(0, .ref (E.1 30 0)), (2, .int x_14), (3, .int x_15)]) [0, 1, 2] rfl ?_
      exact ih _ _ h
set_option maxHeartbeats 4000000 in
set_option maxRecDepth 100000 in
theorem lp_X8_pick_153 {Y : Mc} {l : Launch} {E : WE} (hl : l.stackTraces = false) (C : Ok Y l E lvM 7 RX8 cX8_pick (some .boolean) 3) {κ : Mem → Option (Int32 × Mem)} (c2_27 : Int32) (c3_28 : Int32) (c4_29 : Int32) (c5_30 : Int32)  (hκ : ∀  (μ_37 : Mem) x, κ  μ_37 = some x → V Y l E lvM 7 (rWi x) 191 [(0, .ref (E.1 30 0)), (2, .int c2_27), (3, .int c3_28), (4, .int c4_29)] [] μ_37) : ∀ (n : Nat) (a6_31 : Int32) (μ_32 : Mem) {x}, f_X8_pick_L153 κ c2_27 c3_28 c4_29 c5_30 n a6_31 μ_32 = some x → V Y l E lvM 7 (rWi x) 153 [(0, .ref (E.1 30 0)), (2, .int c2_27), (3, .int c3_28), (4, .int c4_29), (5, .int c5_30), (6, .int a6_31)] [] μ_32 := by
  intro n
  induction n with
  | zero =>
    intro a6_31 μ_32 x h
    simp [f_X8_pick_L153] at h
  | succ n ih =>
    intro a6_31 μ_32 x h
    rw [f_X8_pick_L153] at h
    refine V_iload C dX8_pick_153 5 rfl ?_
    refine V_iload_n C 2 dX8_pick_155 rfl 1 rfl ?_
    refine V_icmp_ge C (tgt := 191) dX8_pick_156 (by decide) (fun hc => ?_) (fun hc => ?_)
    · replace h := (if_pos hc).symm.trans h
      refine V_sub (LP := [(0, .ref (E.1 30 0)), (2, .int c2_27), (3, .int c3_28), (4, .int c4_29)]) [0, 1, 2, 3] rfl ?_
      exact hκ _ _ h
    · replace h := (if_neg hc).symm.trans h
      refine V_aload_n C 0 dX8_pick_159 rfl 0 rfl ?_
      refine V_bipush C (8 : Int32) dX8_pick_160 (by decide) ?_
      refine V_iload_n C 2 dX8_pick_162 rfl 1 rfl ?_
      refine V_iload C dX8_pick_163 3 rfl ?_
      refine V_imul C dX8_pick_165 ?_
      refine V_iload C dX8_pick_166 5 rfl ?_
      refine V_iadd C dX8_pick_168 ?_
      refine V_aload_n C 0 dX8_pick_169 rfl 0 rfl ?_
      refine V_bipush C (19 : Int32) dX8_pick_170 (by decide) ?_
      refine V_iload_n C 2 dX8_pick_172 rfl 1 rfl ?_
      refine V_iload C dX8_pick_173 4 rfl ?_
      refine V_imul C dX8_pick_175 ?_
      refine V_iload C dX8_pick_176 5 rfl ?_
      refine V_iadd C dX8_pick_178 ?_
      obtain ⟨v_33, hv, h⟩ := bP_inv h
      refine V_callVo C 30 0 m_30 (some (.int v_33)) (con_X8_get hl (19 : Int32) ((c2_27 * c5_30) + a6_31) hv) tb_X8_get lk_RX8_119 rfl rfl rfl (by decide) (by decide) rfl (Nat.le_of_ble_eq_true rfl) rfl dX8_pick_179 rfl ?_
      clear hv
      obtain ⟨u_34, μ_35, hv, h⟩ := bW_inv h
      refine V_callVo C 30 0 m_30 none (con_X8_set hl (8 : Int32) ((c2_27 * c4_29) + a6_31) v_33 hv) tb_X8_set lk_RX8_122 rfl rfl rfl (by decide) (by decide) rfl (Nat.le_of_ble_eq_true rfl) rfl dX8_pick_182 rfl ?_
      clear hv
      obtain ⟨x_36, hn9⟩ : ∃ z : Int32, z = a6_31 + (1 : Int32) := ⟨_, rfl⟩
      replace h := lt_eq hn9 h
      refine V_iinc (L' := [(0, .ref (E.1 30 0)), (2, .int c2_27), (3, .int c3_28), (4, .int c4_29), (5, .int c5_30), (6, .int x_36)]) C x_36 dX8_pick_185 5 rfl (by rw [hn9]; exact congrArg (a6_31 + ·) (by decide)) (by decide) [1, 2, 3, 4, 5, 0] rfl ?_
      clear hn9
      refine V_goto C (tgt := 153) dX8_pick_188 (by decide) ?_
      refine V_sub (LP := [(0, .ref (E.1 30 0)), (2, .int c2_27), (3, .int c3_28), (4, .int c4_29), (5, .int c5_30), (6, .int x_36)]) [0, 1, 2, 3, 4, 5] rfl ?_
      exact ih _ _ h
set_option maxHeartbeats 4000000 in
set_option maxRecDepth 100000 in
theorem lp_X8_pick_111 {Y : Mc} {l : Launch} {E : WE} (hl : l.stackTraces = false) (C : Ok Y l E lvM 7 RX8 cX8_pick (some .boolean) 3) {κ : Mem → Option (Int32 × Mem)} (c2_19 : Int32) (c3_20 : Int32)  (hκ : ∀  (μ_42 : Mem) x, κ  μ_42 = some x → V Y l E lvM 7 (rWi x) 197 [] [] μ_42) : ∀ (n : Nat) (a4_21 : Int32) (μ_22 : Mem) {x}, f_X8_pick_L111 κ c2_19 c3_20 n a4_21 μ_22 = some x → V Y l E lvM 7 (rWi x) 111 [(0, .ref (E.1 30 0)), (2, .int c2_19), (3, .int c3_20), (4, .int a4_21)] [] μ_22 := by
  intro n
  induction n with
  | zero =>
    intro a4_21 μ_22 x h
    simp [f_X8_pick_L111] at h
  | succ n ih =>
    intro a4_21 μ_22 x h
    rw [f_X8_pick_L111] at h
    refine V_iload C dX8_pick_111 3 rfl ?_
    refine V_iload_n C 3 dX8_pick_113 rfl 2 rfl ?_
    refine V_icmp_ge C (tgt := 197) dX8_pick_114 (by decide) (fun hc => ?_) (fun hc => ?_)
    · replace h := (if_pos hc).symm.trans h
      refine V_sub (LP := []) [] rfl ?_
      exact hκ _ _ h
    · replace h := (if_neg hc).symm.trans h
      refine V_aload_n C 0 dX8_pick_117 rfl 0 rfl ?_
      refine V_bipush C (18 : Int32) dX8_pick_118 (by decide) ?_
      refine V_iload C dX8_pick_120 3 rfl ?_
      obtain ⟨v_23, hv, h⟩ := bP_inv h
      refine V_callVo C 30 0 m_30 (some (.int v_23)) (con_X8_get hl (18 : Int32) a4_21 hv) tb_X8_get lk_RX8_119 rfl rfl rfl (by decide) (by decide) rfl (Nat.le_of_ble_eq_true rfl) rfl dX8_pick_122 rfl ?_
      clear hv
      refine V_istore (L' := [(0, .ref (E.1 30 0)), (2, .int c2_19), (3, .int c3_20), (4, .int a4_21), (5, .int v_23)]) C dX8_pick_125 (by decide) [1, 2, 3, 4, 0] rfl ?_
      refine V_iload C dX8_pick_127 4 rfl ?_
      refine V_if_lt C (tgt := 144) dX8_pick_129 (by decide) (fun hc => ?_) (fun hc => ?_)
      · replace h := (if_pos hc).symm.trans h
        refine V_aload_n C 0 dX8_pick_144 rfl 0 rfl ?_
        refine V_iconst C (5 : Int32) dX8_pick_145 (by decide) ?_
        obtain ⟨v_24, μ_25, hv, h⟩ := bW_inv h
        refine V_callVo C 30 0 m_30 (some (.int v_24)) (con_X8_stop hl (5 : Int32) hv) tb_X8_stop lk_RX8_95 rfl rfl rfl (by decide) (by decide) rfl (Nat.le_of_ble_eq_true rfl) rfl dX8_pick_146 rfl ?_
        clear hv
        obtain ⟨hr9, h⟩ := gd_inv h
        cases h
        exact V_ireturn C rfl (isb_nar hr9) rfl dX8_pick_149
      · replace h := (if_neg hc).symm.trans h
        refine V_iload C dX8_pick_132 4 rfl ?_
        refine V_aload_n C 0 dX8_pick_134 rfl 0 rfl ?_
        refine V_bipush C (19 : Int32) dX8_pick_135 (by decide) ?_
        refine V_iconst C (0 : Int32) dX8_pick_137 (by decide) ?_
        obtain ⟨v_26, hv, h⟩ := bP_inv h
        refine V_callVo C 30 0 m_30 (some (.int v_26)) (con_X8_axisOf hl (19 : Int32) (0 : Int32) hv) tb_X8_axisOf lk_RX8_88 rfl rfl rfl (by decide) (by decide) rfl (Nat.le_of_ble_eq_true rfl) rfl dX8_pick_138 rfl ?_
        clear hv
        refine V_icmp_lt C (tgt := 150) dX8_pick_141 (by decide) (fun hc => ?_) (fun hc => ?_)
        · replace h := (if_pos hc).symm.trans h
          refine V_iconst C (0 : Int32) dX8_pick_150 (by decide) ?_
          refine V_istore (L' := [(0, .ref (E.1 30 0)), (2, .int c2_19), (3, .int c3_20), (4, .int a4_21), (5, .int v_23), (6, .int (0 : Int32))]) C dX8_pick_151 (by decide) [1, 2, 3, 4, 5, 0] rfl ?_
          refine V_sub (LP := [(0, .ref (E.1 30 0)), (2, .int c2_19), (3, .int c3_20), (4, .int a4_21), (5, .int v_23), (6, .int (0 : Int32))]) [0, 1, 2, 3, 4, 5] rfl ?_
          refine lp_X8_pick_153 hl C c2_19 c3_20 a4_21 v_23 (fun μ_38 x h => ?_) 1000 _ _ h
          obtain ⟨x_39, hn9⟩ : ∃ z : Int32, z = a4_21 + (1 : Int32) := ⟨_, rfl⟩
          replace h := lt_eq hn9 h
          refine V_iinc (L' := [(0, .ref (E.1 30 0)), (2, .int c2_19), (3, .int c3_20), (4, .int x_39)]) C x_39 dX8_pick_191 3 rfl (by rw [hn9]; exact congrArg (a4_21 + ·) (by decide)) (by decide) [1, 2, 3, 0] rfl ?_
          clear hn9
          refine V_goto C (tgt := 111) dX8_pick_194 (by decide) ?_
          refine V_sub (LP := [(0, .ref (E.1 30 0)), (2, .int c2_19), (3, .int c3_20), (4, .int x_39)]) [0, 1, 2, 3] rfl ?_
          exact ih _ _ h
        · replace h := (if_neg hc).symm.trans h
          refine V_aload_n C 0 dX8_pick_144 rfl 0 rfl ?_
          refine V_iconst C (5 : Int32) dX8_pick_145 (by decide) ?_
          obtain ⟨v_40, μ_41, hv, h⟩ := bW_inv h
          refine V_callVo C 30 0 m_30 (some (.int v_40)) (con_X8_stop hl (5 : Int32) hv) tb_X8_stop lk_RX8_95 rfl rfl rfl (by decide) (by decide) rfl (Nat.le_of_ble_eq_true rfl) rfl dX8_pick_146 rfl ?_
          clear hv
          obtain ⟨hr9, h⟩ := gd_inv h
          cases h
          exact V_ireturn C rfl (isb_nar hr9) rfl dX8_pick_149
set_option maxHeartbeats 4000000 in
set_option maxRecDepth 100000 in
theorem con_X8_pick {l : Launch} {E : WE} (hl : l.stackTraces = false)   {μ : Mem} {x} (h : f_X8_pick  μ = some x) : Con l E lvM yX8_pick cX8_pick 7 (some .boolean) 3 [.ref (E.1 30 0)] μ (rWi x) := by
  refine Con.of (by decide) hl (Nat.le_of_ble_eq_true rfl) (fun Y C => ?_)
  replace C : Ok Y l E lvM 7 RX8 cX8_pick (some .boolean) 3 := C
  show V Y l E lvM 7 (rWi x) 0 [(0, .ref (E.1 30 0))] [] μ
  unfold f_X8_pick at h
  refine V_aload_n C 0 dX8_pick_0 rfl 0 rfl ?_
  refine V_getf (v := .ref (E.1 32 0)) C 30 0 m_30 fl_RX8_13 rfl rfl dX8_pick_1 ?_
  refine V_bipush C (18 : Int32) dX8_pick_4 (by decide) ?_
  obtain ⟨hi9, h⟩ := gd_inv h
  refine V_iald C 32 0 m_32 (fun _ => rfl) (inb_in hi9) dX8_pick_6 ?_
  refine V_aload_n C 0 dX8_pick_7 rfl 0 rfl ?_
  refine V_getf (v := .ref (E.1 32 0)) C 30 0 m_30 fl_RX8_13 rfl rfl dX8_pick_8 ?_
  refine V_bipush C (19 : Int32) dX8_pick_11 (by decide) ?_
  obtain ⟨hi9, h⟩ := gd_inv h
  refine V_iald C 32 0 m_32 (fun _ => rfl) (inb_in hi9) dX8_pick_13 ?_
  refine V_iadd C dX8_pick_14 ?_
  refine V_topi (fun x_1 hn9 => ?_)
  replace h := lt_eq hn9 h; clear hn9
  refine V_istore_n (L' := [(0, .ref (E.1 30 0)), (1, .int x_1)]) C 1 dX8_pick_15 rfl (by decide) [1, 0] rfl ?_
  refine V_aload_n C 0 dX8_pick_16 rfl 0 rfl ?_
  refine V_getf (v := .ref (E.1 32 0)) C 30 0 m_30 fl_RX8_13 rfl rfl dX8_pick_17 ?_
  refine V_bipush C (19 : Int32) dX8_pick_20 (by decide) ?_
  obtain ⟨hi9, h⟩ := gd_inv h
  refine V_iald C 32 0 m_32 (fun _ => rfl) (inb_in hi9) dX8_pick_22 ?_
  obtain ⟨j_2, hj_2, h⟩ := jn_ex h
  have J_2 : ∀ (_ : Unit) x, j_2 () = some x → V Y l E lvM 7 (rWi x) 31 [(0, .ref (E.1 30 0))] [] μ := by
    intro _  x h
    rw [hj_2] at h; clear hj_2
    refine V_aload_n C 0 dX8_pick_31 rfl 0 rfl ?_
    refine V_iconst C (4 : Int32) dX8_pick_32 (by decide) ?_
    obtain ⟨v_3, μ_4, hv, h⟩ := bW_inv h
    refine V_callVo C 30 0 m_30 (some (.int v_3)) (con_X8_stop hl (4 : Int32) hv) tb_X8_stop lk_RX8_95 rfl rfl rfl (by decide) (by decide) rfl (Nat.le_of_ble_eq_true rfl) rfl dX8_pick_33 rfl ?_
    clear hv
    obtain ⟨hr9, h⟩ := gd_inv h
    cases h
    exact V_ireturn C rfl (isb_nar hr9) rfl dX8_pick_36
  clear hj_2
  refine V_if_eq C (tgt := 31) dX8_pick_23 (by decide) (fun hc => ?_) (fun hc => ?_)
  · replace h := (if_pos hc).symm.trans h
    refine V_sub (LP := [(0, .ref (E.1 30 0))]) [0] rfl ?_
    exact J_2 () _ h
  · replace h := (if_neg hc).symm.trans h
    refine V_iload_n C 1 dX8_pick_26 rfl 1 rfl ?_
    refine V_iconst C (4 : Int32) dX8_pick_27 (by decide) ?_
    refine V_icmp_le C (tgt := 37) dX8_pick_28 (by decide) (fun hc => ?_) (fun hc => ?_)
    · replace h := (if_pos hc).symm.trans h
      refine V_aload_n C 0 dX8_pick_37 rfl 0 rfl ?_
      refine V_iload_n C 1 dX8_pick_38 rfl 1 rfl ?_
      refine V_iconst C (1 : Int32) dX8_pick_39 (by decide) ?_
      refine V_isub C dX8_pick_40 ?_
      refine V_aload_n C 0 dX8_pick_41 rfl 0 rfl ?_
      refine V_iconst C (0 : Int32) dX8_pick_42 (by decide) ?_
      refine V_iconst C (0 : Int32) dX8_pick_43 (by decide) ?_
      refine V_iconst C (1 : Int32) dX8_pick_44 (by decide) ?_
      obtain ⟨v_5, hv, h⟩ := bP_inv h
      refine V_callVo C 30 0 m_30 (some (.int v_5)) (con_X8_joined hl (0 : Int32) (0 : Int32) (1 : Int32) hv) tb_X8_joined lk_RX8_166 rfl rfl rfl (by decide) (by decide) rfl (Nat.le_of_ble_eq_true rfl) rfl dX8_pick_45 rfl ?_
      clear hv
      refine V_aload_n C 0 dX8_pick_48 rfl 0 rfl ?_
      refine V_iconst C (1 : Int32) dX8_pick_49 (by decide) ?_
      refine V_iconst C (0 : Int32) dX8_pick_50 (by decide) ?_
      refine V_iconst C (1 : Int32) dX8_pick_51 (by decide) ?_
      obtain ⟨v_6, hv, h⟩ := bP_inv h
      refine V_callVo C 30 0 m_30 (some (.int v_6)) (con_X8_joined hl (1 : Int32) (0 : Int32) (1 : Int32) hv) tb_X8_joined lk_RX8_166 rfl rfl rfl (by decide) (by decide) rfl (Nat.le_of_ble_eq_true rfl) rfl dX8_pick_52 rfl ?_
      clear hv
      refine V_aload_n C 0 dX8_pick_55 rfl 0 rfl ?_
      refine V_iconst C (2 : Int32) dX8_pick_56 (by decide) ?_
      refine V_iconst C (0 : Int32) dX8_pick_57 (by decide) ?_
      refine V_iconst C (1 : Int32) dX8_pick_58 (by decide) ?_
      obtain ⟨v_7, hv, h⟩ := bP_inv h
      refine V_callVo C 30 0 m_30 (some (.int v_7)) (con_X8_joined hl (2 : Int32) (0 : Int32) (1 : Int32) hv) tb_X8_joined lk_RX8_166 rfl rfl rfl (by decide) (by decide) rfl (Nat.le_of_ble_eq_true rfl) rfl dX8_pick_59 rfl ?_
      clear hv
      obtain ⟨v_8, μ_9, hv, h⟩ := bW_inv h
      refine V_callVo C 30 0 m_30 (some (.int v_8)) (con_X8_shape hl (x_1 - (1 : Int32)) v_5 v_6 v_7 hv) tb_X8_shape lk_RX8_128 rfl rfl rfl (by decide) (by decide) rfl (Nat.le_of_ble_eq_true rfl) rfl dX8_pick_62 rfl ?_
      clear hv
      refine V_if_ne C (tgt := 70) dX8_pick_65 (by decide) (fun hc => ?_) (fun hc => ?_)
      · replace h := (if_neg hc).symm.trans h
        refine V_iconst C (1 : Int32) dX8_pick_70 (by decide) ?_
        refine V_istore_n (L' := [(0, .ref (E.1 30 0)), (1, .int x_1), (2, .int (1 : Int32))]) C 2 dX8_pick_71 rfl (by decide) [1, 2, 0] rfl ?_
        refine V_iconst C (1 : Int32) dX8_pick_72 (by decide) ?_
        refine V_istore_n (L' := [(0, .ref (E.1 30 0)), (1, .int x_1), (2, .int (1 : Int32)), (3, .int (1 : Int32))]) C 3 dX8_pick_73 rfl (by decide) [1, 2, 3, 0] rfl ?_
        refine V_sub (LP := [(0, .ref (E.1 30 0)), (2, .int (1 : Int32)), (3, .int (1 : Int32))]) [0, 2, 3] rfl ?_
        refine lp_X8_pick_74 hl C μ_9 (fun a2_17 x h => ?_) 1000 _ _ h
        refine V_aload_n C 0 dX8_pick_101 rfl 0 rfl ?_
        refine V_bipush C (18 : Int32) dX8_pick_102 (by decide) ?_
        obtain ⟨v_18, hv, h⟩ := bP_inv h
        refine V_callVo C 30 0 m_30 (some (.int v_18)) (con_X8_sizeOf hl (18 : Int32) hv) tb_X8_sizeOf lk_RX8_98 rfl rfl rfl (by decide) (by decide) rfl (Nat.le_of_ble_eq_true rfl) rfl dX8_pick_104 rfl ?_
        clear hv
        refine V_istore_n (L' := [(0, .ref (E.1 30 0)), (2, .int a2_17), (3, .int v_18)]) C 3 dX8_pick_107 rfl (by decide) [1, 2, 0] rfl ?_
        refine V_iconst C (0 : Int32) dX8_pick_108 (by decide) ?_
        refine V_istore (L' := [(0, .ref (E.1 30 0)), (2, .int a2_17), (3, .int v_18), (4, .int (0 : Int32))]) C dX8_pick_109 (by decide) [1, 2, 3, 0] rfl ?_
        refine V_sub (LP := [(0, .ref (E.1 30 0)), (2, .int a2_17), (3, .int v_18), (4, .int (0 : Int32))]) [0, 1, 2, 3] rfl ?_
        refine lp_X8_pick_111 hl C a2_17 v_18 (fun μ_43 x h => ?_) 1000 _ _ h
        refine V_iconst C (1 : Int32) dX8_pick_197 (by decide) ?_
        cases h
        exact V_ireturn C rfl rfl rfl dX8_pick_198
      · replace h := (if_pos hc).symm.trans h
        refine V_iconst C (0 : Int32) dX8_pick_68 (by decide) ?_
        cases h
        exact V_ireturn C rfl rfl rfl dX8_pick_69
    · replace h := (if_neg hc).symm.trans h
      refine V_sub (LP := [(0, .ref (E.1 30 0))]) [0] rfl ?_
      exact J_2 () _ h
set_option maxHeartbeats 4000000 in
set_option maxRecDepth 100000 in
theorem lp_X8_inner_120 {Y : Mc} {l : Launch} {E : WE} (hl : l.stackTraces = false) (C : Ok Y l E lvM 9 RX8 cX8_inner (some .boolean) 3) {κ : Int32 → Option (Int32 × Mem)} (c1_13 : Int32) (c2_14 : Int32) (c4_15 : Int32) (c5_16 : Int32) (μ_19 : Mem)  (hκ : ∀ (a6_23 : Int32) x, κ a6_23 = some x → V Y l E lvM 9 (rWi x) 151 [(0, .ref (E.1 30 0)), (1, .int c1_13), (2, .int c2_14), (4, .int c4_15), (5, .int c5_16), (6, .int a6_23)] [] μ_19) : ∀ (n : Nat) (a6_17 : Int32) (a7_18 : Int32) {x}, f_X8_inner_L120 κ c1_13 c2_14 c4_15 c5_16 μ_19 n a6_17 a7_18 = some x → V Y l E lvM 9 (rWi x) 120 [(0, .ref (E.1 30 0)), (1, .int c1_13), (2, .int c2_14), (4, .int c4_15), (5, .int c5_16), (6, .int a6_17), (7, .int a7_18)] [] μ_19 := by
  intro n
  induction n with
  | zero =>
    intro a6_17 a7_18 x h
    simp [f_X8_inner_L120] at h
  | succ n ih =>
    intro a6_17 a7_18 x h
    rw [f_X8_inner_L120] at h
    refine V_iload C dX8_inner_120 6 rfl ?_
    refine V_aload_n C 0 dX8_inner_122 rfl 0 rfl ?_
    refine V_getf (v := .ref (E.1 32 0)) C 30 0 m_30 fl_RX8_13 rfl rfl dX8_inner_123 ?_
    refine V_bipush C (19 : Int32) dX8_inner_126 (by decide) ?_
    obtain ⟨hi9, h⟩ := gd_inv h
    refine V_iald C 32 0 m_32 (fun _ => rfl) (inb_in hi9) dX8_inner_128 ?_
    refine V_icmp_ge C (tgt := 151) dX8_inner_129 (by decide) (fun hc => ?_) (fun hc => ?_)
    · replace h := (if_pos hc).symm.trans h
      refine V_sub (LP := [(0, .ref (E.1 30 0)), (1, .int c1_13), (2, .int c2_14), (4, .int c4_15), (5, .int c5_16), (6, .int a6_17)]) [0, 1, 2, 3, 4, 5] rfl ?_
      exact hκ _ _ h
    · replace h := (if_neg hc).symm.trans h
      refine V_iload C dX8_inner_132 5 rfl ?_
      refine V_aload_n C 0 dX8_inner_134 rfl 0 rfl ?_
      refine V_bipush C (19 : Int32) dX8_inner_135 (by decide) ?_
      refine V_iload C dX8_inner_137 6 rfl ?_
      obtain ⟨v_20, hv, h⟩ := bP_inv h
      refine V_callVo C 30 0 m_30 (some (.int v_20)) (con_X8_axisOf hl (19 : Int32) a7_18 hv) tb_X8_axisOf lk_RX8_88 rfl rfl rfl (by decide) (by decide) rfl (Nat.le_of_ble_eq_true rfl) rfl dX8_inner_139 rfl ?_
      clear hv
      refine V_imul C dX8_inner_142 ?_
      refine V_topi (fun x_21 hn9 => ?_)
      replace h := lt_eq hn9 h; clear hn9
      refine V_istore (L' := [(0, .ref (E.1 30 0)), (1, .int c1_13), (2, .int c2_14), (4, .int c4_15), (5, .int c5_16), (6, .int x_21), (7, .int a7_18)]) C dX8_inner_143 (by decide) [1, 2, 3, 4, 5, 0, 6] rfl ?_
      obtain ⟨x_22, hn9⟩ : ∃ z : Int32, z = a7_18 + (1 : Int32) := ⟨_, rfl⟩
      replace h := lt_eq hn9 h
      refine V_iinc (L' := [(0, .ref (E.1 30 0)), (1, .int c1_13), (2, .int c2_14), (4, .int c4_15), (5, .int c5_16), (6, .int x_21), (7, .int x_22)]) C x_22 dX8_inner_145 6 rfl (by rw [hn9]; exact congrArg (a7_18 + ·) (by decide)) (by decide) [1, 2, 3, 4, 5, 6, 0] rfl ?_
      clear hn9
      refine V_goto C (tgt := 120) dX8_inner_148 (by decide) ?_
      refine V_sub (LP := [(0, .ref (E.1 30 0)), (1, .int c1_13), (2, .int c2_14), (4, .int c4_15), (5, .int c5_16), (6, .int x_21), (7, .int x_22)]) [0, 1, 2, 3, 4, 5, 6] rfl ?_
      exact ih _ _ h
set_option maxHeartbeats 4000000 in
set_option maxRecDepth 100000 in
theorem lp_X8_inner_171 {Y : Mc} {l : Launch} {E : WE} (hl : l.stackTraces = false) (C : Ok Y l E lvM 9 RX8 cX8_inner (some .boolean) 3) {κ : Mem → Option (Int32 × Mem)} (c1_32 : Int32) (c2_33 : Int32) (c4_34 : Int32) (c5_35 : Int32) (c6_36 : Int32) (c7_37 : Int32)  (hκ : ∀  (μ_46 : Mem) x, κ  μ_46 = some x → V Y l E lvM 9 (rWi x) 239 [(0, .ref (E.1 30 0)), (1, .int c1_32), (2, .int c2_33), (4, .int c4_34), (5, .int c5_35), (6, .int c6_36), (7, .int c7_37)] [] μ_46) : ∀ (n : Nat) (a8_38 : Int32) (μ_39 : Mem) {x}, f_X8_inner_L171 κ c1_32 c2_33 c4_34 c5_35 c6_36 c7_37 n a8_38 μ_39 = some x → V Y l E lvM 9 (rWi x) 171 [(0, .ref (E.1 30 0)), (1, .int c1_32), (2, .int c2_33), (4, .int c4_34), (5, .int c5_35), (6, .int c6_36), (7, .int c7_37), (8, .int a8_38)] [] μ_39 := by
  intro n
  induction n with
  | zero =>
    intro a8_38 μ_39 x h
    simp [f_X8_inner_L171] at h
  | succ n ih =>
    intro a8_38 μ_39 x h
    rw [f_X8_inner_L171] at h
    refine V_iload C dX8_inner_171 7 rfl ?_
    refine V_iload C dX8_inner_173 3 rfl ?_
    refine V_icmp_ge C (tgt := 239) dX8_inner_175 (by decide) (fun hc => ?_) (fun hc => ?_)
    · replace h := (if_pos hc).symm.trans h
      refine V_sub (LP := [(0, .ref (E.1 30 0)), (1, .int c1_32), (2, .int c2_33), (4, .int c4_34), (5, .int c5_35), (6, .int c6_36), (7, .int c7_37)]) [0, 1, 2, 3, 4, 5, 6] rfl ?_
      exact hκ _ _ h
    · replace h := (if_neg hc).symm.trans h
      refine V_aload_n C 0 dX8_inner_178 rfl 0 rfl ?_
      refine V_getf (v := .int (μ_39 30 0 16)) C 30 0 m_30 fl_RX8_92 rfl rfl dX8_inner_179 ?_
      refine V_if_ne C (tgt := 239) dX8_inner_182 (by decide) (fun hc => ?_) (fun hc => ?_)
      · replace h := (if_neg hc).symm.trans h
        refine V_sub (LP := [(0, .ref (E.1 30 0)), (1, .int c1_32), (2, .int c2_33), (4, .int c4_34), (5, .int c5_35), (6, .int c6_36), (7, .int c7_37)]) [0, 1, 2, 3, 4, 5, 6] rfl ?_
        exact hκ _ _ h
      · replace h := (if_pos hc).symm.trans h
        refine V_aload_n C 0 dX8_inner_185 rfl 0 rfl ?_
        refine V_getf (v := .ref (E.1 42 0)) C 30 0 m_30 fl_RX8_44 rfl rfl dX8_inner_186 ?_
        refine V_iload C dX8_inner_189 7 rfl ?_
        refine V_aload_n C 0 dX8_inner_191 rfl 0 rfl ?_
        refine V_iload_n C 2 dX8_inner_192 rfl 2 rfl ?_
        refine V_aload_n C 0 dX8_inner_193 rfl 0 rfl ?_
        refine V_bipush C (18 : Int32) dX8_inner_194 (by decide) ?_
        refine V_iload C dX8_inner_196 6 rfl ?_
        refine V_iload C dX8_inner_198 5 rfl ?_
        obtain ⟨hz9, h⟩ := gd_inv h
        refine V_idiv C dX8_inner_200 (nz_ne hz9) ?_
        refine V_iload C dX8_inner_201 3 rfl ?_
        refine V_imul C dX8_inner_203 ?_
        refine V_iload C dX8_inner_204 7 rfl ?_
        refine V_iadd C dX8_inner_206 ?_
        obtain ⟨v_40, hv, h⟩ := bP_inv h
        refine V_callVo C 30 0 m_30 (some (.int v_40)) (con_X8_get hl (18 : Int32) (((c7_37 / c6_36) * c4_34) + a8_38) hv) tb_X8_get lk_RX8_119 rfl rfl rfl (by decide) (by decide) rfl (Nat.le_of_ble_eq_true rfl) rfl dX8_inner_207 rfl ?_
        clear hv
        refine V_i2l C dX8_inner_210 ?_
        refine V_aload_n C 0 dX8_inner_211 rfl 0 rfl ?_
        refine V_bipush C (19 : Int32) dX8_inner_212 (by decide) ?_
        refine V_iload C dX8_inner_214 7 rfl ?_
        refine V_iload C dX8_inner_216 5 rfl ?_
        refine V_imul C dX8_inner_218 ?_
        refine V_iload C dX8_inner_219 6 rfl ?_
        refine V_iload C dX8_inner_221 5 rfl ?_
        obtain ⟨hz9, h⟩ := gd_inv h
        refine V_irem C dX8_inner_223 (nz_ne hz9) ?_
        refine V_iadd C dX8_inner_224 ?_
        obtain ⟨v_41, hv, h⟩ := bP_inv h
        refine V_callVo C 30 0 m_30 (some (.int v_41)) (con_X8_get hl (19 : Int32) ((a8_38 * c6_36) + (c7_37 - c7_37 / c6_36 * c6_36)) hv) tb_X8_get lk_RX8_119 rfl rfl rfl (by decide) (by decide) rfl (Nat.le_of_ble_eq_true rfl) rfl dX8_inner_225 rfl ?_
        clear hv
        refine V_i2l C dX8_inner_228 ?_
        obtain ⟨v_42, μ_43, hv, h⟩ := bW_inv h
        refine V_callVo C 30 0 m_30 (some (.int v_42)) (con_X8_number hl c2_33 (v_40).toInt64 (v_41).toInt64 hv) tb_X8_number lk_RX8_105 rfl rfl rfl (by decide) (by decide) rfl (Nat.le_of_ble_eq_true rfl) rfl dX8_inner_229 rfl ?_
        clear hv
        obtain ⟨hi9, h⟩ := gd_inv h
        refine V_iast C 42 0 m_42 (fun _ => rfl) (inb_in hi9) dX8_inner_232 ?_
        refine V_memn (fun μ_44 hn9 => ?_)
        replace h := lt_eq hn9 h; clear hn9
        obtain ⟨x_45, hn9⟩ : ∃ z : Int32, z = a8_38 + (1 : Int32) := ⟨_, rfl⟩
        replace h := lt_eq hn9 h
        refine V_iinc (L' := [(0, .ref (E.1 30 0)), (1, .int c1_32), (2, .int c2_33), (4, .int c4_34), (5, .int c5_35), (6, .int c6_36), (7, .int c7_37), (8, .int x_45)]) C x_45 dX8_inner_233 7 rfl (by rw [hn9]; exact congrArg (a8_38 + ·) (by decide)) (by decide) [1, 2, 3, 4, 5, 6, 7, 0] rfl ?_
        clear hn9
        refine V_goto C (tgt := 171) dX8_inner_236 (by decide) ?_
        refine V_sub (LP := [(0, .ref (E.1 30 0)), (1, .int c1_32), (2, .int c2_33), (4, .int c4_34), (5, .int c5_35), (6, .int c6_36), (7, .int c7_37), (8, .int x_45)]) [0, 1, 2, 3, 4, 5, 6, 7] rfl ?_
        exact ih _ _ h
set_option maxHeartbeats 4000000 in
set_option maxRecDepth 100000 in
theorem lp_X8_inner_154 {Y : Mc} {l : Launch} {E : WE} (hl : l.stackTraces = false) (C : Ok Y l E lvM 9 RX8 cX8_inner (some .boolean) 3) {κ : Mem → Option (Int32 × Mem)} (c1_25 : Int32) (c2_26 : Int32) (c4_27 : Int32) (c5_28 : Int32) (c6_29 : Int32)  (hκ : ∀  (μ_55 : Mem) x, κ  μ_55 = some x → V Y l E lvM 9 (rWi x) 267 [(0, .ref (E.1 30 0))] [] μ_55) : ∀ (n : Nat) (a7_30 : Int32) (μ_31 : Mem) {x}, f_X8_inner_L154 κ c1_25 c2_26 c4_27 c5_28 c6_29 n a7_30 μ_31 = some x → V Y l E lvM 9 (rWi x) 154 [(0, .ref (E.1 30 0)), (1, .int c1_25), (2, .int c2_26), (4, .int c4_27), (5, .int c5_28), (6, .int c6_29), (7, .int a7_30)] [] μ_31 := by
  intro n
  induction n with
  | zero =>
    intro a7_30 μ_31 x h
    simp [f_X8_inner_L154] at h
  | succ n ih =>
    intro a7_30 μ_31 x h
    rw [f_X8_inner_L154] at h
    refine V_iload C dX8_inner_154 6 rfl ?_
    refine V_iload C dX8_inner_156 4 rfl ?_
    refine V_icmp_ge C (tgt := 267) dX8_inner_158 (by decide) (fun hc => ?_) (fun hc => ?_)
    · replace h := (if_pos hc).symm.trans h
      refine V_sub (LP := [(0, .ref (E.1 30 0))]) [0] rfl ?_
      exact hκ _ _ h
    · replace h := (if_neg hc).symm.trans h
      refine V_aload_n C 0 dX8_inner_161 rfl 0 rfl ?_
      refine V_getf (v := .int (μ_31 30 0 16)) C 30 0 m_30 fl_RX8_92 rfl rfl dX8_inner_162 ?_
      refine V_if_ne C (tgt := 267) dX8_inner_165 (by decide) (fun hc => ?_) (fun hc => ?_)
      · replace h := (if_neg hc).symm.trans h
        refine V_sub (LP := [(0, .ref (E.1 30 0))]) [0] rfl ?_
        exact hκ _ _ h
      · replace h := (if_pos hc).symm.trans h
        refine V_iconst C (0 : Int32) dX8_inner_168 (by decide) ?_
        refine V_istore (L' := [(0, .ref (E.1 30 0)), (1, .int c1_25), (2, .int c2_26), (4, .int c4_27), (5, .int c5_28), (6, .int c6_29), (7, .int a7_30), (8, .int (0 : Int32))]) C dX8_inner_169 (by decide) [1, 2, 3, 4, 5, 6, 7, 0] rfl ?_
        refine V_sub (LP := [(0, .ref (E.1 30 0)), (1, .int c1_25), (2, .int c2_26), (4, .int c4_27), (5, .int c5_28), (6, .int c6_29), (7, .int a7_30), (8, .int (0 : Int32))]) [0, 1, 2, 3, 4, 5, 6, 7] rfl ?_
        refine lp_X8_inner_171 hl C c1_25 c2_26 c4_27 c5_28 c6_29 a7_30 (fun μ_47 x h => ?_) 1000 _ _ h
        refine V_aload_n C 0 dX8_inner_239 rfl 0 rfl ?_
        refine V_getf (v := .int (μ_47 30 0 16)) C 30 0 m_30 fl_RX8_92 rfl rfl dX8_inner_240 ?_
        obtain ⟨j_49, hj_49, h⟩ := jn_ex h
        have J_49 : ∀ (μ_48 : Mem) x, j_49 μ_48 = some x → V Y l E lvM 9 (rWi x) 261 [(0, .ref (E.1 30 0)), (1, .int c1_25), (2, .int c2_26), (4, .int c4_27), (5, .int c5_28), (6, .int c6_29), (7, .int a7_30)] [] μ_48 := by
          intro μ_48  x h
          rw [hj_49] at h; clear hj_49
          obtain ⟨x_50, hn9⟩ : ∃ z : Int32, z = a7_30 + (1 : Int32) := ⟨_, rfl⟩
          replace h := lt_eq hn9 h
          refine V_iinc (L' := [(0, .ref (E.1 30 0)), (1, .int c1_25), (2, .int c2_26), (4, .int c4_27), (5, .int c5_28), (6, .int c6_29), (7, .int x_50)]) C x_50 dX8_inner_261 6 rfl (by rw [hn9]; exact congrArg (a7_30 + ·) (by decide)) (by decide) [1, 2, 3, 4, 5, 6, 0] rfl ?_
          clear hn9
          refine V_goto C (tgt := 154) dX8_inner_264 (by decide) ?_
          refine V_sub (LP := [(0, .ref (E.1 30 0)), (1, .int c1_25), (2, .int c2_26), (4, .int c4_27), (5, .int c5_28), (6, .int c6_29), (7, .int x_50)]) [0, 1, 2, 3, 4, 5, 6] rfl ?_
          exact ih _ _ h
        clear hj_49
        refine V_if_ne C (tgt := 261) dX8_inner_243 (by decide) (fun hc => ?_) (fun hc => ?_)
        · replace h := (if_neg hc).symm.trans h
          refine V_sub (LP := [(0, .ref (E.1 30 0)), (1, .int c1_25), (2, .int c2_26), (4, .int c4_27), (5, .int c5_28), (6, .int c6_29), (7, .int a7_30)]) [0, 1, 2, 3, 4, 5, 6] rfl ?_
          exact J_49 _ _ h
        · replace h := (if_pos hc).symm.trans h
          refine V_aload_n C 0 dX8_inner_246 rfl 0 rfl ?_
          refine V_bipush C (8 : Int32) dX8_inner_247 (by decide) ?_
          refine V_iload C dX8_inner_249 6 rfl ?_
          refine V_aload_n C 0 dX8_inner_251 rfl 0 rfl ?_
          refine V_iload_n C 1 dX8_inner_252 rfl 1 rfl ?_
          refine V_iload C dX8_inner_253 3 rfl ?_
          obtain ⟨v_51, μ_52, hv, h⟩ := bW_inv h
          refine V_callVo C 30 0 m_30 (some (.int v_51)) (con_X8_folded hl c1_25 c4_27 hv) tb_X8_folded lk_RX8_145 rfl rfl rfl (by decide) (by decide) rfl (Nat.le_of_ble_eq_true rfl) rfl dX8_inner_255 rfl ?_
          clear hv
          obtain ⟨u_53, μ_54, hv, h⟩ := bW_inv h
          refine V_callVo C 30 0 m_30 none (con_X8_set hl (8 : Int32) a7_30 v_51 hv) tb_X8_set lk_RX8_122 rfl rfl rfl (by decide) (by decide) rfl (Nat.le_of_ble_eq_true rfl) rfl dX8_inner_258 rfl ?_
          clear hv
          refine V_sub (LP := [(0, .ref (E.1 30 0)), (1, .int c1_25), (2, .int c2_26), (4, .int c4_27), (5, .int c5_28), (6, .int c6_29), (7, .int a7_30)]) [0, 1, 2, 3, 4, 5, 6] rfl ?_
          exact J_49 _ _ h
set_option maxHeartbeats 4000000 in
set_option maxRecDepth 100000 in
theorem con_X8_inner {l : Launch} {E : WE} (hl : l.stackTraces = false) (a1 : Int32) (a2 : Int32)  {μ : Mem} {x} (h : f_X8_inner a1 a2 μ = some x) : Con l E lvM yX8_inner cX8_inner 9 (some .boolean) 3 [.ref (E.1 30 0), .int a1, .int a2] μ (rWi x) := by
  refine Con.of (by decide) hl (Nat.le_of_ble_eq_true rfl) (fun Y C => ?_)
  replace C : Ok Y l E lvM 9 RX8 cX8_inner (some .boolean) 3 := C
  show V Y l E lvM 9 (rWi x) 0 [(0, .ref (E.1 30 0)), (1, .int a1), (2, .int a2)] [] μ
  unfold f_X8_inner at h
  refine V_aload_n C 0 dX8_inner_0 rfl 0 rfl ?_
  refine V_getf (v := .ref (E.1 32 0)) C 30 0 m_30 fl_RX8_13 rfl rfl dX8_inner_1 ?_
  refine V_bipush C (18 : Int32) dX8_inner_4 (by decide) ?_
  obtain ⟨hi9, h⟩ := gd_inv h
  refine V_iald C 32 0 m_32 (fun _ => rfl) (inb_in hi9) dX8_inner_6 ?_
  refine V_aload_n C 0 dX8_inner_7 rfl 0 rfl ?_
  refine V_getf (v := .ref (E.1 32 0)) C 30 0 m_30 fl_RX8_13 rfl rfl dX8_inner_8 ?_
  refine V_bipush C (19 : Int32) dX8_inner_11 (by decide) ?_
  obtain ⟨hi9, h⟩ := gd_inv h
  refine V_iald C 32 0 m_32 (fun _ => rfl) (inb_in hi9) dX8_inner_13 ?_
  refine V_iadd C dX8_inner_14 ?_
  refine V_topi (fun x_1 hn9 => ?_)
  replace h := lt_eq hn9 h; clear hn9
  refine V_istore_n (L' := [(0, .ref (E.1 30 0)), (1, .int a1), (2, .int a2), (3, .int x_1)]) C 3 dX8_inner_15 rfl (by decide) [1, 2, 3, 0] rfl ?_
  refine V_aload_n C 0 dX8_inner_16 rfl 0 rfl ?_
  refine V_getf (v := .ref (E.1 32 0)) C 30 0 m_30 fl_RX8_13 rfl rfl dX8_inner_17 ?_
  refine V_bipush C (18 : Int32) dX8_inner_20 (by decide) ?_
  obtain ⟨hi9, h⟩ := gd_inv h
  refine V_iald C 32 0 m_32 (fun _ => rfl) (inb_in hi9) dX8_inner_22 ?_
  obtain ⟨j_2, hj_2, h⟩ := jn_ex h
  have J_2 : ∀ (_ : Unit) x, j_2 () = some x → V Y l E lvM 9 (rWi x) 41 [(0, .ref (E.1 30 0))] [] μ := by
    intro _  x h
    rw [hj_2] at h; clear hj_2
    refine V_aload_n C 0 dX8_inner_41 rfl 0 rfl ?_
    refine V_iconst C (4 : Int32) dX8_inner_42 (by decide) ?_
    obtain ⟨v_3, μ_4, hv, h⟩ := bW_inv h
    refine V_callVo C 30 0 m_30 (some (.int v_3)) (con_X8_stop hl (4 : Int32) hv) tb_X8_stop lk_RX8_95 rfl rfl rfl (by decide) (by decide) rfl (Nat.le_of_ble_eq_true rfl) rfl dX8_inner_43 rfl ?_
    clear hv
    obtain ⟨hr9, h⟩ := gd_inv h
    cases h
    exact V_ireturn C rfl (isb_nar hr9) rfl dX8_inner_46
  clear hj_2
  refine V_if_eq C (tgt := 41) dX8_inner_23 (by decide) (fun hc => ?_) (fun hc => ?_)
  · replace h := (if_pos hc).symm.trans h
    refine V_sub (LP := [(0, .ref (E.1 30 0))]) [0] rfl ?_
    exact J_2 () _ h
  · replace h := (if_neg hc).symm.trans h
    refine V_aload_n C 0 dX8_inner_26 rfl 0 rfl ?_
    refine V_getf (v := .ref (E.1 32 0)) C 30 0 m_30 fl_RX8_13 rfl rfl dX8_inner_27 ?_
    refine V_bipush C (19 : Int32) dX8_inner_30 (by decide) ?_
    obtain ⟨hi9, h⟩ := gd_inv h
    refine V_iald C 32 0 m_32 (fun _ => rfl) (inb_in hi9) dX8_inner_32 ?_
    refine V_if_eq C (tgt := 41) dX8_inner_33 (by decide) (fun hc => ?_) (fun hc => ?_)
    · replace h := (if_pos hc).symm.trans h
      refine V_sub (LP := [(0, .ref (E.1 30 0))]) [0] rfl ?_
      exact J_2 () _ h
    · replace h := (if_neg hc).symm.trans h
      refine V_iload_n C 3 dX8_inner_36 rfl 3 rfl ?_
      refine V_iconst C (5 : Int32) dX8_inner_37 (by decide) ?_
      refine V_icmp_le C (tgt := 47) dX8_inner_38 (by decide) (fun hc => ?_) (fun hc => ?_)
      · replace h := (if_pos hc).symm.trans h
        refine V_aload_n C 0 dX8_inner_47 rfl 0 rfl ?_
        refine V_bipush C (18 : Int32) dX8_inner_48 (by decide) ?_
        obtain ⟨v_5, hv, h⟩ := bP_inv h
        refine V_callVo C 30 0 m_30 (some (.int v_5)) (con_X8_last hl (18 : Int32) hv) tb_X8_last lk_RX8_142 rfl rfl rfl (by decide) (by decide) rfl (Nat.le_of_ble_eq_true rfl) rfl dX8_inner_50 rfl ?_
        clear hv
        refine V_istore (L' := [(0, .ref (E.1 30 0)), (1, .int a1), (2, .int a2), (3, .int x_1), (4, .int v_5)]) C dX8_inner_53 (by decide) [1, 2, 3, 4, 0] rfl ?_
        refine V_iload C dX8_inner_55 4 rfl ?_
        refine V_aload_n C 0 dX8_inner_57 rfl 0 rfl ?_
        refine V_bipush C (19 : Int32) dX8_inner_58 (by decide) ?_
        refine V_iconst C (0 : Int32) dX8_inner_60 (by decide) ?_
        obtain ⟨v_6, hv, h⟩ := bP_inv h
        refine V_callVo C 30 0 m_30 (some (.int v_6)) (con_X8_axisOf hl (19 : Int32) (0 : Int32) hv) tb_X8_axisOf lk_RX8_88 rfl rfl rfl (by decide) (by decide) rfl (Nat.le_of_ble_eq_true rfl) rfl dX8_inner_61 rfl ?_
        clear hv
        refine V_icmp_eq C (tgt := 73) dX8_inner_64 (by decide) (fun hc => ?_) (fun hc => ?_)
        · replace h := (if_pos hc).symm.trans h
          refine V_aload_n C 0 dX8_inner_73 rfl 0 rfl ?_
          refine V_iload_n C 3 dX8_inner_74 rfl 3 rfl ?_
          refine V_iconst C (2 : Int32) dX8_inner_75 (by decide) ?_
          refine V_isub C dX8_inner_76 ?_
          refine V_aload_n C 0 dX8_inner_77 rfl 0 rfl ?_
          refine V_iconst C (0 : Int32) dX8_inner_78 (by decide) ?_
          refine V_iconst C (1 : Int32) dX8_inner_79 (by decide) ?_
          refine V_iconst C (1 : Int32) dX8_inner_80 (by decide) ?_
          obtain ⟨v_7, hv, h⟩ := bP_inv h
          refine V_callVo C 30 0 m_30 (some (.int v_7)) (con_X8_joined hl (0 : Int32) (1 : Int32) (1 : Int32) hv) tb_X8_joined lk_RX8_166 rfl rfl rfl (by decide) (by decide) rfl (Nat.le_of_ble_eq_true rfl) rfl dX8_inner_81 rfl ?_
          clear hv
          refine V_aload_n C 0 dX8_inner_84 rfl 0 rfl ?_
          refine V_iconst C (1 : Int32) dX8_inner_85 (by decide) ?_
          refine V_iconst C (1 : Int32) dX8_inner_86 (by decide) ?_
          refine V_iconst C (1 : Int32) dX8_inner_87 (by decide) ?_
          obtain ⟨v_8, hv, h⟩ := bP_inv h
          refine V_callVo C 30 0 m_30 (some (.int v_8)) (con_X8_joined hl (1 : Int32) (1 : Int32) (1 : Int32) hv) tb_X8_joined lk_RX8_166 rfl rfl rfl (by decide) (by decide) rfl (Nat.le_of_ble_eq_true rfl) rfl dX8_inner_88 rfl ?_
          clear hv
          refine V_aload_n C 0 dX8_inner_91 rfl 0 rfl ?_
          refine V_iconst C (2 : Int32) dX8_inner_92 (by decide) ?_
          refine V_iconst C (1 : Int32) dX8_inner_93 (by decide) ?_
          refine V_iconst C (1 : Int32) dX8_inner_94 (by decide) ?_
          obtain ⟨v_9, hv, h⟩ := bP_inv h
          refine V_callVo C 30 0 m_30 (some (.int v_9)) (con_X8_joined hl (2 : Int32) (1 : Int32) (1 : Int32) hv) tb_X8_joined lk_RX8_166 rfl rfl rfl (by decide) (by decide) rfl (Nat.le_of_ble_eq_true rfl) rfl dX8_inner_95 rfl ?_
          clear hv
          obtain ⟨v_10, μ_11, hv, h⟩ := bW_inv h
          refine V_callVo C 30 0 m_30 (some (.int v_10)) (con_X8_shape hl (x_1 - (2 : Int32)) v_7 v_8 v_9 hv) tb_X8_shape lk_RX8_128 rfl rfl rfl (by decide) (by decide) rfl (Nat.le_of_ble_eq_true rfl) rfl dX8_inner_98 rfl ?_
          clear hv
          refine V_if_ne C (tgt := 106) dX8_inner_101 (by decide) (fun hc => ?_) (fun hc => ?_)
          · replace h := (if_neg hc).symm.trans h
            refine V_aload_n C 0 dX8_inner_106 rfl 0 rfl ?_
            refine V_bipush C (8 : Int32) dX8_inner_107 (by decide) ?_
            obtain ⟨v_12, hv, h⟩ := bP_inv h
            refine V_callVo C 30 0 m_30 (some (.int v_12)) (con_X8_sizeOf hl (8 : Int32) hv) tb_X8_sizeOf lk_RX8_98 rfl rfl rfl (by decide) (by decide) rfl (Nat.le_of_ble_eq_true rfl) rfl dX8_inner_109 rfl ?_
            clear hv
            refine V_istore (L' := [(0, .ref (E.1 30 0)), (1, .int a1), (2, .int a2), (3, .int x_1), (4, .int v_5), (5, .int v_12)]) C dX8_inner_112 (by decide) [1, 2, 3, 4, 5, 0] rfl ?_
            refine V_iconst C (1 : Int32) dX8_inner_114 (by decide) ?_
            refine V_istore (L' := [(0, .ref (E.1 30 0)), (1, .int a1), (2, .int a2), (3, .int x_1), (4, .int v_5), (5, .int v_12), (6, .int (1 : Int32))]) C dX8_inner_115 (by decide) [1, 2, 3, 4, 5, 6, 0] rfl ?_
            refine V_iconst C (1 : Int32) dX8_inner_117 (by decide) ?_
            refine V_istore (L' := [(0, .ref (E.1 30 0)), (1, .int a1), (2, .int a2), (3, .int x_1), (4, .int v_5), (5, .int v_12), (6, .int (1 : Int32)), (7, .int (1 : Int32))]) C dX8_inner_118 (by decide) [1, 2, 3, 4, 5, 6, 7, 0] rfl ?_
            refine V_sub (LP := [(0, .ref (E.1 30 0)), (1, .int a1), (2, .int a2), (4, .int v_5), (5, .int v_12), (6, .int (1 : Int32)), (7, .int (1 : Int32))]) [0, 1, 2, 4, 5, 6, 7] rfl ?_
            refine lp_X8_inner_120 hl C a1 a2 v_5 v_12 μ_11 (fun a6_24 x h => ?_) 1000 _ _ h
            refine V_iconst C (0 : Int32) dX8_inner_151 (by decide) ?_
            refine V_istore (L' := [(0, .ref (E.1 30 0)), (1, .int a1), (2, .int a2), (4, .int v_5), (5, .int v_12), (6, .int a6_24), (7, .int (0 : Int32))]) C dX8_inner_152 (by decide) [1, 2, 3, 4, 5, 6, 0] rfl ?_
            refine V_sub (LP := [(0, .ref (E.1 30 0)), (1, .int a1), (2, .int a2), (4, .int v_5), (5, .int v_12), (6, .int a6_24), (7, .int (0 : Int32))]) [0, 1, 2, 3, 4, 5, 6] rfl ?_
            refine lp_X8_inner_154 hl C a1 a2 v_5 v_12 a6_24 (fun μ_56 x h => ?_) 1000 _ _ h
            refine V_aload_n C 0 dX8_inner_267 rfl 0 rfl ?_
            refine V_getf (v := .int (μ_56 30 0 16)) C 30 0 m_30 fl_RX8_92 rfl rfl dX8_inner_268 ?_
            refine V_if_ne C (tgt := 278) dX8_inner_271 (by decide) (fun hc => ?_) (fun hc => ?_)
            · replace h := (if_neg hc).symm.trans h
              refine V_iconst C (0 : Int32) dX8_inner_278 (by decide) ?_
              cases h
              exact V_ireturn C rfl rfl rfl dX8_inner_279
            · replace h := (if_pos hc).symm.trans h
              refine V_iconst C (1 : Int32) dX8_inner_274 (by decide) ?_
              refine V_goto C (tgt := 279) dX8_inner_275 (by decide) ?_
              cases h
              exact V_ireturn C rfl rfl rfl dX8_inner_279
          · replace h := (if_pos hc).symm.trans h
            refine V_iconst C (0 : Int32) dX8_inner_104 (by decide) ?_
            cases h
            exact V_ireturn C rfl rfl rfl dX8_inner_105
        · replace h := (if_neg hc).symm.trans h
          refine V_aload_n C 0 dX8_inner_67 rfl 0 rfl ?_
          refine V_iconst C (3 : Int32) dX8_inner_68 (by decide) ?_
          obtain ⟨v_57, μ_58, hv, h⟩ := bW_inv h
          refine V_callVo C 30 0 m_30 (some (.int v_57)) (con_X8_stop hl (3 : Int32) hv) tb_X8_stop lk_RX8_95 rfl rfl rfl (by decide) (by decide) rfl (Nat.le_of_ble_eq_true rfl) rfl dX8_inner_69 rfl ?_
          clear hv
          obtain ⟨hr9, h⟩ := gd_inv h
          cases h
          exact V_ireturn C rfl (isb_nar hr9) rfl dX8_inner_72
      · replace h := (if_neg hc).symm.trans h
        refine V_sub (LP := [(0, .ref (E.1 30 0))]) [0] rfl ?_
        exact J_2 () _ h
