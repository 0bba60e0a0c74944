/-! ===== the reference's constructor ===== -/
def mL (E : WE) (b : Nat) (f : Nat → Int32) : List va_E := [.inr (8, [.ref (b + 1), .int 0, .ref (b + 2), .ref (b + 3), .ref (b + 4), .ref (b + 5), .ref (b + 6), .ref (b + 7), .ref (b + 8), .int 0, .int 0, .int 0, .ref (b + 9), .ref (b + 10), .ref (b + 11), .ref (b + 12), .int 0, .int 0, .int 0]), zI E 200, .inl (E.2.2.1 0, 20, .inl f), zI E 60, zI E 960, zI E 201, zI E 201, zI E 201, zI E 101, zZ E 8, zZ E 8, zI E 8, zI E 49]
def rf (k : Nat) : Nat → Int32 := fun j => if 9 ≤ j ∧ j < 9 + k then -1 else 0
theorem rf_up (k : Nat) : upd (rf k) (9 + k) (-1) = rf (k + 1) := by
  funext j
  unfold upd rf
  by_cases h : j = 9 + k
  · subst h; simp
  · by_cases h2 : 9 ≤ j ∧ j < 9 + k
    · simp [h, h2]; omega
    · simp [h, h2]; omega
set_option maxHeartbeats 4000000 in
set_option maxRecDepth 100000 in
theorem lp_Model {Y : Mc} {l : Launch} {E : WE} {b : Nat} (C : NOk Y l E b 2 12 2017 RX8 cX8_init 1) : ∀ (z k : Nat), k + z = 8 → N Y l E b 2 12 2017 (QN E b (mL E b (upd (rf 8) 17 1))) 107 [(0, .ref (b + 0)), (1, .int (nI k))] [] (mL E b (rf k)) 12 2017 := by
  intro z
  induction z with
  | zero =>
    intro k hk
    obtain rfl : k = 8 := by omega
    refine N_iload_n C 1 dX8_init_107 rfl 1 rfl ?_
    refine N_bipush C 8 dX8_init_108 (by decide) ?_
    refine N_icmp_ge C (tgt := 129) dX8_init_110 (by decide) (fun hc => ?_) (fun hc => absurd (by decide) hc)
    refine N_aload_n C 0 dX8_init_129 rfl 0 rfl ?_
    refine N_getf (ci := 8) (v := .ref (b + 2)) C 0 2 rfl inX8 rfl (by decide) (List.mem_of_getElem? (i := 836) (by decide +kernel)) rfl dX8_init_130 ?_
    refine N_bipush C 17 dX8_init_133 (by decide) ?_
    refine N_iconst C 1 dX8_init_135 (by decide) ?_
    refine N_iast C (j := 2) (f := rf 8) (Nn := 20) rfl (vp_in_nI (n := 17) (by omega) (by omega)) dX8_init_136 ?_
    exact N_return C rfl (by omega) (by omega) dX8_init_137
  | succ z ih =>
    intro k hk
    refine N_iload_n C 1 dX8_init_107 rfl 1 rfl ?_
    refine N_bipush C 8 dX8_init_108 (by decide) ?_
    refine N_icmp_ge C (tgt := 129) dX8_init_110 (by decide) (fun hc => ?_) (fun hc => ?_)
    · exact absurd hc (nI_ge (a := k) (b := 8) (by omega) (by decide))
    · have e9 : (9 : Int32) + nI k = nI (9 + k) := nI_add 9 k
      refine N_aload_n C 0 dX8_init_113 rfl 0 rfl ?_
      refine N_getf (ci := 8) (v := .ref (b + 2)) C 0 2 rfl inX8 rfl (by decide) (List.mem_of_getElem? (i := 836) (by decide +kernel)) rfl dX8_init_114 ?_
      refine N_bipush C 9 dX8_init_117 (by decide) ?_
      refine N_iload_n C 1 dX8_init_119 rfl 1 rfl ?_
      refine N_iadd C dX8_init_120 ?_
      refine N_iconst C (-1) dX8_init_121 (by decide) ?_
      rw [e9]
      refine N_iast C (j := 2) (f := rf k) (Nn := 20) rfl (vp_in_nI (n := 9 + k) (by omega) (by omega)) dX8_init_122 ?_
      rw [nI_clamp (show 9 + k < 2 ^ 31 by omega), rf_up]
      refine N_iinc (L' := [(0, .ref (b + 0)), (1, .int (nI (k + 1)))]) C (nI (k + 1)) dX8_init_123 1 rfl (nI_1 k) (by decide) [1, 0] rfl ?_
      refine N_goto C (tgt := 107) dX8_init_126 (by decide) ?_
      exact ih (k + 1) (by omega)
set_option maxHeartbeats 4000000 in
set_option maxRecDepth 100000 in
theorem con_Model_init {l : Launch} {E : WE} {b : Nat} : ConN l E b yX8_init cX8_init 2 1 0 12 2017 [bModel] (mL E b (upd (rf 8) 17 1)) := by
  refine ConN.of (by decide) rfl (by decide) (fun Y C => ?_)
  refine N_aload_n C 0 dX8_init_0 rfl 0 rfl ?_
  refine N_object C (List.mem_of_getElem? (i := 833) (by decide +kernel)) (Nat.le_of_ble_eq_true rfl) dX8_init_1 ?_
  refine N_aload_n C 0 dX8_init_4 rfl 0 rfl ?_
  refine N_sipush C 200 dX8_init_5 (by decide) ?_
  refine N_newa_int C 200 (by decide) (by decide) (by decide) (by omega) (by omega) dX8_init_8 ?_
  refine N_putF C 0 0 tyX8 (.array .int) rfl inX8 tyX8_ok nmX8 rfl (by decide) (List.mem_of_getElem? (i := 834) (by decide +kernel)) rfl rfl (by decide +kernel) rfl rfl (Nat.le_of_ble_eq_true rfl) dX8_init_10 ?_
  show N Y l E b 2 12 2017 _ 13 [(0, .ref (b + 0))] [] [.inr (8, [.ref (b + 1), .int 0, .null, .null, .null, .null, .null, .null, .null, .int 0, .int 0, .int 0, .null, .null, .null, .null, .int 0, .int 0, .int 0]), zI E 200] 1 200
  refine N_aload_n C 0 dX8_init_13 rfl 0 rfl ?_
  refine N_bipush C 20 dX8_init_14 (by decide) ?_
  refine N_newa_int C 20 (by decide) (by decide) (by decide) (by omega) (by omega) dX8_init_16 ?_
  refine N_putF C 0 2 tyX8 (.array .int) rfl inX8 tyX8_ok nmX8 rfl (by decide) (List.mem_of_getElem? (i := 836) (by decide +kernel)) rfl rfl (by decide +kernel) rfl rfl (Nat.le_of_ble_eq_true rfl) dX8_init_18 ?_
  show N Y l E b 2 12 2017 _ 21 [(0, .ref (b + 0))] [] [.inr (8, [.ref (b + 1), .int 0, .ref (b + 2), .null, .null, .null, .null, .null, .null, .int 0, .int 0, .int 0, .null, .null, .null, .null, .int 0, .int 0, .int 0]), zI E 200, zI E 20] 2 220
  refine N_aload_n C 0 dX8_init_21 rfl 0 rfl ?_
  refine N_bipush C 60 dX8_init_22 (by decide) ?_
  refine N_newa_int C 60 (by decide) (by decide) (by decide) (by omega) (by omega) dX8_init_24 ?_
  refine N_putF C 0 3 tyX8 (.array .int) rfl inX8 tyX8_ok nmX8 rfl (by decide) (List.mem_of_getElem? (i := 837) (by decide +kernel)) rfl rfl (by decide +kernel) rfl rfl (Nat.le_of_ble_eq_true rfl) dX8_init_26 ?_
  show N Y l E b 2 12 2017 _ 29 [(0, .ref (b + 0))] [] [.inr (8, [.ref (b + 1), .int 0, .ref (b + 2), .ref (b + 3), .null, .null, .null, .null, .null, .int 0, .int 0, .int 0, .null, .null, .null, .null, .int 0, .int 0, .int 0]), zI E 200, zI E 20, zI E 60] 3 280
  refine N_aload_n C 0 dX8_init_29 rfl 0 rfl ?_
  refine N_sipush C 960 dX8_init_30 (by decide) ?_
  refine N_newa_int C 960 (by decide) (by decide) (by decide) (by omega) (by omega) dX8_init_33 ?_
  refine N_putF C 0 4 tyX8 (.array .int) rfl inX8 tyX8_ok nmX8 rfl (by decide) (List.mem_of_getElem? (i := 838) (by decide +kernel)) rfl rfl (by decide +kernel) rfl rfl (Nat.le_of_ble_eq_true rfl) dX8_init_35 ?_
  show N Y l E b 2 12 2017 _ 38 [(0, .ref (b + 0))] [] [.inr (8, [.ref (b + 1), .int 0, .ref (b + 2), .ref (b + 3), .ref (b + 4), .null, .null, .null, .null, .int 0, .int 0, .int 0, .null, .null, .null, .null, .int 0, .int 0, .int 0]), zI E 200, zI E 20, zI E 60, zI E 960] 4 1240
  refine N_aload_n C 0 dX8_init_38 rfl 0 rfl ?_
  refine N_sipush C 201 dX8_init_39 (by decide) ?_
  refine N_newa_int C 201 (by decide) (by decide) (by decide) (by omega) (by omega) dX8_init_42 ?_
  refine N_putF C 0 5 tyX8 (.array .int) rfl inX8 tyX8_ok nmX8 rfl (by decide) (List.mem_of_getElem? (i := 839) (by decide +kernel)) rfl rfl (by decide +kernel) rfl rfl (Nat.le_of_ble_eq_true rfl) dX8_init_44 ?_
  show N Y l E b 2 12 2017 _ 47 [(0, .ref (b + 0))] [] [.inr (8, [.ref (b + 1), .int 0, .ref (b + 2), .ref (b + 3), .ref (b + 4), .ref (b + 5), .null, .null, .null, .int 0, .int 0, .int 0, .null, .null, .null, .null, .int 0, .int 0, .int 0]), zI E 200, zI E 20, zI E 60, zI E 960, zI E 201] 5 1441
  refine N_aload_n C 0 dX8_init_47 rfl 0 rfl ?_
  refine N_sipush C 201 dX8_init_48 (by decide) ?_
  refine N_newa_int C 201 (by decide) (by decide) (by decide) (by omega) (by omega) dX8_init_51 ?_
  refine N_putF C 0 6 tyX8 (.array .int) rfl inX8 tyX8_ok nmX8 rfl (by decide) (List.mem_of_getElem? (i := 840) (by decide +kernel)) rfl rfl (by decide +kernel) rfl rfl (Nat.le_of_ble_eq_true rfl) dX8_init_53 ?_
  show N Y l E b 2 12 2017 _ 56 [(0, .ref (b + 0))] [] [.inr (8, [.ref (b + 1), .int 0, .ref (b + 2), .ref (b + 3), .ref (b + 4), .ref (b + 5), .ref (b + 6), .null, .null, .int 0, .int 0, .int 0, .null, .null, .null, .null, .int 0, .int 0, .int 0]), zI E 200, zI E 20, zI E 60, zI E 960, zI E 201, zI E 201] 6 1642
  refine N_aload_n C 0 dX8_init_56 rfl 0 rfl ?_
  refine N_sipush C 201 dX8_init_57 (by decide) ?_
  refine N_newa_int C 201 (by decide) (by decide) (by decide) (by omega) (by omega) dX8_init_60 ?_
  refine N_putF C 0 7 tyX8 (.array .int) rfl inX8 tyX8_ok nmX8 rfl (by decide) (List.mem_of_getElem? (i := 841) (by decide +kernel)) rfl rfl (by decide +kernel) rfl rfl (Nat.le_of_ble_eq_true rfl) dX8_init_62 ?_
  show N Y l E b 2 12 2017 _ 65 [(0, .ref (b + 0))] [] [.inr (8, [.ref (b + 1), .int 0, .ref (b + 2), .ref (b + 3), .ref (b + 4), .ref (b + 5), .ref (b + 6), .ref (b + 7), .null, .int 0, .int 0, .int 0, .null, .null, .null, .null, .int 0, .int 0, .int 0]), zI E 200, zI E 20, zI E 60, zI E 960, zI E 201, zI E 201, zI E 201] 7 1843
  refine N_aload_n C 0 dX8_init_65 rfl 0 rfl ?_
  refine N_bipush C 101 dX8_init_66 (by decide) ?_
  refine N_newa_int C 101 (by decide) (by decide) (by decide) (by omega) (by omega) dX8_init_68 ?_
  refine N_putF C 0 8 tyX8 (.array .int) rfl inX8 tyX8_ok nmX8 rfl (by decide) (List.mem_of_getElem? (i := 842) (by decide +kernel)) rfl rfl (by decide +kernel) rfl rfl (Nat.le_of_ble_eq_true rfl) dX8_init_70 ?_
  show N Y l E b 2 12 2017 _ 73 [(0, .ref (b + 0))] [] [.inr (8, [.ref (b + 1), .int 0, .ref (b + 2), .ref (b + 3), .ref (b + 4), .ref (b + 5), .ref (b + 6), .ref (b + 7), .ref (b + 8), .int 0, .int 0, .int 0, .null, .null, .null, .null, .int 0, .int 0, .int 0]), zI E 200, zI E 20, zI E 60, zI E 960, zI E 201, zI E 201, zI E 201, zI E 101] 8 1944
  refine N_aload_n C 0 dX8_init_73 rfl 0 rfl ?_
  refine N_bipush C 8 dX8_init_74 (by decide) ?_
  refine N_newa_boolean C 8 (by decide) (by decide) (by decide) (by omega) (by omega) dX8_init_76 ?_
  refine N_putF C 0 12 tyX8 (.array .boolean) rfl inX8 tyX8_ok nmX8 rfl (by decide) (List.mem_of_getElem? (i := 846) (by decide +kernel)) rfl rfl (by decide +kernel) rfl rfl (Nat.le_of_ble_eq_true rfl) dX8_init_78 ?_
  show N Y l E b 2 12 2017 _ 81 [(0, .ref (b + 0))] [] [.inr (8, [.ref (b + 1), .int 0, .ref (b + 2), .ref (b + 3), .ref (b + 4), .ref (b + 5), .ref (b + 6), .ref (b + 7), .ref (b + 8), .int 0, .int 0, .int 0, .ref (b + 9), .null, .null, .null, .int 0, .int 0, .int 0]), zI E 200, zI E 20, zI E 60, zI E 960, zI E 201, zI E 201, zI E 201, zI E 101, zZ E 8] 9 1952
  refine N_aload_n C 0 dX8_init_81 rfl 0 rfl ?_
  refine N_bipush C 8 dX8_init_82 (by decide) ?_
  refine N_newa_boolean C 8 (by decide) (by decide) (by decide) (by omega) (by omega) dX8_init_84 ?_
  refine N_putF C 0 13 tyX8 (.array .boolean) rfl inX8 tyX8_ok nmX8 rfl (by decide) (List.mem_of_getElem? (i := 847) (by decide +kernel)) rfl rfl (by decide +kernel) rfl rfl (Nat.le_of_ble_eq_true rfl) dX8_init_86 ?_
  show N Y l E b 2 12 2017 _ 89 [(0, .ref (b + 0))] [] [.inr (8, [.ref (b + 1), .int 0, .ref (b + 2), .ref (b + 3), .ref (b + 4), .ref (b + 5), .ref (b + 6), .ref (b + 7), .ref (b + 8), .int 0, .int 0, .int 0, .ref (b + 9), .ref (b + 10), .null, .null, .int 0, .int 0, .int 0]), zI E 200, zI E 20, zI E 60, zI E 960, zI E 201, zI E 201, zI E 201, zI E 101, zZ E 8, zZ E 8] 10 1960
  refine N_aload_n C 0 dX8_init_89 rfl 0 rfl ?_
  refine N_bipush C 8 dX8_init_90 (by decide) ?_
  refine N_newa_int C 8 (by decide) (by decide) (by decide) (by omega) (by omega) dX8_init_92 ?_
  refine N_putF C 0 14 tyX8 (.array .int) rfl inX8 tyX8_ok nmX8 rfl (by decide) (List.mem_of_getElem? (i := 848) (by decide +kernel)) rfl rfl (by decide +kernel) rfl rfl (Nat.le_of_ble_eq_true rfl) dX8_init_94 ?_
  show N Y l E b 2 12 2017 _ 97 [(0, .ref (b + 0))] [] [.inr (8, [.ref (b + 1), .int 0, .ref (b + 2), .ref (b + 3), .ref (b + 4), .ref (b + 5), .ref (b + 6), .ref (b + 7), .ref (b + 8), .int 0, .int 0, .int 0, .ref (b + 9), .ref (b + 10), .ref (b + 11), .null, .int 0, .int 0, .int 0]), zI E 200, zI E 20, zI E 60, zI E 960, zI E 201, zI E 201, zI E 201, zI E 101, zZ E 8, zZ E 8, zI E 8] 11 1968
  refine N_aload_n C 0 dX8_init_97 rfl 0 rfl ?_
  refine N_bipush C 49 dX8_init_98 (by decide) ?_
  refine N_newa_int C 49 (by decide) (by decide) (by decide) (by omega) (by omega) dX8_init_100 ?_
  refine N_putF C 0 15 tyX8 (.array .int) rfl inX8 tyX8_ok nmX8 rfl (by decide) (List.mem_of_getElem? (i := 849) (by decide +kernel)) rfl rfl (by decide +kernel) rfl rfl (Nat.le_of_ble_eq_true rfl) dX8_init_102 ?_
  show N Y l E b 2 12 2017 _ 105 [(0, .ref (b + 0))] [] [.inr (8, [.ref (b + 1), .int 0, .ref (b + 2), .ref (b + 3), .ref (b + 4), .ref (b + 5), .ref (b + 6), .ref (b + 7), .ref (b + 8), .int 0, .int 0, .int 0, .ref (b + 9), .ref (b + 10), .ref (b + 11), .ref (b + 12), .int 0, .int 0, .int 0]), zI E 200, zI E 20, zI E 60, zI E 960, zI E 201, zI E 201, zI E 201, zI E 101, zZ E 8, zZ E 8, zI E 8, zI E 49] 12 2017
  refine N_iconst C 0 dX8_init_105 (by decide) ?_
  refine N_istore_n (L' := [(0, .ref (b + 0)), (1, .int (nI 0))]) C 1 dX8_init_106 rfl (by decide) [1, 0] rfl ?_
  have h0 : mL E b (rf 0) = [.inr (8, [.ref (b + 1), .int 0, .ref (b + 2), .ref (b + 3), .ref (b + 4), .ref (b + 5), .ref (b + 6), .ref (b + 7), .ref (b + 8), .int 0, .int 0, .int 0, .ref (b + 9), .ref (b + 10), .ref (b + 11), .ref (b + 12), .int 0, .int 0, .int 0]), zI E 200, zI E 20, zI E 60, zI E 960, zI E 201, zI E 201, zI E 201, zI E 101, zZ E 8, zZ E 8, zI E 8, zI E 49] := by
    have : rf 0 = fun _ => 0 := by
      funext j; unfold rf; rw [if_neg (by omega)]
    rw [this]; rfl
  rw [← h0]
  exact lp_Model C 8 0 rfl
