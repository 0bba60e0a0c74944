abbrev zI (E : WE) (n : Nat) : va_E := .inl (E.2.2.1 0, n, .inl fun _ => 0)
abbrev zC (E : WE) (n : Nat) : va_E := .inl (E.2.2.1 1, n, .inl fun _ => 0)
abbrev zZ (E : WE) (n : Nat) : va_E := .inl (E.2.2.1 2, n, .inl fun _ => 0)
abbrev qG (E : WE) : va_E := .inl (E.2.2.1 3, 8, .inr (.inr (.inr (.inr fun _ => none))))
theorem ln_ne {l9 : List va_E} {m9 : Nat} {e9 : va_E} (h : l9[m9]? = some e9) : l9.length ≠ m9 := fun e => by subst e; simp at h
abbrev bGrid : va_E := .inr (3, [.null, .null, .int 0, .int 0])
abbrev bText : va_E := .inr (6, [.null, .int 0])
abbrev bStmt : va_E := .inr (5, [.null, .null, .null, .null, .null, .null, .null, .null, .int 0, .int 0, .int 0, .int 0, .int 0, .int 0])
abbrev bNames : va_E := .inr (4, [.null, .null])
abbrev bBench : va_E := .inr (2, [.null, .null, .null, .null, .int 0, .int 0, .int 0])
abbrev bCalc : va_E := .inr (7, [.null, .null, .null, .null])
abbrev bModel : va_E := .inr (8, [.null, .int 0, .null, .null, .null, .null, .null, .null, .null, .int 0, .int 0, .int 0, .null, .null, .null, .null, .int 0, .int 0, .int 0])
/-- what Grid() makes of the row of cells: the object is cell n -/
def gI (E : WE) (b : Nat) (cw : List va_E) (n : Nat) : List va_E :=
  let c1 := cw ++ [zI E 3]
  let c2 := c1.set n (.inr (3, [.ref (b + cw.length), .null, .int 0, .int 0]))
  let c3 := c2 ++ [zI E 48]
  let c4 := c3.set n (.inr (3, [.ref (b + cw.length), .ref (b + c2.length), .int 0, .int 0]))
  c4.set n (.inr (3, [.ref (b + cw.length), .ref (b + c2.length), .int 1, .int 0]))
theorem gI_len (E : WE) (b : Nat) (cw : List va_E) (n : Nat) : (gI E b cw n).length = cw.length + 2 := by simp [gI]
theorem gI_ne {E : WE} {b : Nat} {cw : List va_E} {n m : Nat} {e : va_E} (h : cw[m]? = some e) (hn : n ≠ m) : (gI E b cw n)[m]? = some e := st_ne (st_ne (ap_at (st_ne (ap_at h) hn)) hn) hn
theorem gI_at {E : WE} {b : Nat} {cw : List va_E} {n : Nat} {e : va_E} (h : cw[n]? = some e) : ∃ vs, (gI E b cw n)[n]? = some (.inr (3, vs)) := ⟨_, st_at (st_at (ap_at (st_at (ap_at h))))⟩
def tI (E : WE) (b : Nat) (cw : List va_E) (n : Nat) : List va_E := (cw ++ [zC E 200]).set n (.inr (6, [.ref (b + cw.length), .int 0]))
theorem tI_ne {E : WE} {b : Nat} {cw : List va_E} {n m : Nat} {e : va_E} (h : cw[m]? = some e) (hn : n ≠ m) : (tI E b cw n)[m]? = some e := st_ne (ap_at h) hn

set_option maxHeartbeats 4000000 in
set_option maxRecDepth 100000 in
theorem con_Grid_init {l : Launch} {E : WE} {b : Nat} (cw : List va_E) (n : Nat) (h : cw[n]? = some bGrid) : ConN l E b yX1_init cX1_init 1 0 n 2 51 cw (gI E b cw n) := by
  refine ConN.of (by decide) rfl (by decide) (fun Y C => ?_)
  refine N_aload_n C 0 dX1_init_0 rfl 0 rfl ?_
  refine N_object C (List.mem_of_getElem? (i := 177) (by decide +kernel)) (Nat.le_of_ble_eq_true rfl) dX1_init_1 ?_
  refine N_aload_n C 0 dX1_init_4 rfl 0 rfl ?_
  refine N_iconst C 3 dX1_init_5 (by decide) ?_
  refine N_newa_int C 3 (by decide) (by decide) (by decide) (by omega) (by omega) dX1_init_6 ?_
  refine N_putF C n 0 tyX1 (.array .int) rfl inX1 tyX1_ok nmX1 (ap_at h) (by decide) (List.mem_of_getElem? (i := 178) (by decide +kernel)) rfl rfl (by decide +kernel) rfl rfl (Nat.le_of_ble_eq_true rfl) dX1_init_8 ?_
  refine N_aload_n C 0 dX1_init_11 rfl 0 rfl ?_
  refine N_bipush C 48 dX1_init_12 (by decide) ?_
  refine N_newa_int C 48 (by decide) (by decide) (by decide) (by omega) (by omega) dX1_init_14 ?_
  refine N_putF C n 1 tyX1 (.array .int) rfl inX1 tyX1_ok nmX1 (ap_at (st_at (ap_at h))) (by decide) (List.mem_of_getElem? (i := 182) (by decide +kernel)) rfl rfl (by decide +kernel) rfl rfl (Nat.le_of_ble_eq_true rfl) dX1_init_16 ?_
  refine N_aload_n C 0 dX1_init_19 rfl 0 rfl ?_
  refine N_iconst C 1 dX1_init_20 (by decide) ?_
  refine N_put C n 2 tyX1 .int rfl inX1 tyX1_ok nmX1 (st_at (ap_at (st_at (ap_at h)))) (by decide) (List.mem_of_getElem? (i := 187) (by decide +kernel)) rfl (by decide +kernel) rfl rfl (Nat.le_of_ble_eq_true rfl) dX1_init_21 ?_
  exact N_return C rfl (by omega) (by omega) dX1_init_24

set_option maxHeartbeats 4000000 in
set_option maxRecDepth 100000 in
theorem con_Text_init {l : Launch} {E : WE} {b : Nat} (cw : List va_E) (n : Nat) (h : cw[n]? = some bText) : ConN l E b yX6_init cX6_init 1 0 n 1 200 cw (tI E b cw n) := by
  refine ConN.of (by decide) rfl (by decide) (fun Y C => ?_)
  refine N_aload_n C 0 dX6_init_0 rfl 0 rfl ?_
  refine N_object C (List.mem_of_getElem? (i := 100) (by decide +kernel)) (Nat.le_of_ble_eq_true rfl) dX6_init_1 ?_
  refine N_aload_n C 0 dX6_init_4 rfl 0 rfl ?_
  refine N_sipush C 200 dX6_init_5 (by decide) ?_
  refine N_newa_char C 200 (by decide) (by decide) (by decide) (by omega) (by omega) dX6_init_8 ?_
  refine N_putF C n 0 tyX6 (.array .char) rfl inX6 tyX6_ok nmX6 (ap_at h) (by decide) (List.mem_of_getElem? (i := 101) (by decide +kernel)) rfl rfl (by decide +kernel) rfl rfl (Nat.le_of_ble_eq_true rfl) dX6_init_10 ?_
  exact N_return C rfl (by omega) (by omega) dX6_init_13

def sI (E : WE) (b : Nat) (cw : List va_E) (n : Nat) : List va_E :=
  let c0 := cw ++ [bText]
  let c1 := tI E b c0 cw.length
  let d0 := c1.set n (.inr (5, [.ref (b + cw.length), .null, .null, .null, .null, .null, .null, .null, .int 0, .int 0, .int 0, .int 0, .int 0, .int 0]))
  let e0 := d0 ++ [zI E 200]
  let d1 := e0.set n (.inr (5, [.ref (b + cw.length), .ref (b + d0.length), .null, .null, .null, .null, .null, .null, .int 0, .int 0, .int 0, .int 0, .int 0, .int 0]))
  let e1 := d1 ++ [zI E 200]
  let d2 := e1.set n (.inr (5, [.ref (b + cw.length), .ref (b + d0.length), .ref (b + d1.length), .null, .null, .null, .null, .null, .int 0, .int 0, .int 0, .int 0, .int 0, .int 0]))
  let e2 := d2 ++ [zI E 200]
  let d3 := e2.set n (.inr (5, [.ref (b + cw.length), .ref (b + d0.length), .ref (b + d1.length), .ref (b + d2.length), .null, .null, .null, .null, .int 0, .int 0, .int 0, .int 0, .int 0, .int 0]))
  let e3 := d3 ++ [zC E 200]
  let d4 := e3.set n (.inr (5, [.ref (b + cw.length), .ref (b + d0.length), .ref (b + d1.length), .ref (b + d2.length), .ref (b + d3.length), .null, .null, .null, .int 0, .int 0, .int 0, .int 0, .int 0, .int 0]))
  let e4 := d4 ++ [zC E 200]
  let d5 := e4.set n (.inr (5, [.ref (b + cw.length), .ref (b + d0.length), .ref (b + d1.length), .ref (b + d2.length), .ref (b + d3.length), .ref (b + d4.length), .null, .null, .int 0, .int 0, .int 0, .int 0, .int 0, .int 0]))
  let e5 := d5 ++ [zC E 200]
  let d6 := e5.set n (.inr (5, [.ref (b + cw.length), .ref (b + d0.length), .ref (b + d1.length), .ref (b + d2.length), .ref (b + d3.length), .ref (b + d4.length), .ref (b + d5.length), .null, .int 0, .int 0, .int 0, .int 0, .int 0, .int 0]))
  let e6 := d6 ++ [zI E 200]
  let d7 := e6.set n (.inr (5, [.ref (b + cw.length), .ref (b + d0.length), .ref (b + d1.length), .ref (b + d2.length), .ref (b + d3.length), .ref (b + d4.length), .ref (b + d5.length), .ref (b + d6.length), .int 0, .int 0, .int 0, .int 0, .int 0, .int 0]))
  d7
set_option maxHeartbeats 4000000 in
set_option maxRecDepth 100000 in
theorem con_Stmt_init {l : Launch} {E : WE} {b : Nat} (cw : List va_E) (n : Nat) (h : cw[n]? = some bStmt) : ConN l E b yX5_init cX5_init 1 1 n 9 1602 cw (sI E b cw n) := by
  refine ConN.of (by decide) rfl (by decide) (fun Y C => ?_)
  have hne : cw.length ≠ n := fun e => by subst e; simp at h
  refine N_aload_n C 0 dX5_init_0 rfl 0 rfl ?_
  refine N_object C (List.mem_of_getElem? (i := 94) (by decide +kernel)) (Nat.le_of_ble_eq_true rfl) dX5_init_1 ?_
  refine N_aload_n C 0 dX5_init_4 rfl 0 rfl ?_
  refine N_new (ci := 6) C tyX6 [.null, .int 0] rfl inX6 tyX6_ok (List.mem_of_getElem? (i := 95) (by decide +kernel)) (List.mem_of_getElem? (i := 96) (by decide +kernel)) (List.mem_of_getElem? (i := 57) (by decide +kernel)) (fun j hj => by match j, hj with | 0, _ => rfl | 1, _ => rfl | n + 2, hj => omega) (by omega) (by omega) dX5_init_5 ?_
  refine N_dup C dX5_init_8 rfl ?_
  refine N_call C cw.length (con_Text_init (cw ++ [bText]) cw.length (ap_new rfl)) (Or.inr ⟨"RankCalc", (List.mem_of_getElem? (i := 97) (by decide +kernel))⟩) (List.mem_of_getElem? (i := 98) (by decide +kernel)) (List.mem_of_getElem? (i := 99) (by decide +kernel)) (List.mem_of_getElem? (i := 57) (by decide +kernel)) (by decide +kernel) (by decide +kernel) rfl (by decide) (by decide) (by omega) (by omega) (Nat.le_of_ble_eq_true rfl) dX5_init_9 ?_
  refine N_putF C n 0 tyX5 (.object "RankCalc$Text") rfl inX5 tyX5_ok nmX5 (tI_ne (ap_at h) hne) (by decide) (List.mem_of_getElem? (i := 111) (by decide +kernel)) rfl rfl (by decide +kernel) rfl rfl (Nat.le_of_ble_eq_true rfl) dX5_init_12 ?_
  refine N_aload_n C 0 dX5_init_15 rfl 0 rfl ?_
  refine N_sipush C 200 dX5_init_16 (by decide) ?_
  refine N_newa_int C 200 (by decide) (by decide) (by decide) (by omega) (by omega) dX5_init_19 ?_
  refine N_putF C n 1 tyX5 (.array .int) rfl inX5 tyX5_ok nmX5 (ap_at (st_at (tI_ne (ap_at h) hne))) (by decide) (List.mem_of_getElem? (i := 113) (by decide +kernel)) rfl rfl (by decide +kernel) rfl rfl (Nat.le_of_ble_eq_true rfl) dX5_init_21 ?_
  refine N_aload_n C 0 dX5_init_24 rfl 0 rfl ?_
  refine N_sipush C 200 dX5_init_25 (by decide) ?_
  refine N_newa_int C 200 (by decide) (by decide) (by decide) (by omega) (by omega) dX5_init_28 ?_
  refine N_putF C n 2 tyX5 (.array .int) rfl inX5 tyX5_ok nmX5 (ap_at (st_at (ap_at (st_at (tI_ne (ap_at h) hne))))) (by decide) (List.mem_of_getElem? (i := 115) (by decide +kernel)) rfl rfl (by decide +kernel) rfl rfl (Nat.le_of_ble_eq_true rfl) dX5_init_30 ?_
  refine N_aload_n C 0 dX5_init_33 rfl 0 rfl ?_
  refine N_sipush C 200 dX5_init_34 (by decide) ?_
  refine N_newa_int C 200 (by decide) (by decide) (by decide) (by omega) (by omega) dX5_init_37 ?_
  refine N_putF C n 3 tyX5 (.array .int) rfl inX5 tyX5_ok nmX5 (ap_at (st_at (ap_at (st_at (ap_at (st_at (tI_ne (ap_at h) hne))))))) (by decide) (List.mem_of_getElem? (i := 117) (by decide +kernel)) rfl rfl (by decide +kernel) rfl rfl (Nat.le_of_ble_eq_true rfl) dX5_init_39 ?_
  refine N_aload_n C 0 dX5_init_42 rfl 0 rfl ?_
  refine N_sipush C 200 dX5_init_43 (by decide) ?_
  refine N_newa_char C 200 (by decide) (by decide) (by decide) (by omega) (by omega) dX5_init_46 ?_
  refine N_putF C n 4 tyX5 (.array .char) rfl inX5 tyX5_ok nmX5 (ap_at (st_at (ap_at (st_at (ap_at (st_at (ap_at (st_at (tI_ne (ap_at h) hne))))))))) (by decide) (List.mem_of_getElem? (i := 119) (by decide +kernel)) rfl rfl (by decide +kernel) rfl rfl (Nat.le_of_ble_eq_true rfl) dX5_init_48 ?_
  refine N_aload_n C 0 dX5_init_51 rfl 0 rfl ?_
  refine N_sipush C 200 dX5_init_52 (by decide) ?_
  refine N_newa_char C 200 (by decide) (by decide) (by decide) (by omega) (by omega) dX5_init_55 ?_
  refine N_putF C n 5 tyX5 (.array .char) rfl inX5 tyX5_ok nmX5 (ap_at (st_at (ap_at (st_at (ap_at (st_at (ap_at (st_at (ap_at (st_at (tI_ne (ap_at h) hne))))))))))) (by decide) (List.mem_of_getElem? (i := 121) (by decide +kernel)) rfl rfl (by decide +kernel) rfl rfl (Nat.le_of_ble_eq_true rfl) dX5_init_57 ?_
  refine N_aload_n C 0 dX5_init_60 rfl 0 rfl ?_
  refine N_sipush C 200 dX5_init_61 (by decide) ?_
  refine N_newa_char C 200 (by decide) (by decide) (by decide) (by omega) (by omega) dX5_init_64 ?_
  refine N_putF C n 6 tyX5 (.array .char) rfl inX5 tyX5_ok nmX5 (ap_at (st_at (ap_at (st_at (ap_at (st_at (ap_at (st_at (ap_at (st_at (ap_at (st_at (tI_ne (ap_at h) hne))))))))))))) (by decide) (List.mem_of_getElem? (i := 123) (by decide +kernel)) rfl rfl (by decide +kernel) rfl rfl (Nat.le_of_ble_eq_true rfl) dX5_init_66 ?_
  refine N_aload_n C 0 dX5_init_69 rfl 0 rfl ?_
  refine N_sipush C 200 dX5_init_70 (by decide) ?_
  refine N_newa_int C 200 (by decide) (by decide) (by decide) (by omega) (by omega) dX5_init_73 ?_
  refine N_putF C n 7 tyX5 (.array .int) rfl inX5 tyX5_ok nmX5 (ap_at (st_at (ap_at (st_at (ap_at (st_at (ap_at (st_at (ap_at (st_at (ap_at (st_at (ap_at (st_at (tI_ne (ap_at h) hne))))))))))))))) (by decide) (List.mem_of_getElem? (i := 125) (by decide +kernel)) rfl rfl (by decide +kernel) rfl rfl (Nat.le_of_ble_eq_true rfl) dX5_init_75 ?_
  exact N_return C rfl (by omega) (by omega) dX5_init_78

theorem sI_ne {E : WE} {b : Nat} {cw : List va_E} {n m : Nat} {e : va_E} (h : cw[m]? = some e) (hn : n ≠ m) : (sI E b cw n)[m]? = some e := by
  have h0 : cw.length ≠ m := fun z => by subst z; simp at h
  have h1 := tI_ne (E := E) (b := b) (cw := cw ++ [bText]) (ap_at h) h0
  exact st_ne (ap_at (st_ne (ap_at (st_ne (ap_at (st_ne (ap_at (st_ne (ap_at (st_ne (ap_at (st_ne (ap_at (st_ne h1 hn)) hn)) hn)) hn)) hn)) hn)) hn)) hn
/-- k Grids put into the row of Grids at cell a -/
def rL (E : WE) (b : Nat) (base : List va_E) (a : Nat) : Nat → List va_E × (Nat → Option Nat)
  | 0 => (base, fun _ => none)
  | k + 1 =>
    let c := (rL E b base a k).1
    let f := va_up (rL E b base a k).2 (nI k).toNatClampNeg (some (b + c.length))
    ((gI E b (c ++ [bGrid]) c.length).set a (.inl (E.2.2.1 3, 8, .inr (.inr (.inr (.inr f))))), f)
theorem rL_len (E : WE) (b : Nat) (base : List va_E) (a : Nat) : ∀ k, (rL E b base a k).1.length = base.length + 3 * k
  | 0 => rfl
  | k + 1 => by simp [rL, gI_len, rL_len E b base a k]; omega
theorem rL_arr {E : WE} {b : Nat} {base : List va_E} {a : Nat} (h : base[a]? = some (.inl (E.2.2.1 3, 8, .inr (.inr (.inr (.inr fun _ => none)))))) : ∀ k, (rL E b base a k).1[a]? = some (.inl (E.2.2.1 3, 8, .inr (.inr (.inr (.inr (rL E b base a k).2)))))
  | 0 => h
  | k + 1 => by
    have ih := rL_arr (b := b) h k
    have hl : (rL E b base a k).1.length ≠ a := ln_ne ih
    exact st_at (gI_ne (ap_at ih) hl)
theorem rL_ne {E : WE} {b : Nat} {base : List va_E} {a m : Nat} {e : va_E} (h : base[m]? = some e) (hm : a ≠ m) : ∀ k, (rL E b base a k).1[m]? = some e
  | 0 => h
  | k + 1 => by
    have ih := rL_ne (E := E) (b := b) h hm k
    have hl : (rL E b base a k).1.length ≠ m := ln_ne ih
    exact st_ne (gI_ne (ap_at ih) hl) hm

set_option maxHeartbeats 4000000 in
set_option maxRecDepth 100000 in
theorem lp_Names {Y : Mc} {l : Launch} {E : WE} {b : Nat} (C : NOk Y l E b 2 26 456 RX2 cX2_init 1) (base : List va_E) (a n : Nat) (fs : List Value) (ha : base[a]? = some (.inl (E.2.2.1 3, 8, .inr (.inr (.inr (.inr fun _ => none)))))) (hn : base[n]? = some (.inr (4, fs))) (hfs : fs[0]? = some (.ref (b + a))) (hna : a ≠ n) : ∀ (z k : Nat), k + z = 8 → N Y l E b 2 26 456 (QN E b (rL E b base a 8).1) 23 [(0, .ref (b + n)), (1, .int (nI k))] [] (rL E b base a k).1 (2 + 3 * k) (16 + 55 * k) := by
  intro z
  induction z with
  | zero =>
    intro k hk
    refine N_iload_n C 1 dX2_init_23 rfl 1 rfl ?_
    refine N_bipush C 8 dX2_init_24 (by decide) ?_
    obtain rfl : k = 8 := by omega
    refine N_icmp_ge C (tgt := 48) dX2_init_26 (by decide) (fun hc => ?_) (fun hc => absurd (by decide) hc)
    exact N_return C rfl (by omega) (by omega) dX2_init_48
  | succ z ih =>
    intro k hk
    refine N_iload_n C 1 dX2_init_23 rfl 1 rfl ?_
    refine N_bipush C 8 dX2_init_24 (by decide) ?_
    refine N_icmp_ge C (tgt := 48) dX2_init_26 (by decide) (fun hc => ?_) (fun hc => ?_)
    · exact absurd hc (nI_ge (a := k) (b := 8) (by omega) (by decide))
    · have hk8 : k < 8 := by omega
      have harr := rL_arr (b := b) ha k
      have hthis := rL_ne (E := E) (b := b) hn hna k
      have hal : (rL E b base a k).1.length ≠ a := ln_ne harr
      obtain ⟨vs9, hg9⟩ := gI_at (E := E) (b := b) (cw := (rL E b base a k).1 ++ [bGrid]) (ap_new rfl)
      refine N_aload_n C 0 dX2_init_29 rfl 0 rfl ?_
      refine N_getf (v := .ref (b + a)) C n 0 rfl inX2 hthis (by decide) (List.mem_of_getElem? (i := 205) (by decide +kernel)) hfs dX2_init_30 ?_
      refine N_iload_n C 1 dX2_init_33 rfl 1 rfl ?_
      refine N_new (ci := 3) C tyX1 [.null, .null, .int 0, .int 0] rfl inX1 tyX1_ok (List.mem_of_getElem? (i := 171) (by decide +kernel)) (List.mem_of_getElem? (i := 173) (by decide +kernel)) (List.mem_of_getElem? (i := 59) (by decide +kernel)) (fun j hj => by match j, hj with | 0, _ => rfl | 1, _ => rfl | 2, _ => rfl | 3, _ => rfl | n + 4, hj => omega) (by omega) (by omega) dX2_init_34 ?_
      refine N_dup C dX2_init_37 rfl ?_
      refine N_call C (rL E b base a k).1.length (con_Grid_init ((rL E b base a k).1 ++ [bGrid]) (rL E b base a k).1.length (ap_new rfl)) (Or.inr ⟨"RankCalc", (List.mem_of_getElem? (i := 174) (by decide +kernel))⟩) (List.mem_of_getElem? (i := 175) (by decide +kernel)) (List.mem_of_getElem? (i := 176) (by decide +kernel)) (List.mem_of_getElem? (i := 59) (by decide +kernel)) (by decide +kernel) (by decide +kernel) rfl (by decide) (by decide) (by omega) (by omega) (Nat.le_of_ble_eq_true rfl) dX2_init_38 ?_
      refine N_aast C (gI_ne (ap_at harr) hal) hg9 (vp_in_nI hk8 (by omega)) dX2_init_41 ?_
      refine N_iinc (L' := [(0, .ref (b + n)), (1, .int (nI (k + 1)))]) C (nI (k + 1)) dX2_init_42 1 rfl (nI_1 k) (by decide) [1, 0] rfl ?_
      refine N_goto C (tgt := 23) dX2_init_45 (by decide) ?_
      have hgo := ih (k + 1) (by omega)
      have e1 : 2 + 3 * (k + 1) = 2 + 3 * k + 1 + 2 := by omega
      have e2 : 16 + 55 * (k + 1) = 16 + 55 * k + 4 + 51 := by omega
      rw [e1, e2] at hgo
      exact hgo
set_option maxHeartbeats 4000000 in
set_option maxRecDepth 100000 in
theorem lp_Bench {Y : Mc} {l : Launch} {E : WE} {b : Nat} (C : NOk Y l E b 2 30 558 RX0 cX0_init 1) (base : List va_E) (a n : Nat) (fs : List Value) (ha : base[a]? = some (.inl (E.2.2.1 3, 8, .inr (.inr (.inr (.inr fun _ => none)))))) (hn : base[n]? = some (.inr (2, fs))) (hfs : fs[0]? = some (.ref (b + a))) (hna : a ≠ n) : ∀ (z k : Nat), k + z = 8 → N Y l E b 2 30 558 (QN E b (rL E b base a 8).1) 42 [(0, .ref (b + n)), (1, .int (nI k))] [] (rL E b base a k).1 (6 + 3 * k) (118 + 55 * k) := by
  intro z
  induction z with
  | zero =>
    intro k hk
    refine N_iload_n C 1 dX0_init_42 rfl 1 rfl ?_
    refine N_bipush C 8 dX0_init_43 (by decide) ?_
    obtain rfl : k = 8 := by omega
    refine N_icmp_ge C (tgt := 67) dX0_init_45 (by decide) (fun hc => ?_) (fun hc => absurd (by decide) hc)
    exact N_return C rfl (by omega) (by omega) dX0_init_67
  | succ z ih =>
    intro k hk
    refine N_iload_n C 1 dX0_init_42 rfl 1 rfl ?_
    refine N_bipush C 8 dX0_init_43 (by decide) ?_
    refine N_icmp_ge C (tgt := 67) dX0_init_45 (by decide) (fun hc => ?_) (fun hc => ?_)
    · exact absurd hc (nI_ge (a := k) (b := 8) (by omega) (by decide))
    · have hk8 : k < 8 := by omega
      have harr := rL_arr (b := b) ha k
      have hthis := rL_ne (E := E) (b := b) hn hna k
      have hal : (rL E b base a k).1.length ≠ a := ln_ne harr
      obtain ⟨vs9, hg9⟩ := gI_at (E := E) (b := b) (cw := (rL E b base a k).1 ++ [bGrid]) (ap_new rfl)
      refine N_aload_n C 0 dX0_init_48 rfl 0 rfl ?_
      refine N_getf (v := .ref (b + a)) C n 0 rfl inX0 hthis (by decide) (List.mem_of_getElem? (i := 222) (by decide +kernel)) hfs dX0_init_49 ?_
      refine N_iload_n C 1 dX0_init_52 rfl 1 rfl ?_
      refine N_new (ci := 3) C tyX1 [.null, .null, .int 0, .int 0] rfl inX1 tyX1_ok (List.mem_of_getElem? (i := 220) (by decide +kernel)) (List.mem_of_getElem? (i := 173) (by decide +kernel)) (List.mem_of_getElem? (i := 59) (by decide +kernel)) (fun j hj => by match j, hj with | 0, _ => rfl | 1, _ => rfl | 2, _ => rfl | 3, _ => rfl | n + 4, hj => omega) (by omega) (by omega) dX0_init_53 ?_
      refine N_dup C dX0_init_56 rfl ?_
      refine N_call C (rL E b base a k).1.length (con_Grid_init ((rL E b base a k).1 ++ [bGrid]) (rL E b base a k).1.length (ap_new rfl)) (Or.inr ⟨"RankCalc", (List.mem_of_getElem? (i := 221) (by decide +kernel))⟩) (List.mem_of_getElem? (i := 175) (by decide +kernel)) (List.mem_of_getElem? (i := 176) (by decide +kernel)) (List.mem_of_getElem? (i := 59) (by decide +kernel)) (by decide +kernel) (by decide +kernel) rfl (by decide) (by decide) (by omega) (by omega) (Nat.le_of_ble_eq_true rfl) dX0_init_57 ?_
      refine N_aast C (gI_ne (ap_at harr) hal) hg9 (vp_in_nI hk8 (by omega)) dX0_init_60 ?_
      refine N_iinc (L' := [(0, .ref (b + n)), (1, .int (nI (k + 1)))]) C (nI (k + 1)) dX0_init_61 1 rfl (nI_1 k) (by decide) [1, 0] rfl ?_
      refine N_goto C (tgt := 42) dX0_init_64 (by decide) ?_
      have hgo := ih (k + 1) (by omega)
      have e1 : 6 + 3 * (k + 1) = 6 + 3 * k + 1 + 2 := by omega
      have e2 : 118 + 55 * (k + 1) = 118 + 55 * k + 4 + 51 := by omega
      rw [e1, e2] at hgo
      exact hgo
def nB (E : WE) (b : Nat) (cw : List va_E) (n : Nat) : List va_E :=
  let c1 := (cw ++ [qG E]).set n (.inr (4, [.ref (b + cw.length), .null]))
  (c1 ++ [zZ E 8]).set n (.inr (4, [.ref (b + cw.length), .ref (b + c1.length)]))
def nI9 (E : WE) (b : Nat) (cw : List va_E) (n : Nat) : List va_E := (rL E b (nB E b cw n) cw.length 8).1
set_option maxHeartbeats 4000000 in
set_option maxRecDepth 100000 in
theorem con_Names_init {l : Launch} {E : WE} {b : Nat} (cw : List va_E) (n : Nat) (h : cw[n]? = some bNames) : ConN l E b yX2_init cX2_init 2 1 n 26 456 cw (nI9 E b cw n) := by
  refine ConN.of (by decide) rfl (by decide) (fun Y C => ?_)
  have hne : cw.length ≠ n := fun e => by subst e; simp at h
  refine N_aload_n C 0 dX2_init_0 rfl 0 rfl ?_
  refine N_object C (List.mem_of_getElem? (i := 170) (by decide +kernel)) (Nat.le_of_ble_eq_true rfl) dX2_init_1 ?_
  refine N_aload_n C 0 dX2_init_4 rfl 0 rfl ?_
  refine N_bipush C 8 dX2_init_5 (by decide) ?_
  refine N_newq C 8 (List.mem_of_getElem? (i := 171) (by decide +kernel)) (by decide) (by decide) (by decide) (by omega) (by omega) dX2_init_7 ?_
  refine N_putF C n 0 tyX2 (.array (.object "RankCalc$Grid")) rfl inX2 tyX2_ok nmX2 (ap_at h) (by decide) (List.mem_of_getElem? (i := 205) (by decide +kernel)) rfl rfl (by decide +kernel) rfl rfl (Nat.le_of_ble_eq_true rfl) dX2_init_10 ?_
  refine N_aload_n C 0 dX2_init_13 rfl 0 rfl ?_
  refine N_bipush C 8 dX2_init_14 (by decide) ?_
  refine N_newa_boolean C 8 (by decide) (by decide) (by decide) (by omega) (by omega) dX2_init_16 ?_
  refine N_putF C n 1 tyX2 (.array .boolean) rfl inX2 tyX2_ok nmX2 (ap_at (st_at (ap_at h))) (by decide) (List.mem_of_getElem? (i := 207) (by decide +kernel)) rfl rfl (by decide +kernel) rfl rfl (Nat.le_of_ble_eq_true rfl) dX2_init_18 ?_
  refine N_iconst C 0 dX2_init_21 (by decide) ?_
  refine N_istore_n (L' := [(0, .ref (b + n)), (1, .int (nI 0))]) C 1 dX2_init_22 rfl (by decide) [1, 0] rfl ?_
  exact lp_Names C (nB E b cw n) cw.length n _ (st_ne (ap_at (st_ne (ap_new rfl) hne.symm)) hne.symm) (st_at (ap_at (st_at (ap_at h)))) rfl hne 8 0 rfl

def bB9 (E : WE) (b : Nat) (cw : List va_E) (n : Nat) : List va_E :=
  let c1 := (cw ++ [qG E]).set n (.inr (2, [.ref (b + cw.length), .null, .null, .null, .int 0, .int 0, .int 0]))
  let c2 := (c1 ++ [zI E 7]).set n (.inr (2, [.ref (b + cw.length), .ref (b + c1.length), .null, .null, .int 0, .int 0, .int 0]))
  let c3 := (c2 ++ [zI E 48]).set n (.inr (2, [.ref (b + cw.length), .ref (b + c1.length), .ref (b + c2.length), .null, .int 0, .int 0, .int 0]))
  (gI E b (c3 ++ [bGrid]) c3.length).set n (.inr (2, [.ref (b + cw.length), .ref (b + c1.length), .ref (b + c2.length), .ref (b + c3.length), .int 0, .int 0, .int 0]))
def bI9 (E : WE) (b : Nat) (cw : List va_E) (n : Nat) : List va_E := (rL E b (bB9 E b cw n) cw.length 8).1
set_option maxHeartbeats 4000000 in
set_option maxRecDepth 100000 in
theorem con_Bench_init {l : Launch} {E : WE} {b : Nat} (cw : List va_E) (n : Nat) (h : cw[n]? = some bBench) : ConN l E b yX0_init cX0_init 2 1 n 30 558 cw (bI9 E b cw n) := by
  refine ConN.of (by decide) rfl (by decide) (fun Y C => ?_)
  have hne : cw.length ≠ n := fun e => by subst e; simp at h
  have hln : ∀ {l9 : List va_E} {m9 : Nat} {e9 : va_E}, l9[m9]? = some e9 → l9.length ≠ m9 := fun g e => by subst e; simp at g
  refine N_aload_n C 0 dX0_init_0 rfl 0 rfl ?_
  refine N_object C (List.mem_of_getElem? (i := 219) (by decide +kernel)) (Nat.le_of_ble_eq_true rfl) dX0_init_1 ?_
  refine N_aload_n C 0 dX0_init_4 rfl 0 rfl ?_
  refine N_bipush C 8 dX0_init_5 (by decide) ?_
  refine N_newq C 8 (List.mem_of_getElem? (i := 220) (by decide +kernel)) (by decide) (by decide) (by decide) (by omega) (by omega) dX0_init_7 ?_
  refine N_putF C n 0 tyX0 (.array (.object "RankCalc$Grid")) rfl inX0 tyX0_ok nmX0 (ap_at h) (by decide) (List.mem_of_getElem? (i := 222) (by decide +kernel)) rfl rfl (by decide +kernel) rfl rfl (Nat.le_of_ble_eq_true rfl) dX0_init_10 ?_
  refine N_aload_n C 0 dX0_init_13 rfl 0 rfl ?_
  refine N_bipush C 7 dX0_init_14 (by decide) ?_
  refine N_newa_int C 7 (by decide) (by decide) (by decide) (by omega) (by omega) dX0_init_16 ?_
  refine N_putF C n 1 tyX0 (.array .int) rfl inX0 tyX0_ok nmX0 (ap_at (st_at (ap_at h))) (by decide) (List.mem_of_getElem? (i := 223) (by decide +kernel)) rfl rfl (by decide +kernel) rfl rfl (Nat.le_of_ble_eq_true rfl) dX0_init_18 ?_
  refine N_aload_n C 0 dX0_init_21 rfl 0 rfl ?_
  refine N_bipush C 48 dX0_init_22 (by decide) ?_
  refine N_newa_int C 48 (by decide) (by decide) (by decide) (by omega) (by omega) dX0_init_24 ?_
  refine N_putF C n 2 tyX0 (.array .int) rfl inX0 tyX0_ok nmX0 (ap_at (st_at (ap_at (st_at (ap_at h))))) (by decide) (List.mem_of_getElem? (i := 224) (by decide +kernel)) rfl rfl (by decide +kernel) rfl rfl (Nat.le_of_ble_eq_true rfl) dX0_init_26 ?_
  skip
  refine N_aload_n C 0 dX0_init_29 rfl 0 rfl ?_
  refine N_new (ci := 3) C tyX1 [.null, .null, .int 0, .int 0] rfl inX1 tyX1_ok (List.mem_of_getElem? (i := 220) (by decide +kernel)) (List.mem_of_getElem? (i := 173) (by decide +kernel)) (List.mem_of_getElem? (i := 59) (by decide +kernel)) (fun j hj => by match j, hj with | 0, _ => rfl | 1, _ => rfl | 2, _ => rfl | 3, _ => rfl | n + 4, hj => omega) (by omega) (by omega) dX0_init_30 ?_
  refine N_dup C dX0_init_33 rfl ?_
  refine N_call C _ (con_Grid_init _ _ (ap_new rfl)) (Or.inr ⟨"RankCalc", (List.mem_of_getElem? (i := 221) (by decide +kernel))⟩) (List.mem_of_getElem? (i := 175) (by decide +kernel)) (List.mem_of_getElem? (i := 176) (by decide +kernel)) (List.mem_of_getElem? (i := 59) (by decide +kernel)) (by decide +kernel) (by decide +kernel) rfl (by decide) (by decide) (by omega) (by omega) (Nat.le_of_ble_eq_true rfl) dX0_init_34 ?_
  refine N_put C n 3 tyX0 (.object "RankCalc$Grid") rfl inX0 tyX0_ok nmX0 (gI_ne (ap_at (st_at (ap_at (st_at (ap_at (st_at (ap_at h))))))) (hln (st_at (ap_at (st_at (ap_at (st_at (ap_at h)))))))) (by decide) (List.mem_of_getElem? (i := 225) (by decide +kernel)) rfl (by decide +kernel) rfl rfl (Nat.le_of_ble_eq_true rfl) dX0_init_37 ?_
  refine N_iconst C 0 dX0_init_40 (by decide) ?_
  refine N_istore_n (L' := [(0, .ref (b + n)), (1, .int (nI 0))]) C 1 dX0_init_41 rfl (by decide) [1, 0] rfl ?_
  exact lp_Bench C (bB9 E b cw n) cw.length n _ (st_ne (gI_ne (ap_at (st_ne (ap_at (st_ne (ap_at (st_ne (ap_new rfl) hne.symm)) hne.symm)) hne.symm)) (hln (st_ne (ap_at (st_ne (ap_at (st_ne (ap_new rfl) hne.symm)) hne.symm)) hne.symm))) hne.symm) (st_at (gI_ne (ap_at (st_at (ap_at (st_at (ap_at (st_at (ap_at h))))))) (hln (st_at (ap_at (st_at (ap_at (st_at (ap_at h))))))))) rfl hne 8 0 rfl

def mI0 (E : WE) (b : Nat) (cw : List va_E) (n : Nat) : List va_E :=
  let d0 := cw
  let e0 := d0 ++ [zI E 200]
  let d1 := e0.set n (.inr (8, [.ref (b + d0.length), .int 0, .null, .null, .null, .null, .null, .null, .null, .int 0, .int 0, .int 0, .null, .null, .null, .null, .int 0, .int 0, .int 0]))
  let e1 := d1 ++ [zI E 20]
  let d2 := e1.set n (.inr (8, [.ref (b + d0.length), .int 0, .ref (b + d1.length), .null, .null, .null, .null, .null, .null, .int 0, .int 0, .int 0, .null, .null, .null, .null, .int 0, .int 0, .int 0]))
  let e2 := d2 ++ [zI E 60]
  let d3 := e2.set n (.inr (8, [.ref (b + d0.length), .int 0, .ref (b + d1.length), .ref (b + d2.length), .null, .null, .null, .null, .null, .int 0, .int 0, .int 0, .null, .null, .null, .null, .int 0, .int 0, .int 0]))
  let e3 := d3 ++ [zI E 960]
  let d4 := e3.set n (.inr (8, [.ref (b + d0.length), .int 0, .ref (b + d1.length), .ref (b + d2.length), .ref (b + d3.length), .null, .null, .null, .null, .int 0, .int 0, .int 0, .null, .null, .null, .null, .int 0, .int 0, .int 0]))
  let e4 := d4 ++ [zI E 201]
  let d5 := e4.set n (.inr (8, [.ref (b + d0.length), .int 0, .ref (b + d1.length), .ref (b + d2.length), .ref (b + d3.length), .ref (b + d4.length), .null, .null, .null, .int 0, .int 0, .int 0, .null, .null, .null, .null, .int 0, .int 0, .int 0]))
  let e5 := d5 ++ [zI E 201]
  let d6 := e5.set n (.inr (8, [.ref (b + d0.length), .int 0, .ref (b + d1.length), .ref (b + d2.length), .ref (b + d3.length), .ref (b + d4.length), .ref (b + d5.length), .null, .null, .int 0, .int 0, .int 0, .null, .null, .null, .null, .int 0, .int 0, .int 0]))
  let e6 := d6 ++ [zI E 201]
  let d7 := e6.set n (.inr (8, [.ref (b + d0.length), .int 0, .ref (b + d1.length), .ref (b + d2.length), .ref (b + d3.length), .ref (b + d4.length), .ref (b + d5.length), .ref (b + d6.length), .null, .int 0, .int 0, .int 0, .null, .null, .null, .null, .int 0, .int 0, .int 0]))
  let e7 := d7 ++ [zI E 101]
  let d8 := e7.set n (.inr (8, [.ref (b + d0.length), .int 0, .ref (b + d1.length), .ref (b + d2.length), .ref (b + d3.length), .ref (b + d4.length), .ref (b + d5.length), .ref (b + d6.length), .ref (b + d7.length), .int 0, .int 0, .int 0, .null, .null, .null, .null, .int 0, .int 0, .int 0]))
  let e8 := d8 ++ [zZ E 8]
  let d9 := e8.set n (.inr (8, [.ref (b + d0.length), .int 0, .ref (b + d1.length), .ref (b + d2.length), .ref (b + d3.length), .ref (b + d4.length), .ref (b + d5.length), .ref (b + d6.length), .ref (b + d7.length), .int 0, .int 0, .int 0, .ref (b + d8.length), .null, .null, .null, .int 0, .int 0, .int 0]))
  let e9 := d9 ++ [zZ E 8]
  let d10 := e9.set n (.inr (8, [.ref (b + d0.length), .int 0, .ref (b + d1.length), .ref (b + d2.length), .ref (b + d3.length), .ref (b + d4.length), .ref (b + d5.length), .ref (b + d6.length), .ref (b + d7.length), .int 0, .int 0, .int 0, .ref (b + d8.length), .ref (b + d9.length), .null, .null, .int 0, .int 0, .int 0]))
  let e10 := d10 ++ [zI E 8]
  let d11 := e10.set n (.inr (8, [.ref (b + d0.length), .int 0, .ref (b + d1.length), .ref (b + d2.length), .ref (b + d3.length), .ref (b + d4.length), .ref (b + d5.length), .ref (b + d6.length), .ref (b + d7.length), .int 0, .int 0, .int 0, .ref (b + d8.length), .ref (b + d9.length), .ref (b + d10.length), .null, .int 0, .int 0, .int 0]))
  let e11 := d11 ++ [zI E 49]
  let d12 := e11.set n (.inr (8, [.ref (b + d0.length), .int 0, .ref (b + d1.length), .ref (b + d2.length), .ref (b + d3.length), .ref (b + d4.length), .ref (b + d5.length), .ref (b + d6.length), .ref (b + d7.length), .int 0, .int 0, .int 0, .ref (b + d8.length), .ref (b + d9.length), .ref (b + d10.length), .ref (b + d11.length), .int 0, .int 0, .int 0]))
  d12
