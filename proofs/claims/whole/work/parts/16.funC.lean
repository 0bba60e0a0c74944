def f_X1_restart (g0 : Nat) (μ : Mem) : Option (Unit × Mem) :=
  lt (sto μ 20 g0 2 (0 : Int32)) fun μ_1 =>
  lt (sto μ_1 20 g0 3 (1 : Int32)) fun μ_2 =>
  some ((), μ_2)
def f_X1_rowLength (g0 : Nat) (μ : Mem) : Option (Int32) :=
  if (μ 20 g0 2) = 0 then
  (some (1 : Int32))
  else
  gd (inb ((μ 20 g0 2) - (1 : Int32)) 3) <|
  some (μ 21 g0 (((μ 20 g0 2) - (1 : Int32))).toNatClampNeg)
def f_X1_addAxis (g0 : Nat) (a1 : Int32) (μ : Mem) : Option (Except Nat Unit × Mem) :=
  if a1 ≤ (48 : Int32) then
  (gd (inb (μ 20 g0 2) 3) <|
   lt (sto μ 21 g0 ((μ 20 g0 2)).toNatClampNeg a1) fun μ_1 =>
   lt (sto μ_1 20 g0 2 ((μ_1 20 g0 2) + (1 : Int32))) fun μ_2 =>
   lt (sto μ_2 20 g0 3 ((μ_2 20 g0 3) * a1)) fun μ_3 =>
   some (.ok (), μ_3))
  else
  some (.error 1, μ)
def f_X1_addAxesOf_L3 (κ : Mem → Option (Except Nat Unit × Mem)) (g_1 : Nat) (g_2 : Nat) (c3_3 : Int32) : Nat → Int32 → Mem → Option (Except Nat Unit × Mem)
  | 0, _, _ => none
  | n + 1, a4_4, μ_5 =>
    if c3_3 ≤ a4_4 then
    (κ  μ_5)
    else
    gd (inb a4_4 3) <|
    bB (f_X1_addAxis g_1 (μ_5 21 g_2 (a4_4).toNatClampNeg) μ_5) (fun e_8 μ_7 => some (.error e_8, μ_7)) fun u_6 μ_7 =>
    lt (a4_4 + (1 : Int32)) fun x_9 =>
    f_X1_addAxesOf_L3 κ g_1 g_2 c3_3 n x_9 μ_7
def f_X1_addAxesOf (g0 : Nat) (g1 : Nat) (a2 : Int32) (a3 : Int32) (μ : Mem) : Option (Except Nat Unit × Mem) :=
  f_X1_addAxesOf_L3 (fun (μ_11 : Mem) =>
   some (.ok (), μ_11)) g0 g1 a3 1000 a2 μ
def f_X1_endAxes (g0 : Nat) (μ : Mem) : Option (Except Nat Unit) :=
  if (μ 20 g0 3) ≤ (48 : Int32) then
  (some (.ok ()))
  else
  some (.error 1)
def f_X3_ofNothing (a0 : Int32) (μ : Mem) : Option (Except Nat Int32) :=
  jn (fun (_ : Unit) =>
   if a0 = (43 : Int32) then
   (some (.ok (0 : Int32)))
   else
   some (.ok (1 : Int32))) fun j_1 =>
  if a0 = (43 : Int32) then
  (j_1 ())
  else
  if a0 = (42 : Int32) then
  (j_1 ())
  else
  some (.error 2)
def f_X3_fit (b0 : Int64) (μ : Mem) : Option (Except Nat Int32) :=
  if (lg_cmp b0 ((b0).toInt32).toInt64) = 0 then
  (some (.ok (b0).toInt32))
  else
  some (.error 1)
def f_X3_needDivides (a0 : Int32) (a1 : Int32) (μ : Mem) : Option (Except Nat Unit) :=
  if a0 = 0 then
  (some (.error 2))
  else
  gd (nz a0) <|
  if (a1 - a1 / a0 * a0) = 0 then
  (some (.ok ()))
  else
  some (.error 2)
def f_J9_floorMod_7cf53 (a0 : Int32) (a1 : Int32) (μ : Mem) : Option (Int32) :=
  gd (nz a1) <|
  lt ((a0 - a0 / a1 * a1)) fun x_1 =>
  if 0 ≤ (a0 ^^^ a1) then
  (some x_1)
  else
  if x_1 = 0 then
  (some x_1)
  else
  some (x_1 + a1)
def f_X3_work (a0 : Int32) (a1 : Int32) (a2 : Int32) (μ : Mem) : Option (Except Nat Int32) :=
  if a0 = (37 : Int32) then
  (bT (f_X3_needDivides a2 a1 μ) (fun e_2 => some (.error e_2)) fun u_1 =>
   gd (nzl (a2).toInt64) <|
   bT (f_X3_fit ((a1).toInt64 / (a2).toInt64) μ) (fun e_4 => some (.error e_4)) fun v_3 =>
   some (.ok v_3))
  else
  if a0 = (38 : Int32) then
  (some (.ok (if a2 < a1 then a2 else a1)))
  else
  if a0 = (42 : Int32) then
  (bT (f_X3_fit ((a1).toInt64 * (a2).toInt64) μ) (fun e_6 => some (.error e_6)) fun v_5 =>
   some (.ok v_5))
  else
  if a0 = (43 : Int32) then
  (bT (f_X3_fit ((a1).toInt64 + (a2).toInt64) μ) (fun e_8 => some (.error e_8)) fun v_7 =>
   some (.ok v_7))
  else
  if a0 = (45 : Int32) then
  (bT (f_X3_fit ((a1).toInt64 - (a2).toInt64) μ) (fun e_10 => some (.error e_10)) fun v_9 =>
   some (.ok v_9))
  else
  if a0 = (60 : Int32) then
  (if a2 ≤ a1 then
   (some (.ok (0 : Int32)))
   else
   some (.ok (1 : Int32)))
  else
  if a0 = (61 : Int32) then
  (if a1 = a2 then
   (some (.ok (1 : Int32)))
   else
   some (.ok (0 : Int32)))
  else
  if a0 = (62 : Int32) then
  (if a1 ≤ a2 then
   (some (.ok (0 : Int32)))
   else
   some (.ok (1 : Int32)))
  else
  if a0 = (124 : Int32) then
  (if a1 = 0 then
   (some (.ok a2))
   else
   bP (f_J9_floorMod_7cf53 a2 a1 μ) fun v_11 =>
   some (.ok v_11))
  else
  some (.ok (if a1 < a2 then a2 else a1))
def f_X3_fold_L23 (κ : Int32 → Option (Except Nat Int32)) (c0_3 : Int32) (k_4 : Nat) (i_5 : Nat) (c2_6 : Int32) (μ_9 : Mem) : Nat → Int32 → Int32 → Option (Except Nat Int32)
  | 0, _, _ => none
  | n + 1, a4_7, a5_8 =>
    if a5_8 < 0 then
    (κ a4_7)
    else
    gd (inb (c2_6 + a5_8) 48) <|
    bT (f_X3_work c0_3 (μ_9 k_4 i_5 ((c2_6 + a5_8)).toNatClampNeg) a4_7 μ_9) (fun e_11 => some (.error e_11)) fun v_10 =>
    lt (a5_8 + (-1 : Int32)) fun x_12 =>
    f_X3_fold_L23 κ c0_3 k_4 i_5 c2_6 μ_9 n v_10 x_12
def f_X3_fold (a0 : Int32) (k1 : Nat) (i1 : Nat) (a2 : Int32) (a3 : Int32) (μ : Mem) : Option (Except Nat Int32) :=
  if a3 = 0 then
  (bT (f_X3_ofNothing a0 μ) (fun e_16 => some (.error e_16)) fun v_15 =>
   some (.ok v_15))
  else
  gd (inb ((a2 + a3) - (1 : Int32)) 48) <|
  lt ((μ k1 i1 (((a2 + a3) - (1 : Int32))).toNatClampNeg)) fun x_1 =>
  lt ((a3 - (2 : Int32))) fun x_2 =>
  f_X3_fold_L23 (fun (a4_14 : Int32) =>
   some (.ok a4_14)) a0 k1 i1 a2 μ 1000 x_1 x_2
def f_X3_reduce_L24 (κ : Mem → Option (Except Nat Unit × Mem)) (c0_7 : Int32) (g_8 : Nat) (g_9 : Nat) (c3_10 : Int32) : Nat → Int32 → Mem → Option (Except Nat Unit × Mem)
  | 0, _, _ => none
  | n + 1, a4_11, μ_12 =>
    if (μ_12 20 g_9 3) ≤ a4_11 then
    (κ  μ_12)
    else
    bT (f_X3_fold c0_7 22 g_8 (a4_11 * c3_10) c3_10 μ_12) (fun e_14 => some (.error e_14, μ_12)) fun v_13 =>
    gd (inb a4_11 48) <|
    lt (sto μ_12 22 g_9 (a4_11).toNatClampNeg v_13) fun μ_15 =>
    lt (a4_11 + (1 : Int32)) fun x_16 =>
    f_X3_reduce_L24 κ c0_7 g_8 g_9 c3_10 n x_16 μ_15
def f_X3_reduce (a0 : Int32) (g1 : Nat) (g2 : Nat) (μ : Mem) : Option (Except Nat Unit × Mem) :=
  bP (f_X1_rowLength g1 μ) fun v_1 =>
  bB (f_X1_addAxesOf g2 g1 (0 : Int32) ((μ 20 g1 2) - (1 : Int32)) μ) (fun e_4 μ_3 => some (.error e_4, μ_3)) fun u_2 μ_3 =>
  bT (f_X1_endAxes g2 μ_3) (fun e_6 => some (.error e_6, μ_3)) fun u_5 =>
  f_X3_reduce_L24 (fun (μ_18 : Mem) =>
   some (.ok (), μ_18)) a0 g1 g2 v_1 1000 (0 : Int32) μ_3
def f_X1_shapeLike (g0 : Nat) (g1 : Nat) (μ : Mem) : Option (Except Nat Unit × Mem) :=
  bW (f_X1_restart g0 μ) fun u_1 μ_2 =>
  bB (f_X1_addAxesOf g0 g1 (0 : Int32) (μ_2 20 g1 2) μ_2) (fun e_5 μ_4 => some (.error e_5, μ_4)) fun u_3 μ_4 =>
  some (.ok (), μ_4)
def f_X3_scan_L16 (κ : Mem → Option (Except Nat Unit × Mem)) (c0_5 : Int32) (g_6 : Nat) (g_7 : Nat) (c3_8 : Int32) : Nat → Int32 → Int32 → Mem → Option (Except Nat Unit × Mem)
  | 0, _, _, _ => none
  | n + 1, a4_9, a5_10, μ_11 =>
    if (μ_11 20 g_7 3) ≤ a5_10 then
    (κ  μ_11)
    else
    jn (fun (a4_12 : Int32) =>
     bT (f_X3_fold c0_5 22 g_6 a4_12 ((a5_10 - a4_12) + (1 : Int32)) μ_11) (fun e_15 => some (.error e_15, μ_11)) fun v_14 =>
     gd (inb a5_10 48) <|
     lt (sto μ_11 22 g_7 (a5_10).toNatClampNeg v_14) fun μ_16 =>
     lt (a5_10 + (1 : Int32)) fun x_17 =>
     f_X3_scan_L16 κ c0_5 g_6 g_7 c3_8 n a4_12 x_17 μ_16) fun j_13 =>
    if a5_10 = (a4_9 + c3_8) then
    (j_13 a5_10)
    else
    j_13 a4_9
def f_X3_scan (a0 : Int32) (g1 : Nat) (g2 : Nat) (μ : Mem) : Option (Except Nat Unit × Mem) :=
  bP (f_X1_rowLength g1 μ) fun v_1 =>
  bB (f_X1_shapeLike g2 g1 μ) (fun e_4 μ_3 => some (.error e_4, μ_3)) fun u_2 μ_3 =>
  f_X3_scan_L16 (fun (μ_19 : Mem) =>
   some (.ok (), μ_19)) a0 g1 g2 v_1 1000 (0 : Int32) (0 : Int32) μ_3
def f_J0_isLatin1_aae02 (j0 : Nat) (μ : Mem) : Option (Int32) :=
  jn (fun (_ : Unit) =>
   some (0 : Int32)) fun j_1 =>
  if (1 : Int32) = 0 then
  (j_1 ())
  else
  if (0 : Int32) = 0 then
  (some (1 : Int32))
  else
  j_1 ()
def f_J0_coder_7d493 (j0 : Nat) (μ : Mem) : Option (Int32) :=
  if (1 : Int32) = 0 then
  (some (1 : Int32))
  else
  some (0 : Int32)
def f_J0_length_8abf5 (j0 : Nat) (μ : Mem) : Option (Int32) :=
  bP (f_J0_coder_7d493 j0 μ) fun v_1 =>
  some ((nI (kLen.getD j0 0)) >>> (v_1 &&& 31))
def f_J1_canEncode_9a6ad (a0 : Int32) (μ : Mem) : Option (Int32) :=
  jn (fun (_ : Unit) =>
   some (0 : Int32)) fun j_1 =>
  if a0 < 0 then
  (j_1 ())
  else
  if (255 : Int32) < a0 then
  (j_1 ())
  else
  some (1 : Int32)
def f_J1_indexOfChar_4cfef_L7 (κ : Unit → Option (Int32)) (j_2 : Nat) (c3_3 : Int32) (c4_4 : Int32) (μ_6 : Mem) : Nat → Int32 → Option (Int32)
  | 0, _ => none
  | n + 1, a5_5 =>
    if c3_3 ≤ a5_5 then
    (κ ())
    else
    gd (inb a5_5 (kLen.getD j_2 0)) <|
    if ((kByt.getD j_2 []).getD (a5_5).toNatClampNeg 0) = c4_4 then
    (some a5_5)
    else
    lt (a5_5 + (1 : Int32)) fun x_7 =>
    f_J1_indexOfChar_4cfef_L7 κ j_2 c3_3 c4_4 μ_6 n x_7
def f_J1_indexOfChar_4cfef (j0 : Nat) (a1 : Int32) (a2 : Int32) (a3 : Int32) (μ : Mem) : Option (Int32) :=
  lt ((a1).toInt8.toInt32) fun x_1 =>
  f_J1_indexOfChar_4cfef_L7 (fun (_ : Unit) =>
   some (-1 : Int32)) j0 a3 x_1 μ 1000 a2
def f_J1_indexOf_4cfef (j0 : Nat) (a1 : Int32) (a2 : Int32) (a3 : Int32) (μ : Mem) : Option (Int32) :=
  bP (f_J1_canEncode_9a6ad a1 μ) fun v_1 =>
  if v_1 = 0 then
  (some (-1 : Int32))
  else
  lt ((if a2 < (0 : Int32) then (0 : Int32) else a2)) fun x_2 =>
  lt ((if (nI (kLen.getD j0 0)) < a3 then (nI (kLen.getD j0 0)) else a3)) fun x_3 =>
  if x_2 < x_3 then
  (bP (f_J1_indexOfChar_4cfef j0 a1 x_2 x_3 μ) fun v_4 =>
   some v_4)
  else
  some (-1 : Int32)
def f_J0_indexOf_7cf53 (j0 : Nat) (a1 : Int32) (a2 : Int32) (μ : Mem) : Option (Int32) :=
  bP (f_J0_isLatin1_aae02 j0 μ) fun v_1 =>
  if v_1 = 0 then
  (bP (f_J0_length_8abf5 j0 μ) fun v_2 =>
   none)
  else
  bP (f_J0_length_8abf5 j0 μ) fun v_3 =>
  bP (f_J1_indexOf_4cfef j0 a1 a2 v_3 μ) fun v_4 =>
  some v_4
def f_J0_indexOf_0f7a4 (j0 : Nat) (a1 : Int32) (μ : Mem) : Option (Int32) :=
  bP (f_J0_indexOf_7cf53 j0 a1 (0 : Int32) μ) fun v_1 =>
  some v_1
def f_X4_upTo_L61 (κ : Mem → Option (Except Nat Unit × Mem)) (g_4 : Nat) : Nat → Int32 → Mem → Option (Except Nat Unit × Mem)
  | 0, _, _ => none
  | n + 1, a2_5, μ_6 =>
    if (μ_6 20 g_4 3) ≤ a2_5 then
    (κ  μ_6)
    else
    gd (inb a2_5 48) <|
    lt (sto μ_6 22 g_4 (a2_5).toNatClampNeg a2_5) fun μ_7 =>
    lt (a2_5 + (1 : Int32)) fun x_8 =>
    f_X4_upTo_L61 κ g_4 n x_8 μ_7
def f_X4_upTo (g0 : Nat) (g1 : Nat) (μ : Mem) : Option (Except Nat Unit × Mem) :=
  if (μ 20 g0 2) ≤ (1 : Int32) then
  (if (μ 20 g0 3) = (1 : Int32) then
   (gd (inb (0 : Int32) 48) <|
    if 0 ≤ (μ 22 g0 ((0 : Int32)).toNatClampNeg) then
    (gd (inb (0 : Int32) 48) <|
     bB (f_X1_addAxis g1 (μ 22 g0 ((0 : Int32)).toNatClampNeg) μ) (fun e_3 μ_2 => some (.error e_3, μ_2)) fun u_1 μ_2 =>
     f_X4_upTo_L61 (fun (μ_10 : Mem) =>
      some (.ok (), μ_10)) g1 1000 (0 : Int32) μ_2)
    else
    some (.error 2, μ))
   else
   some (.error 3, μ))
  else
  some (.error 4, μ)
def f_X4_lengthsOf (g0 : Nat) (g1 : Nat) (μ : Mem) : Option (Except Nat Unit × Mem) :=
  bB (f_X1_addAxis g1 (μ 20 g0 2) μ) (fun e_3 μ_2 => some (.error e_3, μ_2)) fun u_1 μ_2 =>
  gd (cpok (0 : Int32) (0 : Int32) (μ_2 20 g0 2) 3 48) <|
  lt (stf μ_2 22 g1 (va_cpy (μ_2 21 g0) (μ_2 22 g1) ((0 : Int32)).toNatClampNeg ((0 : Int32)).toNatClampNeg ((μ_2 20 g0 2)).toNatClampNeg)) fun μ_4 =>
  some (.ok (), μ_4)
def f_X4_turnAxes_L7 (κ : Mem → Option (Except Nat Unit × Mem)) (g_2 : Nat) (g_3 : Nat) : Nat → Int32 → Mem → Option (Except Nat Unit × Mem)
  | 0, _, _ => none
  | n + 1, a2_4, μ_5 =>
    if a2_4 < 0 then
    (κ  μ_5)
    else
    gd (inb a2_4 3) <|
    bB (f_X1_addAxis g_3 (μ_5 21 g_2 (a2_4).toNatClampNeg) μ_5) (fun e_8 μ_7 => some (.error e_8, μ_7)) fun u_6 μ_7 =>
    lt (a2_4 + (-1 : Int32)) fun x_9 =>
    f_X4_turnAxes_L7 κ g_2 g_3 n x_9 μ_7
def f_X4_turnAxes_L101 (κ : Int32 → Mem → Option (Except Nat Unit × Mem)) (g_34 : Nat) (g_35 : Nat) (c2_36 : Int32) (c3_37 : Int32) (c4_38 : Int32) (c6_40 : Int32) (c7_41 : Int32) : Nat → Int32 → Int32 → Mem → Option (Except Nat Unit × Mem)
  | 0, _, _, _ => none
  | n + 1, a5_39, a8_42, μ_43 =>
    if c2_36 ≤ a8_42 then
    (κ a5_39 μ_43)
    else
    gd (inb ((((a8_42 * c3_37) + c7_41) * c4_38) + c6_40) 48) <|
    gd (inb a5_39 48) <|
    lt (sto μ_43 22 g_35 (a5_39).toNatClampNeg (μ_43 22 g_34 (((((a8_42 * c3_37) + c7_41) * c4_38) + c6_40)).toNatClampNeg)) fun μ_44 =>
    lt (a5_39 + (1 : Int32)) fun x_45 =>
    lt (a8_42 + (1 : Int32)) fun x_46 =>
    f_X4_turnAxes_L101 κ g_34 g_35 c2_36 c3_37 c4_38 c6_40 c7_41 n x_45 x_46 μ_44
def f_X4_turnAxes_L92 (κ : Int32 → Mem → Option (Except Nat Unit × Mem)) (g_25 : Nat) (g_26 : Nat) (c2_27 : Int32) (c3_28 : Int32) (c4_29 : Int32) (c6_31 : Int32) : Nat → Int32 → Int32 → Mem → Option (Except Nat Unit × Mem)
  | 0, _, _, _ => none
  | n + 1, a5_30, a7_32, μ_33 =>
    if c3_28 ≤ a7_32 then
    (κ a5_30 μ_33)
    else
    f_X4_turnAxes_L101 (fun (a5_49 : Int32) (μ_50 : Mem) =>
     lt (a7_32 + (1 : Int32)) fun x_51 =>
     f_X4_turnAxes_L92 κ g_25 g_26 c2_27 c3_28 c4_29 c6_31 n a5_49 x_51 μ_50) g_25 g_26 c2_27 c3_28 c4_29 c6_31 a7_32 1000 a5_30 (0 : Int32) μ_33
def f_X4_turnAxes_L82 (κ : Mem → Option (Except Nat Unit × Mem)) (g_17 : Nat) (g_18 : Nat) (c2_19 : Int32) (c3_20 : Int32) (c4_21 : Int32) : Nat → Int32 → Int32 → Mem → Option (Except Nat Unit × Mem)
  | 0, _, _, _ => none
  | n + 1, a5_22, a6_23, μ_24 =>
    if c4_21 ≤ a6_23 then
    (κ  μ_24)
    else
    f_X4_turnAxes_L92 (fun (a5_54 : Int32) (μ_55 : Mem) =>
     lt (a6_23 + (1 : Int32)) fun x_56 =>
     f_X4_turnAxes_L82 κ g_17 g_18 c2_19 c3_20 c4_21 n a5_54 x_56 μ_55) g_17 g_18 c2_19 c3_20 c4_21 a6_23 1000 a5_22 (0 : Int32) μ_24
def f_X4_turnAxes (g0 : Nat) (g1 : Nat) (μ : Mem) : Option (Except Nat Unit × Mem) :=
  lt (((μ 20 g0 2) - (1 : Int32))) fun x_1 =>
  f_X4_turnAxes_L7 (fun (μ_11 : Mem) =>
   jn (fun (s_12 : Int32) =>
    jn (fun (s_14 : Int32) =>
     bP (f_X1_rowLength g0 μ_11) fun v_16 =>
     f_X4_turnAxes_L82 (fun (μ_58 : Mem) =>
      some (.ok (), μ_58)) g0 g1 s_12 s_14 v_16 1000 (0 : Int32) (0 : Int32) μ_11) fun j_15 =>
    if (2 : Int32) ≤ (μ_11 20 g0 2) then
    (gd (inb ((μ_11 20 g0 2) - (2 : Int32)) 3) <|
     j_15 (μ_11 21 g0 (((μ_11 20 g0 2) - (2 : Int32))).toNatClampNeg))
    else
    j_15 (1 : Int32)) fun j_13 =>
   if (3 : Int32) ≤ (μ_11 20 g0 2) then
   (gd (inb (0 : Int32) 3) <|
    j_13 (μ_11 21 g0 ((0 : Int32)).toNatClampNeg))
   else
   j_13 (1 : Int32)) g0 g1 1000 x_1 μ
def f_X4_turnRows_L15 (κ : Mem → Option (Except Nat Unit × Mem)) (g_5 : Nat) (g_6 : Nat) (c2_7 : Int32) : Nat → Int32 → Int32 → Mem → Option (Except Nat Unit × Mem)
  | 0, _, _, _ => none
  | n + 1, a3_8, a4_9, μ_10 =>
    if (μ_10 20 g_6 3) ≤ a4_9 then
    (κ  μ_10)
    else
    jn (fun (a3_11 : Int32) =>
     gd (inb (((a3_11 + c2_7) - (1 : Int32)) - (a4_9 - a3_11)) 48) <|
     gd (inb a4_9 48) <|
     lt (sto μ_10 22 g_6 (a4_9).toNatClampNeg (μ_10 22 g_5 ((((a3_11 + c2_7) - (1 : Int32)) - (a4_9 - a3_11))).toNatClampNeg)) fun μ_13 =>
     lt (a4_9 + (1 : Int32)) fun x_14 =>
     f_X4_turnRows_L15 κ g_5 g_6 c2_7 n a3_11 x_14 μ_13) fun j_12 =>
    if a4_9 = (a3_8 + c2_7) then
    (j_12 a4_9)
    else
    j_12 a3_8
def f_X4_turnRows (g0 : Nat) (g1 : Nat) (μ : Mem) : Option (Except Nat Unit × Mem) :=
  bP (f_X1_rowLength g0 μ) fun v_1 =>
  bB (f_X1_shapeLike g1 g0 μ) (fun e_4 μ_3 => some (.error e_4, μ_3)) fun u_2 μ_3 =>
  f_X4_turnRows_L15 (fun (μ_16 : Mem) =>
   some (.ok (), μ_16)) g0 g1 v_1 1000 (0 : Int32) (0 : Int32) μ_3
def f_X4_ofOne (a0 : Int32) (g1 : Nat) (g2 : Nat) (μ : Mem) : Option (Except Nat Unit × Mem) :=
  if a0 = (44 : Int32) then
  (bB (f_X1_addAxis g2 (μ 20 g1 3) μ) (fun e_3 μ_2 => some (.error e_3, μ_2)) fun u_1 μ_2 =>
   gd (cpok (0 : Int32) (0 : Int32) (μ_2 20 g1 3) 48 48) <|
   lt (stf μ_2 22 g2 (va_cpy (μ_2 22 g1) (μ_2 22 g2) ((0 : Int32)).toNatClampNeg ((0 : Int32)).toNatClampNeg ((μ_2 20 g1 3)).toNatClampNeg)) fun μ_4 =>
   some (.ok (), μ_4))
  else
  if a0 = (105 : Int32) then
  (bB (f_X4_upTo g1 g2 μ) (fun e_7 μ_6 => some (.error e_7, μ_6)) fun u_5 μ_6 =>
   some (.ok (), μ_6))
  else
  if a0 = (114 : Int32) then
  (bB (f_X4_lengthsOf g1 g2 μ) (fun e_10 μ_9 => some (.error e_10, μ_9)) fun u_8 μ_9 =>
   some (.ok (), μ_9))
  else
  if a0 = (116 : Int32) then
  (bB (f_X4_turnAxes g1 g2 μ) (fun e_13 μ_12 => some (.error e_13, μ_12)) fun u_11 μ_12 =>
   some (.ok (), μ_12))
  else
  bB (f_X4_turnRows g1 g2 μ) (fun e_16 μ_15 => some (.error e_16, μ_15)) fun u_14 μ_15 =>
  some (.ok (), μ_15)
def f_X3_workAlone (a0 : Int32) (a1 : Int32) (μ : Mem) : Option (Except Nat Int32) :=
  if a0 = (45 : Int32) then
  (bT (f_X3_fit (-(a1).toInt64) μ) (fun e_2 => some (.error e_2)) fun v_1 =>
   some (.ok v_1))
  else
  if a0 = (124 : Int32) then
  (jn (fun (s_3 : Int64) =>
    bT (f_X3_fit s_3 μ) (fun e_6 => some (.error e_6)) fun v_5 =>
    some (.ok v_5)) fun j_4 =>
   if 0 ≤ a1 then
   (j_4 (a1).toInt64)
   else
   j_4 (-(a1).toInt64))
  else
  if a1 ≤ 0 then
  (if 0 ≤ a1 then
   (some (.ok (0 : Int32)))
   else
   some (.ok (-1 : Int32)))
  else
  some (.ok (1 : Int32))
def f_X3_eachOfOne_L7 (κ : Mem → Option (Except Nat Unit × Mem)) (c0_4 : Int32) (g_5 : Nat) (g_6 : Nat) : Nat → Int32 → Mem → Option (Except Nat Unit × Mem)
  | 0, _, _ => none
  | n + 1, a3_7, μ_8 =>
    if (μ_8 20 g_6 3) ≤ a3_7 then
    (κ  μ_8)
    else
    gd (inb a3_7 48) <|
    bT (f_X3_workAlone c0_4 (μ_8 22 g_5 (a3_7).toNatClampNeg) μ_8) (fun e_10 => some (.error e_10, μ_8)) fun v_9 =>
    gd (inb a3_7 48) <|
    lt (sto μ_8 22 g_6 (a3_7).toNatClampNeg v_9) fun μ_11 =>
    lt (a3_7 + (1 : Int32)) fun x_12 =>
    f_X3_eachOfOne_L7 κ c0_4 g_5 g_6 n x_12 μ_11
def f_X3_eachOfOne (a0 : Int32) (g1 : Nat) (g2 : Nat) (μ : Mem) : Option (Except Nat Unit × Mem) :=
  bB (f_X1_shapeLike g2 g1 μ) (fun e_3 μ_2 => some (.error e_3, μ_2)) fun u_1 μ_2 =>
  f_X3_eachOfOne_L7 (fun (μ_14 : Mem) =>
   some (.ok (), μ_14)) a0 g1 g2 1000 (0 : Int32) μ_2
def f_X0_putSpare  (μ : Mem) : Option (Unit × Mem) :=
  gd (inb ((μ 14 0 4) - (1 : Int32)) 8) <|
  lt ((μ 15 0 (((μ 14 0 4) - (1 : Int32))).toNatClampNeg).toNatClampNeg) fun g_1 =>
  gd (decide (g_1 < 18)) <|
  lt ((μ 14 0 3).toNatClampNeg) fun g_2 =>
  gd (decide (g_2 < 18)) <|
  gd (inb ((μ 14 0 4) - (1 : Int32)) 8) <|
  lt (sto μ 15 0 (((μ 14 0 4) - (1 : Int32))).toNatClampNeg (nI g_2)) fun μ_3 =>
  lt (sto μ_3 14 0 3 (nI g_1)) fun μ_4 =>
  lt (sto μ_4 14 0 6 ((μ_4 14 0 6) + (1 : Int32))) fun μ_5 =>
  some ((), μ_5)
def f_X0_workOnOne (a2 : Int32) (μ : Mem) : Option (Except Nat Unit × Mem) :=
  gd (inb a2 200) <|
  lt ((μ 7 0 (a2).toNatClampNeg)) fun x_1 =>
  gd (inb a2 200) <|
  lt ((μ 8 0 (a2).toNatClampNeg)) fun x_2 =>
  gd (inb ((μ 14 0 4) - (1 : Int32)) 8) <|
  lt ((μ 15 0 (((μ 14 0 4) - (1 : Int32))).toNatClampNeg).toNatClampNeg) fun g_3 =>
  gd (decide (g_3 < 18)) <|
  lt ((μ 14 0 3).toNatClampNeg) fun g_4 =>
  gd (decide (g_4 < 18)) <|
  bW (f_X1_restart g_4 μ) fun u_5 μ_6 =>
  jn (fun (μ_7 : Mem) =>
   bW (f_X0_putSpare μ_7) fun u_9 μ_10 =>
   some (.ok (), μ_10)) fun j_8 =>
  if x_2 = (47 : Int32) then
  (lt ((μ_6 14 0 3).toNatClampNeg) fun g_24 =>
   gd (decide (g_24 < 18)) <|
   bB (f_X3_reduce x_1 g_3 g_24 μ_6) (fun e_27 μ_26 => some (.error e_27, μ_26)) fun u_25 μ_26 =>
   j_8 μ_26)
  else
  if x_2 = (92 : Int32) then
  (lt ((μ_6 14 0 3).toNatClampNeg) fun g_20 =>
   gd (decide (g_20 < 18)) <|
   bB (f_X3_scan x_1 g_3 g_20 μ_6) (fun e_23 μ_22 => some (.error e_23, μ_22)) fun u_21 μ_22 =>
   j_8 μ_22)
  else
  bP (f_J0_indexOf_0f7a4 1 x_1 μ_6) fun v_11 =>
  if v_11 < 0 then
  (lt ((μ_6 14 0 3).toNatClampNeg) fun g_12 =>
   gd (decide (g_12 < 18)) <|
   bB (f_X3_eachOfOne x_1 g_3 g_12 μ_6) (fun e_15 μ_14 => some (.error e_15, μ_14)) fun u_13 μ_14 =>
   j_8 μ_14)
  else
  lt ((μ_6 14 0 3).toNatClampNeg) fun g_16 =>
  gd (decide (g_16 < 18)) <|
  bB (f_X4_ofOne x_1 g_3 g_16 μ_6) (fun e_19 μ_18 => some (.error e_19, μ_18)) fun u_17 μ_18 =>
  j_8 μ_18
def f_X2_has (a1 : Int32) (μ : Mem) : Option (Int32) :=
  jn (fun (_ : Unit) =>
   some (0 : Int32)) fun j_1 =>
  if a1 < 0 then
  (j_1 ())
  else
  if (8 : Int32) ≤ a1 then
  (j_1 ())
  else
  gd (inb a1 8) <|
  if (μ 13 0 (a1).toNatClampNeg) = 0 then
  (j_1 ())
  else
  some (1 : Int32)
def f_X2_find (a1 : Int32) (μ : Mem) : Option (Except Nat Nat) :=
  bP (f_X2_has a1 μ) fun v_1 =>
  if v_1 = 0 then
  (some (.error 6))
  else
  gd (inb a1 8) <|
  lt ((a1).toNatClampNeg) fun g_2 =>
  gd (decide (g_2 < 18)) <|
  some (.ok g_2)
def f_X1_copy (g0 : Nat) (g1 : Nat) (μ : Mem) : Option (Except Nat Unit × Mem) :=
  bB (f_X1_shapeLike g0 g1 μ) (fun e_3 μ_2 => some (.error e_3, μ_2)) fun u_1 μ_2 =>
  gd (cpok (0 : Int32) (0 : Int32) (μ_2 20 g0 3) 48 48) <|
  lt (stf μ_2 22 g0 (va_cpy (μ_2 22 g1) (μ_2 22 g0) ((0 : Int32)).toNatClampNeg ((0 : Int32)).toNatClampNeg ((μ_2 20 g0 3)).toNatClampNeg)) fun μ_4 =>
  some (.ok (), μ_4)
def f_X0_pushNumbers (a2 : Int32) (μ : Mem) : Option (Except Nat Unit × Mem) :=
  gd (inb a2 200) <|
  lt ((μ 6 0 (a2).toNatClampNeg)) fun x_1 =>
  gd (inb (μ 14 0 4) 8) <|
  lt ((μ 15 0 ((μ 14 0 4)).toNatClampNeg).toNatClampNeg) fun g_2 =>
  gd (decide (g_2 < 18)) <|
  bW (f_X1_restart g_2 μ) fun u_3 μ_4 =>
  jn (fun (μ_5 : Mem) =>
   gd (inb a2 200) <|
   gd (cpok (μ_5 5 0 (a2).toNatClampNeg) (0 : Int32) x_1 200 48) <|
   lt (stf μ_5 22 g_2 (va_cpy (μ_5 10 0) (μ_5 22 g_2) ((μ_5 5 0 (a2).toNatClampNeg)).toNatClampNeg ((0 : Int32)).toNatClampNeg (x_1).toNatClampNeg)) fun μ_7 =>
   lt (sto μ_7 14 0 4 ((μ_7 14 0 4) + (1 : Int32))) fun μ_8 =>
   some (.ok (), μ_8)) fun j_6 =>
  if x_1 ≤ (1 : Int32) then
  (j_6 μ_4)
  else
  bB (f_X1_addAxis g_2 x_1 μ_4) (fun e_11 μ_10 => some (.error e_11, μ_10)) fun u_9 μ_10 =>
  j_6 μ_10
def f_X0_endsTerm (a2 : Int32) (μ : Mem) : Option (Except Nat Int32 × Mem) :=
  gd (inb a2 200) <|
  jn (fun (μ_1 : Mem) =>
   bB (f_X0_pushNumbers a2 μ_1) (fun e_5 μ_4 => some (.error e_5, μ_4)) fun u_3 μ_4 =>
   some (.ok (1 : Int32), μ_4)) fun j_2 =>
  if (μ 4 0 (a2).toNatClampNeg) = (1 : Int32) then
  (gd (inb (μ 14 0 4) 8) <|
   lt ((μ 15 0 ((μ 14 0 4)).toNatClampNeg).toNatClampNeg) fun g_6 =>
   gd (decide (g_6 < 18)) <|
   gd (inb a2 200) <|
   bT (f_X2_find (μ 5 0 (a2).toNatClampNeg) μ) (fun e_8 => some (.error e_8, μ)) fun v_7 =>
   gd (decide (v_7 < 18)) <|
   bB (f_X1_copy g_6 v_7 μ) (fun e_11 μ_10 => some (.error e_11, μ_10)) fun u_9 μ_10 =>
   lt (sto μ_10 14 0 4 ((μ_10 14 0 4) + (1 : Int32))) fun μ_12 =>
   some (.ok (1 : Int32), μ_12))
  else
  if (μ 4 0 (a2).toNatClampNeg) = (2 : Int32) then
  (lt (sto μ 14 0 5 ((μ 14 0 5) - (1 : Int32))) fun μ_13 =>
   some (.ok (1 : Int32), μ_13))
  else
  if (μ 4 0 (a2).toNatClampNeg) = (3 : Int32) then
  (lt (sto μ 14 0 5 ((μ 14 0 5) + (1 : Int32))) fun μ_14 =>
   gd (inb (μ_14 14 0 5) 7) <|
   lt (sto μ_14 16 0 ((μ_14 14 0 5)).toNatClampNeg (-1 : Int32)) fun μ_15 =>
   some (.ok (0 : Int32), μ_15))
  else
  if (μ 4 0 (a2).toNatClampNeg) = (5 : Int32) then
  (gd (inb (μ 14 0 5) 7) <|
   lt (sto μ 16 0 ((μ 14 0 5)).toNatClampNeg a2) fun μ_16 =>
   some (.ok (0 : Int32), μ_16))
  else
  j_2 μ
def f_X1_isScalar (g0 : Nat) (μ : Mem) : Option (Int32) :=
  if (μ 20 g0 2) = 0 then
  (some (1 : Int32))
  else
  some (0 : Int32)
def f_X1_span_L5 (κ : Int32 → Option (Int32)) (g_1 : Nat) (c2_2 : Int32) (μ_5 : Mem) : Nat → Int32 → Int32 → Option (Int32)
  | 0, _, _ => none
  | n + 1, a3_3, a4_4 =>
    if c2_2 ≤ a4_4 then
    (κ a3_3)
    else
    gd (inb a4_4 3) <|
    lt ((a3_3 * (μ_5 21 g_1 (a4_4).toNatClampNeg))) fun x_6 =>
    lt (a4_4 + (1 : Int32)) fun x_7 =>
    f_X1_span_L5 κ g_1 c2_2 μ_5 n x_6 x_7
def f_X1_span (g0 : Nat) (a1 : Int32) (a2 : Int32) (μ : Mem) : Option (Int32) :=
  f_X1_span_L5 (fun (a3_9 : Int32) =>
   some a3_9) g0 a2 μ 1000 (1 : Int32) a1
def f_X3_inner_L122 (κ : Mem → Option (Except Nat Unit × Mem)) (c0_26 : Int32) (c1_27 : Int32) (g_28 : Nat) (g_29 : Nat) (g_30 : Nat) (k_31 : Nat) (i_32 : Nat) (c6_33 : Int32) (c7_34 : Int32) (c8_35 : Int32) (c9_36 : Int32) (c10_37 : Int32) : Nat → Int32 → Mem → Option (Except Nat Unit × Mem)
  | 0, _, _ => none
  | n + 1, a11_38, μ_39 =>
    if c6_33 ≤ a11_38 then
    (κ  μ_39)
    else
    gd (inb ((c8_35 * c6_33) + a11_38) 48) <|
    gd (inb ((a11_38 * c7_34) + c9_36) 48) <|
    bT (f_X3_work c1_27 (μ_39 22 g_28 (((c8_35 * c6_33) + a11_38)).toNatClampNeg) (μ_39 22 g_29 (((a11_38 * c7_34) + c9_36)).toNatClampNeg) μ_39) (fun e_41 => some (.error e_41, μ_39)) fun v_40 =>
    gd (inb a11_38 48) <|
    lt (sto μ_39 k_31 i_32 (a11_38).toNatClampNeg v_40) fun μ_42 =>
    lt (a11_38 + (1 : Int32)) fun x_43 =>
    f_X3_inner_L122 κ c0_26 c1_27 g_28 g_29 g_30 k_31 i_32 c6_33 c7_34 c8_35 c9_36 c10_37 n x_43 μ_42
def f_X3_inner_L109 (κ : Mem → Option (Except Nat Unit × Mem)) (c0_13 : Int32) (c1_14 : Int32) (g_15 : Nat) (g_16 : Nat) (g_17 : Nat) (k_18 : Nat) (i_19 : Nat) (c6_20 : Int32) (c7_21 : Int32) : Nat → Int32 → Int32 → Int32 → Mem → Option (Except Nat Unit × Mem)
  | 0, _, _, _, _ => none
  | n + 1, a8_22, a9_23, a10_24, μ_25 =>
    if (μ_25 20 g_17 3) ≤ a10_24 then
    (κ  μ_25)
    else
    f_X3_inner_L122 (fun (μ_45 : Mem) =>
     bT (f_X3_fold c0_13 k_18 i_19 (0 : Int32) c6_20 μ_45) (fun e_47 => some (.error e_47, μ_45)) fun v_46 =>
     gd (inb a10_24 48) <|
     lt (sto μ_45 22 g_17 (a10_24).toNatClampNeg v_46) fun μ_48 =>
     lt (a9_23 + (1 : Int32)) fun x_49 =>
     jn (fun (a8_50 : Int32) (a9_51 : Int32) =>
      lt (a10_24 + (1 : Int32)) fun x_53 =>
      f_X3_inner_L109 κ c0_13 c1_14 g_15 g_16 g_17 k_18 i_19 c6_20 c7_21 n a8_50 a9_51 x_53 μ_48) fun j_52 =>
     if x_49 = c7_21 then
     (lt (a8_22 + (1 : Int32)) fun x_54 =>
      j_52 x_54 (0 : Int32))
     else
     j_52 a8_22 x_49) c0_13 c1_14 g_15 g_16 g_17 k_18 i_19 c6_20 c7_21 a8_22 a9_23 a10_24 1000 (0 : Int32) μ_25
def f_X3_inner (a0 : Int32) (a1 : Int32) (g2 : Nat) (g3 : Nat) (g4 : Nat) (k5 : Nat) (i5 : Nat) (μ : Mem) : Option (Except Nat Unit × Mem) :=
  bP (f_X1_isScalar g2 μ) fun v_1 =>
  if v_1 = 0 then
  (bP (f_X1_isScalar g3 μ) fun v_2 =>
   if v_2 = 0 then
   (if ((μ 20 g2 2) + (μ 20 g3 2)) ≤ (5 : Int32) then
    (bP (f_X1_rowLength g2 μ) fun v_3 =>
     gd (inb (0 : Int32) 3) <|
     if v_3 = (μ 21 g3 ((0 : Int32)).toNatClampNeg) then
     (bB (f_X1_addAxesOf g4 g2 (0 : Int32) ((μ 20 g2 2) - (1 : Int32)) μ) (fun e_6 μ_5 => some (.error e_6, μ_5)) fun u_4 μ_5 =>
      bB (f_X1_addAxesOf g4 g3 (1 : Int32) (μ_5 20 g3 2) μ_5) (fun e_9 μ_8 => some (.error e_9, μ_8)) fun u_7 μ_8 =>
      bT (f_X1_endAxes g4 μ_8) (fun e_11 => some (.error e_11, μ_8)) fun u_10 =>
      bP (f_X1_span g3 (1 : Int32) (μ_8 20 g3 2) μ_8) fun v_12 =>
      f_X3_inner_L109 (fun (μ_56 : Mem) =>
       some (.ok (), μ_56)) a0 a1 g2 g3 g4 k5 i5 v_3 v_12 1000 (0 : Int32) (0 : Int32) (0 : Int32) μ_8)
     else
     some (.error 3, μ))
    else
    some (.error 4, μ))
   else
   some (.error 4, μ))
  else
  some (.error 4, μ)
def f_X3_outer_L63 (κ : Int32 → Mem → Option (Except Nat Unit × Mem)) (c0_16 : Int32) (g_17 : Nat) (g_18 : Nat) (g_19 : Nat) (c5_21 : Int32) : Nat → Int32 → Int32 → Mem → Option (Except Nat Unit × Mem)
  | 0, _, _, _ => none
  | n + 1, a4_20, a6_22, μ_23 =>
    if (μ_23 20 g_18 3) ≤ a6_22 then
    (κ a4_20 μ_23)
    else
    gd (inb c5_21 48) <|
    gd (inb a6_22 48) <|
    bT (f_X3_work c0_16 (μ_23 22 g_17 (c5_21).toNatClampNeg) (μ_23 22 g_18 (a6_22).toNatClampNeg) μ_23) (fun e_25 => some (.error e_25, μ_23)) fun v_24 =>
    gd (inb a4_20 48) <|
    lt (sto μ_23 22 g_19 (a4_20).toNatClampNeg v_24) fun μ_26 =>
    lt (a4_20 + (1 : Int32)) fun x_27 =>
    lt (a6_22 + (1 : Int32)) fun x_28 =>
    f_X3_outer_L63 κ c0_16 g_17 g_18 g_19 c5_21 n x_27 x_28 μ_26
def f_X3_outer_L51 (κ : Mem → Option (Except Nat Unit × Mem)) (c0_9 : Int32) (g_10 : Nat) (g_11 : Nat) (g_12 : Nat) : Nat → Int32 → Int32 → Mem → Option (Except Nat Unit × Mem)
  | 0, _, _, _ => none
  | n + 1, a4_13, a5_14, μ_15 =>
    if (μ_15 20 g_10 3) ≤ a5_14 then
    (κ  μ_15)
    else
    f_X3_outer_L63 (fun (a4_31 : Int32) (μ_32 : Mem) =>
     lt (a5_14 + (1 : Int32)) fun x_33 =>
     f_X3_outer_L51 κ c0_9 g_10 g_11 g_12 n a4_31 x_33 μ_32) c0_9 g_10 g_11 g_12 a5_14 1000 a4_13 (0 : Int32) μ_15
def f_X3_outer (a0 : Int32) (g1 : Nat) (g2 : Nat) (g3 : Nat) (μ : Mem) : Option (Except Nat Unit × Mem) :=
  if ((μ 20 g1 2) + (μ 20 g2 2)) ≤ (3 : Int32) then
  (bB (f_X1_addAxesOf g3 g1 (0 : Int32) (μ 20 g1 2) μ) (fun e_3 μ_2 => some (.error e_3, μ_2)) fun u_1 μ_2 =>
   bB (f_X1_addAxesOf g3 g2 (0 : Int32) (μ_2 20 g2 2) μ_2) (fun e_6 μ_5 => some (.error e_6, μ_5)) fun u_4 μ_5 =>
   bT (f_X1_endAxes g3 μ_5) (fun e_8 => some (.error e_8, μ_5)) fun u_7 =>
   f_X3_outer_L51 (fun (μ_35 : Mem) =>
    some (.ok (), μ_35)) a0 g1 g2 g3 1000 (0 : Int32) (0 : Int32) μ_5)
  else
  some (.error 4, μ)
def f_X4_reshape_L26 (κ : Unit → Option (Except Nat Unit × Mem)) (g_1 : Nat) (g_2 : Nat) (g_3 : Nat) (μ_5 : Mem) : Nat → Int32 → Option (Except Nat Unit × Mem)
  | 0, _ => none
  | n + 1, a3_4 =>
    if (μ_5 20 g_1 3) ≤ a3_4 then
    (κ ())
    else
    gd (inb a3_4 48) <|
    if 0 ≤ (μ_5 22 g_1 (a3_4).toNatClampNeg) then
    (lt (a3_4 + (1 : Int32)) fun x_6 =>
     f_X4_reshape_L26 κ g_1 g_2 g_3 μ_5 n x_6)
    else
    some (.error 2, μ_5)
def f_X4_reshape_L59 (κ : Mem → Option (Except Nat Unit × Mem)) (g_7 : Nat) (g_8 : Nat) (g_9 : Nat) : Nat → Int32 → Mem → Option (Except Nat Unit × Mem)
  | 0, _, _ => none
  | n + 1, a3_10, μ_11 =>
    if (μ_11 20 g_7 3) ≤ a3_10 then
    (κ  μ_11)
    else
    gd (inb a3_10 48) <|
    bB (f_X1_addAxis g_9 (μ_11 22 g_7 (a3_10).toNatClampNeg) μ_11) (fun e_14 μ_13 => some (.error e_14, μ_13)) fun u_12 μ_13 =>
    lt (a3_10 + (1 : Int32)) fun x_15 =>
    f_X4_reshape_L59 κ g_7 g_8 g_9 n x_15 μ_13
def f_X4_reshape_L114 (κ : Mem → Option (Except Nat Unit × Mem)) (g_21 : Nat) (g_22 : Nat) : Nat → Int32 → Int32 → Mem → Option (Except Nat Unit × Mem)
  | 0, _, _, _ => none
  | n + 1, a3_23, a4_24, μ_25 =>
    if (μ_25 20 g_22 3) ≤ a4_24 then
    (κ  μ_25)
    else
    gd (inb a3_23 48) <|
    gd (inb a4_24 48) <|
    lt (sto μ_25 22 g_22 (a4_24).toNatClampNeg (μ_25 22 g_21 (a3_23).toNatClampNeg)) fun μ_26 =>
    jn (fun (s_27 : Int32) =>
     lt (a4_24 + (1 : Int32)) fun x_29 =>
     f_X4_reshape_L114 κ g_21 g_22 n s_27 x_29 μ_26) fun j_28 =>
    if (a3_23 + (1 : Int32)) = (μ_26 20 g_21 3) then
    (j_28 (0 : Int32))
    else
    j_28 (a3_23 + (1 : Int32))
def f_X4_reshape (g0 : Nat) (g1 : Nat) (g2 : Nat) (μ : Mem) : Option (Except Nat Unit × Mem) :=
  if (1 : Int32) < (μ 20 g0 2) then
  (some (.error 4, μ))
  else
  if (μ 20 g0 3) ≤ (3 : Int32) then
  (f_X4_reshape_L26 (fun (_ : Unit) =>
    f_X4_reshape_L59 (fun (μ_17 : Mem) =>
     bT (f_X1_endAxes g2 μ_17) (fun e_19 => some (.error e_19, μ_17)) fun u_18 =>
     jn (fun (_ : Unit) =>
      f_X4_reshape_L114 (fun (μ_31 : Mem) =>
       some (.ok (), μ_31)) g1 g2 1000 (0 : Int32) (0 : Int32) μ_17) fun j_20 =>
     if (μ_17 20 g1 3) = 0 then
     (if (μ_17 20 g2 3) ≤ 0 then
      (j_20 ())
      else
      some (.error 3, μ_17))
     else
     j_20 ()) g0 g1 g2 1000 (0 : Int32) μ) g0 g1 g2 μ 1000 (0 : Int32))
  else
  some (.error 4, μ)
def f_X4_needJoinable_L45 (κ : Unit → Option (Except Nat Unit)) (g_3 : Nat) (g_4 : Nat) (c2_5 : Int32) (μ_7 : Mem) : Nat → Int32 → Option (Except Nat Unit)
  | 0, _ => none
  | n + 1, a3_6 =>
    if (c2_5 - (1 : Int32)) ≤ a3_6 then
    (κ ())
    else
    gd (inb a3_6 3) <|
    gd (inb a3_6 3) <|
    if (μ_7 21 g_3 (a3_6).toNatClampNeg) = (μ_7 21 g_4 (a3_6).toNatClampNeg) then
    (lt (a3_6 + (1 : Int32)) fun x_8 =>
     f_X4_needJoinable_L45 κ g_3 g_4 c2_5 μ_7 n x_8)
    else
    some (.error 3)
def f_X4_needJoinable (g0 : Nat) (g1 : Nat) (a2 : Int32) (μ : Mem) : Option (Except Nat Unit) :=
  bP (f_X1_isScalar g0 μ) fun v_1 =>
  if v_1 = 0 then
  (bP (f_X1_isScalar g1 μ) fun v_2 =>
   if v_2 = 0 then
   (if (μ 20 g0 2) < (a2 - (1 : Int32)) then
    (some (.error 4))
    else
    if (a2 - (1 : Int32)) ≤ (μ 20 g1 2) then
    (f_X4_needJoinable_L45 (fun (_ : Unit) =>
      some (.ok ())) g0 g1 a2 μ 1000 (0 : Int32))
    else
    some (.error 4))
   else
   some (.ok ()))
  else
  some (.ok ())
def f_X1_cellFor (g0 : Nat) (a1 : Int32) (μ : Mem) : Option (Int32) :=
  if (μ 20 g0 2) = 0 then
  (gd (inb (0 : Int32) 48) <|
   some (μ 22 g0 ((0 : Int32)).toNatClampNeg))
  else
  gd (inb a1 48) <|
  some (μ 22 g0 (a1).toNatClampNeg)
def f_X4_join_L108 (κ : Mem → Option (Except Nat Unit × Mem)) (g_18 : Nat) (g_19 : Nat) (g_20 : Nat) (c5_21 : Int32) (c6_22 : Int32) : Nat → Int32 → Int32 → Int32 → Int32 → Mem → Option (Except Nat Unit × Mem)
  | 0, _, _, _, _, _ => none
  | n + 1, a7_23, a8_24, a9_25, a10_26, μ_27 =>
    if (μ_27 20 g_20 3) ≤ a10_26 then
    (κ  μ_27)
    else
    jn (fun (a7_28 : Int32) (a8_29 : Int32) (μ_30 : Mem) =>
     jn (fun (s_32 : Int32) =>
      lt (a10_26 + (1 : Int32)) fun x_34 =>
      f_X4_join_L108 κ g_18 g_19 g_20 c5_21 c6_22 n a7_28 a8_29 s_32 x_34 μ_30) fun j_33 =>
     if (a9_25 + (1 : Int32)) = (c5_21 + c6_22) then
     (j_33 (0 : Int32))
     else
     j_33 (a9_25 + (1 : Int32))) fun j_31 =>
    if c5_21 ≤ a9_25 then
    (bP (f_X1_cellFor g_19 a8_24 μ_27) fun v_35 =>
     gd (inb a10_26 48) <|
     lt (sto μ_27 22 g_20 (a10_26).toNatClampNeg v_35) fun μ_36 =>
     lt (a8_24 + (1 : Int32)) fun x_37 =>
     j_31 a7_23 x_37 μ_36)
    else
    bP (f_X1_cellFor g_18 a7_23 μ_27) fun v_38 =>
    gd (inb a10_26 48) <|
    lt (sto μ_27 22 g_20 (a10_26).toNatClampNeg v_38) fun μ_39 =>
    lt (a7_23 + (1 : Int32)) fun x_40 =>
    j_31 x_40 a8_24 μ_39
def f_X4_join (g0 : Nat) (g1 : Nat) (g2 : Nat) (μ : Mem) : Option (Except Nat Unit × Mem) :=
  lt ((if (1 : Int32) < (if (μ 20 g0 2) < (μ 20 g1 2) then (μ 20 g1 2) else (μ 20 g0 2)) then (if (μ 20 g0 2) < (μ 20 g1 2) then (μ 20 g1 2) else (μ 20 g0 2)) else (1 : Int32))) fun x_1 =>
  jn (fun (g_2 : Nat) =>
   bT (f_X4_needJoinable g0 g1 x_1 μ) (fun e_5 => some (.error e_5, μ)) fun u_4 =>
   jn (fun (s_6 : Int32) =>
    jn (fun (s_8 : Int32) =>
     bB (f_X1_addAxesOf g2 g_2 (0 : Int32) (x_1 - (1 : Int32)) μ) (fun e_12 μ_11 => some (.error e_12, μ_11)) fun u_10 μ_11 =>
     bB (f_X1_addAxis g2 (s_6 + s_8) μ_11) (fun e_15 μ_14 => some (.error e_15, μ_14)) fun u_13 μ_14 =>
     bT (f_X1_endAxes g2 μ_14) (fun e_17 => some (.error e_17, μ_14)) fun u_16 =>
     f_X4_join_L108 (fun (μ_42 : Mem) =>
      some (.ok (), μ_42)) g0 g1 g2 s_6 s_8 1000 (0 : Int32) (0 : Int32) (0 : Int32) (0 : Int32) μ_14) fun j_9 =>
    if (μ 20 g1 2) = x_1 then
    (bP (f_X1_rowLength g1 μ) fun v_43 =>
     j_9 v_43)
    else
    j_9 (1 : Int32)) fun j_7 =>
   if (μ 20 g0 2) = x_1 then
   (bP (f_X1_rowLength g0 μ) fun v_44 =>
    j_7 v_44)
   else
   j_7 (1 : Int32)) fun j_3 =>
  if (μ 20 g0 2) = x_1 then
  (j_3 g0)
  else
  j_3 g1
def f_X4_pick_L65 (κ : Mem → Option (Except Nat Unit × Mem)) (g_11 : Nat) (g_12 : Nat) (g_13 : Nat) (c3_14 : Int32) : Nat → Int32 → Mem → Option (Except Nat Unit × Mem)
  | 0, _, _ => none
  | n + 1, a4_15, μ_16 =>
    if (μ_16 20 g_11 3) ≤ a4_15 then
    (κ  μ_16)
    else
    gd (inb a4_15 48) <|
    lt ((μ_16 22 g_11 (a4_15).toNatClampNeg)) fun x_17 =>
    if x_17 < 0 then
    (some (.error 5, μ_16))
    else
    gd (inb (0 : Int32) 3) <|
    if x_17 < (μ_16 21 g_12 ((0 : Int32)).toNatClampNeg) then
    (gd (cpok (x_17 * c3_14) (a4_15 * c3_14) c3_14 48 48) <|
     lt (stf μ_16 22 g_13 (va_cpy (μ_16 22 g_12) (μ_16 22 g_13) ((x_17 * c3_14)).toNatClampNeg ((a4_15 * c3_14)).toNatClampNeg (c3_14).toNatClampNeg)) fun μ_18 =>
     lt (a4_15 + (1 : Int32)) fun x_19 =>
     f_X4_pick_L65 κ g_11 g_12 g_13 c3_14 n x_19 μ_18)
    else
    some (.error 5, μ_16)
def f_X4_pick (g0 : Nat) (g1 : Nat) (g2 : Nat) (μ : Mem) : Option (Except Nat Unit × Mem) :=
  bP (f_X1_isScalar g1 μ) fun v_1 =>
  if v_1 = 0 then
  (if ((μ 20 g0 2) + (μ 20 g1 2)) ≤ (4 : Int32) then
   (bB (f_X1_addAxesOf g2 g0 (0 : Int32) (μ 20 g0 2) μ) (fun e_4 μ_3 => some (.error e_4, μ_3)) fun u_2 μ_3 =>
    bB (f_X1_addAxesOf g2 g1 (1 : Int32) (μ_3 20 g1 2) μ_3) (fun e_7 μ_6 => some (.error e_7, μ_6)) fun u_5 μ_6 =>
    bT (f_X1_endAxes g2 μ_6) (fun e_9 => some (.error e_9, μ_6)) fun u_8 =>
    bP (f_X1_span g1 (1 : Int32) (μ_6 20 g1 2) μ_6) fun v_10 =>
    f_X4_pick_L65 (fun (μ_21 : Mem) =>
     some (.ok (), μ_21)) g0 g1 g2 v_10 1000 (0 : Int32) μ_6)
   else
   some (.error 4, μ))
  else
  some (.error 4, μ)
def f_X4_ofTwo (a0 : Int32) (g1 : Nat) (g2 : Nat) (g3 : Nat) (μ : Mem) : Option (Except Nat Unit × Mem) :=
  if a0 = (44 : Int32) then
  (bB (f_X4_join g1 g2 g3 μ) (fun e_3 μ_2 => some (.error e_3, μ_2)) fun u_1 μ_2 =>
   some (.ok (), μ_2))
  else
  if a0 = (114 : Int32) then
  (bB (f_X4_reshape g1 g2 g3 μ) (fun e_6 μ_5 => some (.error e_6, μ_5)) fun u_4 μ_5 =>
   some (.ok (), μ_5))
  else
  bB (f_X4_pick g1 g2 g3 μ) (fun e_9 μ_8 => some (.error e_9, μ_8)) fun u_7 μ_8 =>
  some (.ok (), μ_8)
def f_X3_needSameShape_L21 (κ : Unit → Option (Except Nat Unit)) (g_1 : Nat) (g_2 : Nat) (μ_4 : Mem) : Nat → Int32 → Option (Except Nat Unit)
  | 0, _ => none
  | n + 1, a2_3 =>
    if (μ_4 20 g_1 2) ≤ a2_3 then
    (κ ())
    else
    gd (inb a2_3 3) <|
    gd (inb a2_3 3) <|
    if (μ_4 21 g_1 (a2_3).toNatClampNeg) = (μ_4 21 g_2 (a2_3).toNatClampNeg) then
    (lt (a2_3 + (1 : Int32)) fun x_5 =>
     f_X3_needSameShape_L21 κ g_1 g_2 μ_4 n x_5)
    else
    some (.error 3)
def f_X3_needSameShape (g0 : Nat) (g1 : Nat) (μ : Mem) : Option (Except Nat Unit) :=
  if (μ 20 g0 2) = (μ 20 g1 2) then
  (f_X3_needSameShape_L21 (fun (_ : Unit) =>
    some (.ok ())) g0 g1 μ 1000 (0 : Int32))
  else
  some (.error 4)
def f_X3_each_L38 (κ : Mem → Option (Except Nat Unit × Mem)) (c0_9 : Int32) (g_10 : Nat) (g_11 : Nat) (g_12 : Nat) : Nat → Int32 → Mem → Option (Except Nat Unit × Mem)
  | 0, _, _ => none
  | n + 1, a4_13, μ_14 =>
    if (μ_14 20 g_12 3) ≤ a4_13 then
    (κ  μ_14)
    else
    bP (f_X1_cellFor g_10 a4_13 μ_14) fun v_15 =>
    bP (f_X1_cellFor g_11 a4_13 μ_14) fun v_16 =>
    bT (f_X3_work c0_9 v_15 v_16 μ_14) (fun e_18 => some (.error e_18, μ_14)) fun v_17 =>
    gd (inb a4_13 48) <|
    lt (sto μ_14 22 g_12 (a4_13).toNatClampNeg v_17) fun μ_19 =>
    lt (a4_13 + (1 : Int32)) fun x_20 =>
    f_X3_each_L38 κ c0_9 g_10 g_11 g_12 n x_20 μ_19
def f_X3_each (a0 : Int32) (g1 : Nat) (g2 : Nat) (g3 : Nat) (μ : Mem) : Option (Except Nat Unit × Mem) :=
  bP (f_X1_isScalar g1 μ) fun v_1 =>
  jn (fun (_ : Unit) =>
   bP (f_X1_isScalar g1 μ) fun v_3 =>
   jn (fun (g_4 : Nat) =>
    bB (f_X1_shapeLike g3 g_4 μ) (fun e_8 μ_7 => some (.error e_8, μ_7)) fun u_6 μ_7 =>
    f_X3_each_L38 (fun (μ_22 : Mem) =>
     some (.ok (), μ_22)) a0 g1 g2 g3 1000 (0 : Int32) μ_7) fun j_5 =>
   if v_3 = 0 then
   (j_5 g1)
   else
   j_5 g2) fun j_2 =>
  if v_1 = 0 then
  (bP (f_X1_isScalar g2 μ) fun v_23 =>
   if v_23 = 0 then
   (bT (f_X3_needSameShape g1 g2 μ) (fun e_25 => some (.error e_25, μ)) fun u_24 =>
    j_2 ())
   else
   j_2 ())
  else
  j_2 ()
def f_X0_workOnTwo (a2 : Int32) (μ : Mem) : Option (Except Nat Unit × Mem) :=
  gd (inb a2 200) <|
  lt ((μ 7 0 (a2).toNatClampNeg)) fun x_1 =>
  gd (inb a2 200) <|
  lt ((μ 8 0 (a2).toNatClampNeg)) fun x_2 =>
  gd (inb ((μ 14 0 4) - (1 : Int32)) 8) <|
  lt ((μ 15 0 (((μ 14 0 4) - (1 : Int32))).toNatClampNeg).toNatClampNeg) fun g_3 =>
  gd (decide (g_3 < 18)) <|
  gd (inb ((μ 14 0 4) - (2 : Int32)) 8) <|
  lt ((μ 15 0 (((μ 14 0 4) - (2 : Int32))).toNatClampNeg).toNatClampNeg) fun g_4 =>
  gd (decide (g_4 < 18)) <|
  lt ((μ 14 0 3).toNatClampNeg) fun g_5 =>
  gd (decide (g_5 < 18)) <|
  bW (f_X1_restart g_5 μ) fun u_6 μ_7 =>
  jn (fun (μ_8 : Mem) =>
   lt (sto μ_8 14 0 4 ((μ_8 14 0 4) - (1 : Int32))) fun μ_10 =>
   bW (f_X0_putSpare μ_10) fun u_11 μ_12 =>
   some (.ok (), μ_12)) fun j_9 =>
  if x_2 = (46 : Int32) then
  (gd (inb a2 200) <|
   lt ((μ_7 14 0 3).toNatClampNeg) fun g_26 =>
   gd (decide (g_26 < 18)) <|
   bB (f_X3_inner x_1 (μ_7 9 0 (a2).toNatClampNeg) g_3 g_4 g_26 17 0 μ_7) (fun e_29 μ_28 => some (.error e_29, μ_28)) fun u_27 μ_28 =>
   j_9 μ_28)
  else
  if x_2 = (64 : Int32) then
  (lt ((μ_7 14 0 3).toNatClampNeg) fun g_22 =>
   gd (decide (g_22 < 18)) <|
   bB (f_X3_outer x_1 g_3 g_4 g_22 μ_7) (fun e_25 μ_24 => some (.error e_25, μ_24)) fun u_23 μ_24 =>
   j_9 μ_24)
  else
  bP (f_J0_indexOf_0f7a4 2 x_1 μ_7) fun v_13 =>
  if v_13 < 0 then
  (lt ((μ_7 14 0 3).toNatClampNeg) fun g_14 =>
   gd (decide (g_14 < 18)) <|
   bB (f_X3_each x_1 g_3 g_4 g_14 μ_7) (fun e_17 μ_16 => some (.error e_17, μ_16)) fun u_15 μ_16 =>
   j_9 μ_16)
  else
  lt ((μ_7 14 0 3).toNatClampNeg) fun g_18 =>
  gd (decide (g_18 < 18)) <|
  bB (f_X4_ofTwo x_1 g_3 g_4 g_18 μ_7) (fun e_21 μ_20 => some (.error e_21, μ_20)) fun u_19 μ_20 =>
  j_9 μ_20
def f_X0_evaluate_L29 (κ : Mem → Option (Except Nat Nat × Mem))  : Nat → Int32 → Mem → Option (Except Nat Nat × Mem)
  | 0, _, _ => none
  | n + 1, a3_6, μ_7 =>
    if a3_6 < 0 then
    (κ  μ_7)
    else
    gd (inb a3_6 200) <|
    jn (fun (μ_8 : Mem) =>
     lt (a3_6 + (-1 : Int32)) fun x_10 =>
     f_X0_evaluate_L29 κ n x_10 μ_8) fun j_9 =>
    if (μ_7 4 0 (a3_6).toNatClampNeg) = (4 : Int32) then
    (bB (f_X0_workOnOne a3_6 μ_7) (fun e_20 μ_19 => some (.error e_20, μ_19)) fun u_18 μ_19 =>
     j_9 μ_19)
    else
    bB (f_X0_endsTerm a3_6 μ_7) (fun e_13 μ_12 => some (.error e_13, μ_12)) fun v_11 μ_12 =>
    if v_11 = 0 then
    (j_9 μ_12)
    else
    gd (inb (μ_12 14 0 5) 7) <|
    if (μ_12 16 0 ((μ_12 14 0 5)).toNatClampNeg) = (-1 : Int32) then
    (j_9 μ_12)
    else
    gd (inb (μ_12 14 0 5) 7) <|
    bB (f_X0_workOnTwo (μ_12 16 0 ((μ_12 14 0 5)).toNatClampNeg) μ_12) (fun e_16 μ_15 => some (.error e_16, μ_15)) fun u_14 μ_15 =>
    gd (inb (μ_15 14 0 5) 7) <|
    lt (sto μ_15 16 0 ((μ_15 14 0 5)).toNatClampNeg (-1 : Int32)) fun μ_17 =>
    j_9 μ_17
def f_X0_evaluate  (μ : Mem) : Option (Except Nat Nat × Mem) :=
  lt (sto μ 14 0 4 (0 : Int32)) fun μ_1 =>
  lt (sto μ_1 14 0 5 (0 : Int32)) fun μ_2 =>
  lt (sto μ_2 14 0 6 (0 : Int32)) fun μ_3 =>
  gd (inb (0 : Int32) 7) <|
  lt (sto μ_3 16 0 ((0 : Int32)).toNatClampNeg (-1 : Int32)) fun μ_4 =>
  lt (((μ_4 1 0 8) - (1 : Int32))) fun x_5 =>
  f_X0_evaluate_L29 (fun (μ_22 : Mem) =>
   gd (inb (0 : Int32) 8) <|
   lt ((μ_22 15 0 ((0 : Int32)).toNatClampNeg).toNatClampNeg) fun g_23 =>
   gd (decide (g_23 < 18)) <|
   some (.ok g_23, μ_22))  1000 x_5 μ_4
def f_X2_put (a1 : Int32) (g2 : Nat) (μ : Mem) : Option (Except Nat Unit × Mem) :=
  gd (inb a1 8) <|
  lt ((a1).toNatClampNeg) fun g_1 =>
  gd (decide (g_1 < 18)) <|
  bB (f_X1_copy g_1 g2 μ) (fun e_4 μ_3 => some (.error e_4, μ_3)) fun u_2 μ_3 =>
  gd (inb a1 8) <|
  lt (sto μ_3 13 0 (a1).toNatClampNeg (vp_nar .boolean (1 : Int32))) fun μ_5 =>
  some (.ok (), μ_5)
def f_X6_codeAt (a1 : Int32) (μ : Mem) : Option (Int32) :=
  jn (fun (_ : Unit) =>
   some (0 : Int32)) fun j_1 =>
  if a1 < 0 then
  (j_1 ())
  else
  if (μ 2 0 1) ≤ a1 then
  (j_1 ())
  else
  gd (inb a1 200) <|
  gd (isc (μ 3 0 (a1).toNatClampNeg)) <|
  some (μ 3 0 (a1).toNatClampNeg)
def f_X5_skipBlanks_L2 (κ : Mem → Option (Unit × Mem))  : Nat → Int32 → Mem → Option (Unit × Mem)
  | 0, _, _ => none
  | n + 1, a1_1, μ_2 =>
    if (200 : Int32) ≤ a1_1 then
    (κ  μ_2)
    else
    bP (f_X6_codeAt (μ_2 1 0 11) μ_2) fun v_3 =>
    if v_3 = (32 : Int32) then
    (lt (sto μ_2 1 0 11 ((μ_2 1 0 11) + (1 : Int32))) fun μ_4 =>
     lt (a1_1 + (1 : Int32)) fun x_5 =>
     f_X5_skipBlanks_L2 κ n x_5 μ_4)
    else
    κ  μ_2
def f_X5_skipBlanks  (μ : Mem) : Option (Unit × Mem) :=
  f_X5_skipBlanks_L2 (fun (μ_7 : Mem) =>
   some ((), μ_7))  1000 (0 : Int32) μ
def f_X5_isName (a0 : Int32) (μ : Mem) : Option (Int32) :=
  jn (fun (_ : Unit) =>
   some (0 : Int32)) fun j_1 =>
  if a0 < (65 : Int32) then
  (j_1 ())
  else
  if (73 : Int32) ≤ a0 then
  (j_1 ())
  else
  some (1 : Int32)
def f_X5_readTarget  (μ : Mem) : Option (Unit × Mem) :=
  lt (sto μ 1 0 10 (-1 : Int32)) fun μ_1 =>
  bW (f_X5_skipBlanks μ_1) fun u_2 μ_3 =>
  lt ((μ_3 1 0 11)) fun x_4 =>
  bP (f_X6_codeAt (μ_3 1 0 11) μ_3) fun v_5 =>
  lt (sto μ_3 1 0 11 ((μ_3 1 0 11) + (1 : Int32))) fun μ_6 =>
  bW (f_X5_skipBlanks μ_6) fun u_7 μ_8 =>
  bP (f_X5_isName v_5 μ_8) fun v_9 =>
  jn (fun (μ_10 : Mem) =>
   lt (sto μ_10 1 0 11 x_4) fun μ_12 =>
   some ((), μ_12)) fun j_11 =>
  if v_9 = 0 then
  (j_11 μ_8)
  else
  bP (f_X6_codeAt (μ_8 1 0 11) μ_8) fun v_13 =>
  if v_13 = (58 : Int32) then
  (lt (sto μ_8 1 0 10 (v_5 - (65 : Int32))) fun μ_14 =>
   lt (sto μ_14 1 0 11 ((μ_14 1 0 11) + (1 : Int32))) fun μ_15 =>
   bW (f_X5_skipBlanks μ_15) fun u_16 μ_17 =>
   some ((), μ_17))
  else
  j_11 μ_8
def f_X5_isDigit (a0 : Int32) (μ : Mem) : Option (Int32) :=
  jn (fun (_ : Unit) =>
   some (0 : Int32)) fun j_1 =>
  if a0 < (48 : Int32) then
  (j_1 ())
  else
  if (57 : Int32) < a0 then
  (j_1 ())
  else
  some (1 : Int32)
def f_X5_readNumber_L40 (κ : Int32 → Int32 → Mem → Option (Int32 × Mem)) (c1_6 : Int32) : Nat → Int32 → Int32 → Mem → Option (Int32 × Mem)
  | 0, _, _, _ => none
  | n + 1, a2_7, a3_8, μ_9 =>
    if (9 : Int32) ≤ a3_8 then
    (κ a2_7 a3_8 μ_9)
    else
    bP (f_X6_codeAt (μ_9 1 0 11) μ_9) fun v_10 =>
    bP (f_X5_isDigit v_10 μ_9) fun v_11 =>
    if v_11 = 0 then
    (κ a2_7 a3_8 μ_9)
    else
    bP (f_X6_codeAt (μ_9 1 0 11) μ_9) fun v_12 =>
    lt ((((10 : Int32) * a2_7) + (v_12 - (48 : Int32)))) fun x_13 =>
    lt (sto μ_9 1 0 11 ((μ_9 1 0 11) + (1 : Int32))) fun μ_14 =>
    lt (a3_8 + (1 : Int32)) fun x_15 =>
    f_X5_readNumber_L40 κ c1_6 n x_13 x_15 μ_14
def f_X5_readNumber  (μ : Mem) : Option (Int32 × Mem) :=
  bP (f_X6_codeAt (μ 1 0 11) μ) fun v_1 =>
  jn (fun (s_2 : Int32) =>
   jn (fun (μ_4 : Mem) =>
    f_X5_readNumber_L40 (fun (a2_19 : Int32) (a3_20 : Int32) (μ_21 : Mem) =>
     jn (fun (s_22 : Int32) =>
      gd (inb (μ_21 1 0 9) 200) <|
      lt (sto μ_21 10 0 ((μ_21 1 0 9)).toNatClampNeg s_22) fun μ_24 =>
      lt (sto μ_24 1 0 9 ((μ_24 1 0 9) + (1 : Int32))) fun μ_25 =>
      jn (fun (_ : Unit) =>
       some ((0 : Int32), μ_25)) fun j_26 =>
      if a3_20 ≤ 0 then
      (j_26 ())
      else
      bP (f_X6_codeAt (μ_25 1 0 11) μ_25) fun v_27 =>
      bP (f_X5_isDigit v_27 μ_25) fun v_28 =>
      if v_28 = 0 then
      (bP (f_X6_codeAt (μ_25 1 0 11) μ_25) fun v_29 =>
       if v_29 = (95 : Int32) then
       (j_26 ())
       else
       some ((1 : Int32), μ_25))
      else
      j_26 ()) fun j_23 =>
     if s_2 = 0 then
     (j_23 a2_19)
     else
     j_23 (-a2_19)) s_2 1000 (0 : Int32) (0 : Int32) μ_4) fun j_5 =>
   if s_2 = 0 then
   (j_5 μ)
   else
   lt (sto μ 1 0 11 ((μ 1 0 11) + (1 : Int32))) fun μ_30 =>
   j_5 μ_30) fun j_3 =>
  if v_1 = (95 : Int32) then
  (j_3 (1 : Int32))
  else
  j_3 (0 : Int32)
def f_X5_addStep (a1 : Int32) (μ : Mem) : Option (Unit × Mem) :=
  gd (inb (μ 1 0 8) 200) <|
  lt (sto μ 4 0 ((μ 1 0 8)).toNatClampNeg a1) fun μ_1 =>
  lt (sto μ_1 1 0 8 ((μ_1 1 0 8) + (1 : Int32))) fun μ_2 =>
  some ((), μ_2)
def f_X5_readNumbers_L7 (κ : Mem → Option (Int32 × Mem)) (c1_2 : Int32) : Nat → Int32 → Mem → Option (Int32 × Mem)
  | 0, _, _ => none
  | n + 1, a2_3, μ_4 =>
    if (200 : Int32) ≤ a2_3 then
    (κ  μ_4)
    else
    bP (f_X6_codeAt (μ_4 1 0 11) μ_4) fun v_5 =>
    bP (f_X5_isDigit v_5 μ_4) fun v_6 =>
    jn (fun (_ : Unit) =>
     bW (f_X5_readNumber μ_4) fun v_8 μ_9 =>
     if v_8 = 0 then
     (some ((0 : Int32), μ_9))
     else
     bW (f_X5_skipBlanks μ_9) fun u_10 μ_11 =>
     lt (a2_3 + (1 : Int32)) fun x_12 =>
     f_X5_readNumbers_L7 κ c1_2 n x_12 μ_11) fun j_7 =>
    if v_6 = 0 then
    (bP (f_X6_codeAt (μ_4 1 0 11) μ_4) fun v_13 =>
     if v_13 = (95 : Int32) then
     (j_7 ())
     else
     κ  μ_4)
    else
    j_7 ()
def f_X5_readNumbers  (μ : Mem) : Option (Int32 × Mem) :=
  lt ((μ 1 0 9)) fun x_1 =>
  f_X5_readNumbers_L7 (fun (μ_15 : Mem) =>
   gd (inb (μ_15 1 0 8) 200) <|
   lt (sto μ_15 5 0 ((μ_15 1 0 8)).toNatClampNeg x_1) fun μ_16 =>
   gd (inb (μ_16 1 0 8) 200) <|
   lt (sto μ_16 6 0 ((μ_16 1 0 8)).toNatClampNeg ((μ_16 1 0 9) - x_1)) fun μ_17 =>
   bW (f_X5_addStep (0 : Int32) μ_17) fun u_18 μ_19 =>
   lt (sto μ_19 1 0 13 (0 : Int32)) fun μ_20 =>
   some ((1 : Int32), μ_20)) x_1 1000 (0 : Int32) μ
def f_X5_isNumberFunction (a0 : Int32) (μ : Mem) : Option (Int32) :=
  bP (f_J0_indexOf_0f7a4 0 a0 μ) fun v_1 =>
  if v_1 < 0 then
  (some (0 : Int32))
  else
  some (1 : Int32)
def f_X5_addFunction (a1 : Int32) (a2 : Int32) (a3 : Int32) (a4 : Int32) (μ : Mem) : Option (Unit × Mem) :=
  gd (inb (μ 1 0 8) 200) <|
  lt (sto μ 7 0 ((μ 1 0 8)).toNatClampNeg (vp_nar .char a2)) fun μ_1 =>
  gd (inb (μ_1 1 0 8) 200) <|
  lt (sto μ_1 8 0 ((μ_1 1 0 8)).toNatClampNeg (vp_nar .char a3)) fun μ_2 =>
  gd (inb (μ_2 1 0 8) 200) <|
  lt (sto μ_2 9 0 ((μ_2 1 0 8)).toNatClampNeg (vp_nar .char a4)) fun μ_3 =>
  bW (f_X5_addStep a1 μ_3) fun u_4 μ_5 =>
  some ((), μ_5)
def f_X5_readFunctionOfOne (a1 : Int32) (μ : Mem) : Option (Int32 × Mem) :=
  bW (f_X5_skipBlanks μ) fun u_1 μ_2 =>
  bP (f_X6_codeAt (μ_2 1 0 11) μ_2) fun v_3 =>
  bP (f_X5_isNumberFunction a1 μ_2) fun v_4 =>
  jn (fun (μ_5 : Mem) =>
   bW (f_X5_addFunction (4 : Int32) a1 (0 : Int32) (0 : Int32) μ_5) fun u_7 μ_8 =>
   bP (f_J0_indexOf_0f7a4 3 a1 μ_8) fun v_9 =>
   jn (fun (_ : Unit) =>
    some ((1 : Int32), μ_8)) fun j_10 =>
   if 0 ≤ v_9 then
   (j_10 ())
   else
   bP (f_J0_indexOf_0f7a4 1 a1 μ_8) fun v_11 =>
   if v_11 < 0 then
   (some ((0 : Int32), μ_8))
   else
   j_10 ()) fun j_6 =>
  if v_4 = 0 then
  (j_6 μ_2)
  else
  jn (fun (_ : Unit) =>
   lt (sto μ_2 1 0 11 ((μ_2 1 0 11) + (1 : Int32))) fun μ_13 =>
   bW (f_X5_addFunction (4 : Int32) a1 v_3 (0 : Int32) μ_13) fun u_14 μ_15 =>
   some ((1 : Int32), μ_15)) fun j_12 =>
  if v_3 = (47 : Int32) then
  (j_12 ())
  else
  if v_3 = (92 : Int32) then
  (j_12 ())
  else
  j_6 μ_2
def f_X5_readStart  (μ : Mem) : Option (Int32 × Mem) :=
  bP (f_X6_codeAt (μ 1 0 11) μ) fun v_1 =>
  bP (f_X5_isDigit v_1 μ) fun v_2 =>
  jn (fun (_ : Unit) =>
   bW (f_X5_readNumbers μ) fun v_4 μ_5 =>
   gd (isb v_4) <|
   some (v_4, μ_5)) fun j_3 =>
  if v_2 = 0 then
  (if v_1 = (95 : Int32) then
   (j_3 ())
   else
   lt (sto μ 1 0 11 ((μ 1 0 11) + (1 : Int32))) fun μ_6 =>
   if v_1 = (40 : Int32) then
   (lt (sto μ_6 1 0 12 ((μ_6 1 0 12) + (1 : Int32))) fun μ_14 =>
    bW (f_X5_addStep (2 : Int32) μ_14) fun u_15 μ_16 =>
    if (6 : Int32) < (μ_16 1 0 12) then
    (some ((0 : Int32), μ_16))
    else
    some ((1 : Int32), μ_16))
   else
   bP (f_X5_isName v_1 μ_6) fun v_7 =>
   if v_7 = 0 then
   (bW (f_X5_readFunctionOfOne v_1 μ_6) fun v_8 μ_9 =>
    gd (isb v_8) <|
    some (v_8, μ_9))
   else
   gd (inb (μ_6 1 0 8) 200) <|
   lt (sto μ_6 5 0 ((μ_6 1 0 8)).toNatClampNeg (v_1 - (65 : Int32))) fun μ_10 =>
   bW (f_X5_addStep (1 : Int32) μ_10) fun u_11 μ_12 =>
   lt (sto μ_12 1 0 13 (0 : Int32)) fun μ_13 =>
   some ((1 : Int32), μ_13))
  else
  j_3 ()
def f_X5_readFunctionOfTwo (a1 : Int32) (μ : Mem) : Option (Int32 × Mem) :=
  bP (f_X5_isNumberFunction a1 μ) fun v_1 =>
  if v_1 = 0 then
  (bW (f_X5_addFunction (5 : Int32) a1 (0 : Int32) (0 : Int32) μ) fun u_20 μ_21 =>
   bP (f_J0_indexOf_0f7a4 2 a1 μ_21) fun v_22 =>
   if v_22 < 0 then
   (some ((0 : Int32), μ_21))
   else
   some ((1 : Int32), μ_21))
  else
  bW (f_X5_skipBlanks μ) fun u_2 μ_3 =>
  bP (f_X6_codeAt (μ_3 1 0 11) μ_3) fun v_4 =>
  if v_4 = (46 : Int32) then
  (lt (sto μ_3 1 0 11 ((μ_3 1 0 11) + (1 : Int32))) fun μ_12 =>
   bW (f_X5_skipBlanks μ_12) fun u_13 μ_14 =>
   bP (f_X6_codeAt (μ_14 1 0 11) μ_14) fun v_15 =>
   lt (sto μ_14 1 0 11 ((μ_14 1 0 11) + (1 : Int32))) fun μ_16 =>
   bW (f_X5_addFunction (5 : Int32) a1 v_4 v_15 μ_16) fun u_17 μ_18 =>
   bP (f_X5_isNumberFunction v_15 μ_18) fun v_19 =>
   gd (isb v_19) <|
   some (v_19, μ_18))
  else
  jn (fun (μ_5 : Mem) =>
   jn (fun (s_7 : Int32) =>
    bW (f_X5_addFunction (5 : Int32) a1 s_7 (0 : Int32) μ_5) fun u_9 μ_10 =>
    some ((1 : Int32), μ_10)) fun j_8 =>
   if v_4 = (64 : Int32) then
   (j_8 v_4)
   else
   j_8 (0 : Int32)) fun j_6 =>
  if v_4 = (64 : Int32) then
  (lt (sto μ_3 1 0 11 ((μ_3 1 0 11) + (1 : Int32))) fun μ_11 =>
   j_6 μ_11)
  else
  j_6 μ_3
def f_X5_readBehindTerm  (μ : Mem) : Option (Int32 × Mem) :=
  bP (f_X6_codeAt (μ 1 0 11) μ) fun v_1 =>
  lt (sto μ 1 0 11 ((μ 1 0 11) + (1 : Int32))) fun μ_2 =>
  if v_1 = (41 : Int32) then
  (lt (sto μ_2 1 0 12 ((μ_2 1 0 12) - (1 : Int32))) fun μ_6 =>
   bW (f_X5_addStep (3 : Int32) μ_6) fun u_7 μ_8 =>
   if (μ_8 1 0 12) < 0 then
   (some ((0 : Int32), μ_8))
   else
   some ((1 : Int32), μ_8))
  else
  lt (sto μ_2 1 0 13 (1 : Int32)) fun μ_3 =>
  bW (f_X5_readFunctionOfTwo v_1 μ_3) fun v_4 μ_5 =>
  gd (isb v_4) <|
  some (v_4, μ_5)
def f_X5_read_L31 (κ : Mem → Option (Int32 × Mem))  : Nat → Int32 → Mem → Option (Int32 × Mem)
  | 0, _, _ => none
  | n + 1, a1_8, μ_9 =>
    if (200 : Int32) ≤ a1_8 then
    (κ  μ_9)
    else
    if (μ_9 2 0 1) ≤ (μ_9 1 0 11) then
    (κ  μ_9)
    else
    jn (fun (μ_10 : Mem) =>
     bW (f_X5_skipBlanks μ_10) fun u_12 μ_13 =>
     lt (a1_8 + (1 : Int32)) fun x_14 =>
     f_X5_read_L31 κ n x_14 μ_13) fun j_11 =>
    if (μ_9 1 0 13) = 0 then
    (bW (f_X5_readBehindTerm μ_9) fun v_15 μ_16 =>
     if v_15 = 0 then
     (some ((0 : Int32), μ_16))
     else
     j_11 μ_16)
    else
    bW (f_X5_readStart μ_9) fun v_17 μ_18 =>
    if v_17 = 0 then
    (some ((0 : Int32), μ_18))
    else
    j_11 μ_18
def f_X5_read  (μ : Mem) : Option (Int32 × Mem) :=
  lt (sto μ 1 0 11 (0 : Int32)) fun μ_1 =>
  lt (sto μ_1 1 0 8 (0 : Int32)) fun μ_2 =>
  lt (sto μ_2 1 0 9 (0 : Int32)) fun μ_3 =>
  lt (sto μ_3 1 0 12 (0 : Int32)) fun μ_4 =>
  lt (sto μ_4 1 0 13 (1 : Int32)) fun μ_5 =>
  bW (f_X5_readTarget μ_5) fun u_6 μ_7 =>
  f_X5_read_L31 (fun (μ_20 : Mem) =>
   jn (fun (_ : Unit) =>
    some ((0 : Int32), μ_20)) fun j_21 =>
   if (μ_20 1 0 13) = 0 then
   (if (μ_20 1 0 12) = 0 then
    (some ((1 : Int32), μ_20))
    else
    j_21 ())
   else
   j_21 ())  1000 (0 : Int32) μ_7
def f_X6_leadingCodes_L2 (κ : Unit → Option (Int32)) (c0_1 : Int32) (μ_3 : Mem) : Nat → Int32 → Option (Int32)
  | 0, _ => none
  | n + 1, a1_2 =>
    if (4 : Int32) ≤ a1_2 then
    (κ ())
    else
    if ((c0_1 >>> (((8 : Int32) * a1_2) &&& 31)) &&& (255 : Int32)) = 0 then
    (some a1_2)
    else
    lt (a1_2 + (1 : Int32)) fun x_4 =>
    f_X6_leadingCodes_L2 κ c0_1 μ_3 n x_4
def f_X6_leadingCodes (a0 : Int32) (μ : Mem) : Option (Int32) :=
  f_X6_leadingCodes_L2 (fun (_ : Unit) =>
   some (4 : Int32)) a0 μ 1000 (0 : Int32)
def f_X6_append_L21 (κ : Mem → Option (Int32 × Mem)) (c1_2 : Int32) (c2_3 : Int32) : Nat → Int32 → Mem → Option (Int32 × Mem)
  | 0, _, _ => none
  | n + 1, a3_4, μ_5 =>
    if c2_3 ≤ a3_4 then
    (κ  μ_5)
    else
    gd (inb ((μ_5 2 0 1) + a3_4) 200) <|
    lt (sto μ_5 3 0 (((μ_5 2 0 1) + a3_4)).toNatClampNeg (vp_nar .char ((((c1_2 >>> (((8 : Int32) * a3_4) &&& 31)) &&& (255 : Int32))).toUInt32 % 65536).toInt32)) fun μ_6 =>
    lt (a3_4 + (1 : Int32)) fun x_7 =>
    f_X6_append_L21 κ c1_2 c2_3 n x_7 μ_6
def f_X6_append (a1 : Int32) (μ : Mem) : Option (Int32 × Mem) :=
  bP (f_X6_leadingCodes a1 μ) fun v_1 =>
  if ((μ 2 0 1) + v_1) ≤ (200 : Int32) then
  (f_X6_append_L21 (fun (μ_9 : Mem) =>
    lt (sto μ_9 2 0 1 ((μ_9 2 0 1) + v_1)) fun μ_10 =>
    some (v_1, μ_10)) a1 v_1 1000 (0 : Int32) μ)
  else
  some ((-1 : Int32), μ)
def f_X7_feed (a1 : Int32) (μ : Mem) : Option (Int32 × Mem) :=
  bW (f_X6_append a1 μ) fun v_1 μ_2 =>
  some (v_1, μ_2)
def f_X7_clear  (μ : Mem) : Option (Unit × Mem) :=
  lt (sto μ 2 0 1 (0 : Int32)) fun μ_1 =>
  some ((), μ_1)
def f_X7_run  (μ : Mem) : Option (Except Nat Int32 × Mem) :=
  bW (f_X5_read μ) fun v_1 μ_2 =>
  if v_1 = 0 then
  (some (.ok (-1 : Int32), μ_2))
  else
  bB (f_X0_evaluate μ_2) (fun e_5 μ_4 => some (.error e_5, μ_4)) fun v_3 μ_4 =>
  gd (decide (v_3 < 18)) <|
  bB (f_X1_copy 17 v_3 μ_4) (fun e_8 μ_7 => some (.error e_8, μ_7)) fun u_6 μ_7 =>
  jn (fun (μ_9 : Mem) =>
   some (.ok (μ_9 20 17 3), μ_9)) fun j_10 =>
  if (μ_7 1 0 10) = (-1 : Int32) then
  (j_10 μ_7)
  else
  bB (f_X2_put (μ_7 1 0 10) v_3 μ_7) (fun e_13 μ_12 => some (.error e_13, μ_12)) fun u_11 μ_12 =>
  j_10 μ_12
def f_X7_rank  (μ : Mem) : Option (Int32) :=
  some (μ 20 17 2)
def f_X7_axis (a1 : Int32) (μ : Mem) : Option (Int32) :=
  jn (fun (_ : Unit) =>
   some (-1 : Int32)) fun j_1 =>
  if a1 < 0 then
  (j_1 ())
  else
  if (μ 20 17 2) ≤ a1 then
  (j_1 ())
  else
  gd (inb a1 3) <|
  some (μ 21 17 (a1).toNatClampNeg)
def f_X7_size  (μ : Mem) : Option (Int32) :=
  some (μ 20 17 3)
def f_X7_element (a1 : Int32) (μ : Mem) : Option (Int64) :=
  jn (fun (_ : Unit) =>
   some (4294967296 : Int64)) fun j_1 =>
  if a1 < 0 then
  (j_1 ())
  else
  if (μ 20 17 3) ≤ a1 then
  (j_1 ())
  else
  gd (inb a1 48) <|
  some ((μ 22 17 (a1).toNatClampNeg)).toInt64
def f_X7_sum_L4 (κ : Int64 → Option (Int64))  (μ_3 : Mem) : Nat → Int64 → Int32 → Option (Int64)
  | 0, _, _ => none
  | n + 1, a1_1, a3_2 =>
    if (μ_3 20 17 3) ≤ a3_2 then
    (κ a1_1)
    else
    gd (inb a3_2 48) <|
    lt ((a1_1 + ((μ_3 22 17 (a3_2).toNatClampNeg)).toInt64)) fun x_4 =>
    lt (a3_2 + (1 : Int32)) fun x_5 =>
    f_X7_sum_L4 κ  μ_3 n x_4 x_5
def f_X7_sum  (μ : Mem) : Option (Int64) :=
  f_X7_sum_L4 (fun (a1_7 : Int64) =>
   some a1_7)  μ 1000 (0 : Int64) (0 : Int32)
def f_X7_held (a1 : Int32) (μ : Mem) : Option (Int32) :=
  bP (f_X2_has a1 μ) fun v_1 =>
  if v_1 = 0 then
  (some (-1 : Int32))
  else
  gd (inb a1 8) <|
  lt ((a1).toNatClampNeg) fun g_2 =>
  gd (decide (g_2 < 18)) <|
  some (μ 20 g_2 3)
def f_X7_forget (a1 : Int32) (μ : Mem) : Option (Int32 × Mem) :=
  bP (f_X2_has a1 μ) fun v_1 =>
  if v_1 = 0 then
  (some ((0 : Int32), μ))
  else
  gd (inb a1 8) <|
  lt (sto μ 13 0 (a1).toNatClampNeg (vp_nar .boolean (0 : Int32))) fun μ_2 =>
  some ((1 : Int32), μ_2)
def f_X7_done  (μ : Mem) : Option (Int32) :=
  some (μ 14 0 6)
