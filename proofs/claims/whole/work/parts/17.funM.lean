def f_X8_thrown  (μ : Mem) : Option (Int32) :=
  some (μ 30 0 17)
def f_X8_feed_L9 (κ : Int32 → Option (Int32 × Mem)) (c1_2 : Int32) (μ_5 : Mem) : Nat → Int32 → Int32 → Option (Int32 × Mem)
  | 0, _, _ => none
  | n + 1, a2_3, a3_4 =>
    if (4 : Int32) ≤ a3_4 then
    (κ a2_3)
    else
    jn (fun (a2_6 : Int32) =>
     lt (a3_4 + (1 : Int32)) fun x_8 =>
     f_X8_feed_L9 κ c1_2 μ_5 n a2_6 x_8) fun j_7 =>
    if a2_3 = a3_4 then
    (if ((c1_2 >>> (((8 : Int32) * a3_4) &&& 31)) &&& (255 : Int32)) = 0 then
     (j_7 a2_3)
     else
     lt ((a2_3 + (1 : Int32))) fun x_9 =>
     j_7 x_9)
    else
    j_7 a2_3
def f_X8_feed_L58 (κ : Mem → Option (Int32 × Mem)) (c1_12 : Int32) (c2_13 : Int32) : Nat → Int32 → Mem → Option (Int32 × Mem)
  | 0, _, _ => none
  | n + 1, a3_14, μ_15 =>
    if c2_13 ≤ a3_14 then
    (κ  μ_15)
    else
    gd (inb ((μ_15 30 0 1) + a3_14) 200) <|
    lt (sto μ_15 31 0 (((μ_15 30 0 1) + a3_14)).toNatClampNeg ((c1_12 >>> (((8 : Int32) * a3_14) &&& 31)) &&& (255 : Int32))) fun μ_16 =>
    lt (a3_14 + (1 : Int32)) fun x_17 =>
    f_X8_feed_L58 κ c1_12 c2_13 n x_17 μ_16
def f_X8_feed (a1 : Int32) (μ : Mem) : Option (Int32 × Mem) :=
  lt (sto μ 30 0 17 (0 : Int32)) fun μ_1 =>
  f_X8_feed_L9 (fun (a2_11 : Int32) =>
   if ((μ_1 30 0 1) + a2_11) ≤ (200 : Int32) then
   (f_X8_feed_L58 (fun (μ_19 : Mem) =>
     lt (sto μ_19 30 0 1 ((μ_19 30 0 1) + a2_11)) fun μ_20 =>
     some (a2_11, μ_20)) a1 a2_11 1000 (0 : Int32) μ_1)
   else
   some ((-1 : Int32), μ_1)) a1 μ_1 1000 (0 : Int32) (0 : Int32)
def f_X8_clear  (μ : Mem) : Option (Unit × Mem) :=
  lt (sto μ 30 0 17 (0 : Int32)) fun μ_1 =>
  lt (sto μ_1 30 0 1 (0 : Int32)) fun μ_2 =>
  some ((), μ_2)
def f_X8_ahead_L2 (κ : Mem → Option (Int32 × Mem))  : Nat → Int32 → Mem → Option (Int32 × Mem)
  | 0, _, _ => none
  | n + 1, a1_1, μ_2 =>
    if (200 : Int32) ≤ a1_1 then
    (κ  μ_2)
    else
    jn (fun (μ_3 : Mem) =>
     lt (a1_1 + (1 : Int32)) fun x_5 =>
     f_X8_ahead_L2 κ n x_5 μ_3) fun j_4 =>
    if (μ_2 30 0 1) ≤ (μ_2 30 0 11) then
    (j_4 μ_2)
    else
    gd (inb (μ_2 30 0 11) 200) <|
    if (μ_2 31 0 ((μ_2 30 0 11)).toNatClampNeg) = (32 : Int32) then
    (lt (sto μ_2 30 0 11 ((μ_2 30 0 11) + (1 : Int32))) fun μ_6 =>
     j_4 μ_6)
    else
    j_4 μ_2
def f_X8_ahead  (μ : Mem) : Option (Int32 × Mem) :=
  f_X8_ahead_L2 (fun (μ_8 : Mem) =>
   if (μ_8 30 0 1) ≤ (μ_8 30 0 11) then
   (some ((0 : Int32), μ_8))
   else
   gd (inb (μ_8 30 0 11) 200) <|
   some ((μ_8 31 0 ((μ_8 30 0 11)).toNatClampNeg), μ_8))  1000 (0 : Int32) μ
def f_X8_digit (a0 : Int32) (μ : Mem) : Option (Int32) :=
  jn (fun (_ : Unit) =>
   some (0 : Int32)) fun j_1 =>
  if a0 < (48 : Int32) then
  (j_1 ())
  else
  if (57 : Int32) < a0 then
  (j_1 ())
  else
  some (1 : Int32)
def f_X8_plain (a0 : Int32) (μ : Mem) : Option (Int32) :=
  if a0 = (37 : Int32) then
  (some (3 : Int32))
  else
  if a0 = (38 : Int32) then
  (some (8 : Int32))
  else
  if a0 = (42 : Int32) then
  (some (2 : Int32))
  else
  if a0 = (43 : Int32) then
  (some (0 : Int32))
  else
  if a0 = (45 : Int32) then
  (some (1 : Int32))
  else
  if a0 = (60 : Int32) then
  (some (5 : Int32))
  else
  if a0 = (61 : Int32) then
  (some (7 : Int32))
  else
  if a0 = (62 : Int32) then
  (some (6 : Int32))
  else
  if a0 = (94 : Int32) then
  (some (9 : Int32))
  else
  if a0 = (124 : Int32) then
  (some (4 : Int32))
  else
  some (-1 : Int32)
def f_X8_add (a1 : Int32) (a2 : Int32) (a3 : Int32) (μ : Mem) : Option (Unit × Mem) :=
  gd (inb (μ 30 0 9) 201) <|
  lt (sto μ 35 0 ((μ 30 0 9)).toNatClampNeg a1) fun μ_1 =>
  gd (inb (μ_1 30 0 9) 201) <|
  lt (sto μ_1 36 0 ((μ_1 30 0 9)).toNatClampNeg a2) fun μ_2 =>
  gd (inb (μ_2 30 0 9) 201) <|
  lt (sto μ_2 37 0 ((μ_2 30 0 9)).toNatClampNeg a3) fun μ_3 =>
  lt (sto μ_3 30 0 9 ((μ_3 30 0 9) + (1 : Int32))) fun μ_4 =>
  some ((), μ_4)
def f_X8_row_L68 (κ : Int32 → Int32 → Mem → Option (Int32 × Mem)) (c1_13 : Int32) (c2_14 : Int32) (c4_15 : Int32) : Nat → Int32 → Int32 → Mem → Option (Int32 × Mem)
  | 0, _, _, _ => none
  | n + 1, a5_16, a6_17, μ_18 =>
    if (μ_18 30 0 1) ≤ (μ_18 30 0 11) then
    (κ a5_16 a6_17 μ_18)
    else
    gd (inb (μ_18 30 0 11) 200) <|
    bP (f_X8_digit (μ_18 31 0 ((μ_18 30 0 11)).toNatClampNeg) μ_18) fun v_19 =>
    if v_19 = 0 then
    (κ a5_16 a6_17 μ_18)
    else
    if (9 : Int32) ≤ a6_17 then
    (κ a5_16 a6_17 μ_18)
    else
    gd (inb (μ_18 30 0 11) 200) <|
    lt (((((10 : Int32) * a5_16) + (μ_18 31 0 ((μ_18 30 0 11)).toNatClampNeg)) - (48 : Int32))) fun x_20 =>
    lt ((a6_17 + (1 : Int32))) fun x_21 =>
    lt (sto μ_18 30 0 11 ((μ_18 30 0 11) + (1 : Int32))) fun μ_22 =>
    f_X8_row_L68 κ c1_13 c2_14 c4_15 n x_20 x_21 μ_22
def f_X8_row_L7 (κ : Mem → Option (Int32 × Mem)) (c1_2 : Int32) : Nat → Int32 → Mem → Option (Int32 × Mem)
  | 0, _, _ => none
  | n + 1, a2_3, μ_4 =>
    if (101 : Int32) ≤ a2_3 then
    (κ  μ_4)
    else
    bW (f_X8_ahead μ_4) fun v_5 μ_6 =>
    bP (f_X8_digit v_5 μ_6) fun v_7 =>
    jn (fun (_ : Unit) =>
     jn (fun (s_9 : Int32) =>
      jn (fun (μ_11 : Mem) =>
       f_X8_row_L68 (fun (a5_26 : Int32) (a6_27 : Int32) (μ_28 : Mem) =>
        if a6_27 = 0 then
        (some ((0 : Int32), μ_28))
        else
        jn (fun (_ : Unit) =>
         jn (fun (s_30 : Int32) =>
          gd (inb (μ_28 30 0 10) 101) <|
          lt (sto μ_28 38 0 ((μ_28 30 0 10)).toNatClampNeg s_30) fun μ_32 =>
          lt (sto μ_32 30 0 10 ((μ_32 30 0 10) + (1 : Int32))) fun μ_33 =>
          lt (a2_3 + (1 : Int32)) fun x_34 =>
          f_X8_row_L7 κ c1_2 n x_34 μ_33) fun j_31 =>
         if s_9 = 0 then
         (j_31 a5_26)
         else
         j_31 (-a5_26)) fun j_29 =>
        if (μ_28 30 0 1) ≤ (μ_28 30 0 11) then
        (j_29 ())
        else
        gd (inb (μ_28 30 0 11) 200) <|
        bP (f_X8_digit (μ_28 31 0 ((μ_28 30 0 11)).toNatClampNeg) μ_28) fun v_35 =>
        if v_35 = 0 then
        (gd (inb (μ_28 30 0 11) 200) <|
         if (μ_28 31 0 ((μ_28 30 0 11)).toNatClampNeg) = (95 : Int32) then
         (some ((0 : Int32), μ_28))
         else
         j_29 ())
        else
        some ((0 : Int32), μ_28)) c1_2 a2_3 s_9 1000 (0 : Int32) (0 : Int32) μ_11) fun j_12 =>
      if s_9 = 0 then
      (j_12 μ_6)
      else
      lt (sto μ_6 30 0 11 ((μ_6 30 0 11) + (1 : Int32))) fun μ_36 =>
      j_12 μ_36) fun j_10 =>
     if v_5 = (95 : Int32) then
     (j_10 (1 : Int32))
     else
     j_10 (0 : Int32)) fun j_8 =>
    if v_7 = 0 then
    (if v_5 = (95 : Int32) then
     (j_8 ())
     else
     κ  μ_6)
    else
    j_8 ()
def f_X8_row  (μ : Mem) : Option (Int32 × Mem) :=
  lt ((μ 30 0 10)) fun x_1 =>
  f_X8_row_L7 (fun (μ_38 : Mem) =>
   bW (f_X8_add (0 : Int32) x_1 ((μ_38 30 0 10) - x_1) μ_38) fun u_39 μ_40 =>
   some ((1 : Int32), μ_40)) x_1 1000 (0 : Int32) μ
def f_X8_one  (μ : Mem) : Option (Int32 × Mem) :=
  bW (f_X8_ahead μ) fun v_1 μ_2 =>
  bP (f_X8_plain v_1 μ_2) fun v_3 =>
  lt (sto μ_2 30 0 11 ((μ_2 30 0 11) + (1 : Int32))) fun μ_4 =>
  if v_3 < 0 then
  (if v_1 = (105 : Int32) then
   (some ((23 : Int32), μ_4))
   else
   if v_1 = (114 : Int32) then
   (some ((24 : Int32), μ_4))
   else
   if v_1 = (44 : Int32) then
   (some ((25 : Int32), μ_4))
   else
   if v_1 = (116 : Int32) then
   (some ((26 : Int32), μ_4))
   else
   if v_1 = (118 : Int32) then
   (some ((27 : Int32), μ_4))
   else
   some ((-1 : Int32), μ_4))
  else
  bW (f_X8_ahead μ_4) fun v_5 μ_6 =>
  jn (fun (_ : Unit) =>
   lt (sto μ_6 30 0 11 ((μ_6 30 0 11) + (1 : Int32))) fun μ_8 =>
   if v_5 = (47 : Int32) then
   (some (v_3, μ_8))
   else
   some (((10 : Int32) + v_3), μ_8)) fun j_7 =>
  if v_5 = (47 : Int32) then
  (j_7 ())
  else
  if v_5 = (92 : Int32) then
  (j_7 ())
  else
  if v_1 = (45 : Int32) then
  (some ((20 : Int32), μ_6))
  else
  if v_1 = (124 : Int32) then
  (some ((21 : Int32), μ_6))
  else
  if v_1 = (42 : Int32) then
  (some ((22 : Int32), μ_6))
  else
  some ((-1 : Int32), μ_6)
def f_X8_two  (μ : Mem) : Option (Int32 × Mem) :=
  bW (f_X8_ahead μ) fun v_1 μ_2 =>
  bP (f_X8_plain v_1 μ_2) fun v_3 =>
  lt (sto μ_2 30 0 11 ((μ_2 30 0 11) + (1 : Int32))) fun μ_4 =>
  if 0 ≤ v_3 then
  (bW (f_X8_ahead μ_4) fun v_5 μ_6 =>
   if v_5 = (64 : Int32) then
   (lt (sto μ_6 30 0 11 ((μ_6 30 0 11) + (1 : Int32))) fun μ_12 =>
    some (((20 : Int32) + v_3), μ_12))
   else
   if v_5 = (46 : Int32) then
   (lt (sto μ_6 30 0 11 ((μ_6 30 0 11) + (1 : Int32))) fun μ_7 =>
    bW (f_X8_ahead μ_7) fun v_8 μ_9 =>
    bP (f_X8_plain v_8 μ_9) fun v_10 =>
    lt (sto μ_9 30 0 11 ((μ_9 30 0 11) + (1 : Int32))) fun μ_11 =>
    if 0 ≤ v_10 then
    (some ((((100 : Int32) + ((10 : Int32) * v_3)) + v_10), μ_11))
    else
    some ((-1 : Int32), μ_11))
   else
   some (v_3, μ_6))
  else
  if v_1 = (114 : Int32) then
  (some ((30 : Int32), μ_4))
  else
  if v_1 = (44 : Int32) then
  (some ((31 : Int32), μ_4))
  else
  if v_1 = (112 : Int32) then
  (some ((32 : Int32), μ_4))
  else
  some ((-1 : Int32), μ_4)
def f_X8_read_L6 (κ : Mem → Option (Int32 × Mem))  : Nat → Int32 → Int32 → Int32 → Mem → Option (Int32 × Mem)
  | 0, _, _, _, _ => none
  | n + 1, a1_1, a2_2, a3_3, μ_4 =>
    if (201 : Int32) ≤ a3_3 then
    (κ  μ_4)
    else
    bW (f_X8_ahead μ_4) fun v_5 μ_6 =>
    if v_5 = 0 then
    (if a2_2 = 0 then
     (if a1_1 = 0 then
      (some ((1 : Int32), μ_6))
      else
      some ((0 : Int32), μ_6))
     else
     some ((0 : Int32), μ_6))
    else
    jn (fun (a1_7 : Int32) (a2_8 : Int32) (μ_9 : Mem) =>
     lt (a3_3 + (1 : Int32)) fun x_11 =>
     f_X8_read_L6 κ n a1_7 a2_8 x_11 μ_9) fun j_10 =>
    if a2_2 = 0 then
    (if v_5 = (41 : Int32) then
     (lt (sto μ_6 30 0 11 ((μ_6 30 0 11) + (1 : Int32))) fun μ_16 =>
      lt ((a1_1 - (1 : Int32))) fun x_17 =>
      if 0 ≤ x_17 then
      (bW (f_X8_add (3 : Int32) (0 : Int32) (0 : Int32) μ_16) fun u_18 μ_19 =>
       j_10 x_17 a2_2 μ_19)
      else
      some ((0 : Int32), μ_16))
     else
     bW (f_X8_two μ_6) fun v_12 μ_13 =>
     if 0 ≤ v_12 then
     (bW (f_X8_add (4 : Int32) v_12 (0 : Int32) μ_13) fun u_14 μ_15 =>
      j_10 a1_1 (1 : Int32) μ_15)
     else
     some ((0 : Int32), μ_13))
    else
    bP (f_X8_digit v_5 μ_6) fun v_20 =>
    jn (fun (_ : Unit) =>
     bW (f_X8_row μ_6) fun v_22 μ_23 =>
     if v_22 = 0 then
     (some ((0 : Int32), μ_23))
     else
     j_10 a1_1 (0 : Int32) μ_23) fun j_21 =>
    if v_20 = 0 then
    (if v_5 = (95 : Int32) then
     (j_21 ())
     else
     jn (fun (a2_24 : Int32) (μ_25 : Mem) =>
      if v_5 = (40 : Int32) then
      (lt (sto μ_25 30 0 11 ((μ_25 30 0 11) + (1 : Int32))) fun μ_31 =>
       lt ((a1_1 + (1 : Int32))) fun x_32 =>
       if x_32 ≤ (6 : Int32) then
       (bW (f_X8_add (2 : Int32) (0 : Int32) (0 : Int32) μ_31) fun u_33 μ_34 =>
        j_10 x_32 a2_24 μ_34)
       else
       some ((0 : Int32), μ_31))
      else
      bW (f_X8_one μ_25) fun v_27 μ_28 =>
      if 0 ≤ v_27 then
      (bW (f_X8_add (5 : Int32) v_27 (0 : Int32) μ_28) fun u_29 μ_30 =>
       j_10 a1_1 a2_24 μ_30)
      else
      some ((0 : Int32), μ_28)) fun j_26 =>
     if v_5 < (65 : Int32) then
     (j_26 a2_2 μ_6)
     else
     if (72 : Int32) < v_5 then
     (j_26 a2_2 μ_6)
     else
     lt (sto μ_6 30 0 11 ((μ_6 30 0 11) + (1 : Int32))) fun μ_35 =>
     bW (f_X8_add (1 : Int32) (v_5 - (65 : Int32)) (0 : Int32) μ_35) fun u_36 μ_37 =>
     j_10 a1_1 (0 : Int32) μ_37)
    else
    j_21 ()
def f_X8_read  (μ : Mem) : Option (Int32 × Mem) :=
  f_X8_read_L6 (fun (μ_39 : Mem) =>
   some ((0 : Int32), μ_39))  1000 (0 : Int32) (1 : Int32) (0 : Int32) μ
def f_X8_axisOf (a1 : Int32) (a2 : Int32) (μ : Mem) : Option (Int32) :=
  gd (inb (((3 : Int32) * a1) + a2) 60) <|
  some (μ 33 0 ((((3 : Int32) * a1) + a2)).toNatClampNeg)
def f_X8_sizeOf_L4 (κ : Int32 → Option (Int32)) (c1_1 : Int32) (μ_4 : Mem) : Nat → Int32 → Int32 → Option (Int32)
  | 0, _, _ => none
  | n + 1, a2_2, a3_3 =>
    gd (inb c1_1 20) <|
    if (μ_4 32 0 (c1_1).toNatClampNeg) ≤ a3_3 then
    (κ a2_2)
    else
    bP (f_X8_axisOf c1_1 a3_3 μ_4) fun v_5 =>
    lt ((a2_2 * v_5)) fun x_6 =>
    lt (a3_3 + (1 : Int32)) fun x_7 =>
    f_X8_sizeOf_L4 κ c1_1 μ_4 n x_6 x_7
def f_X8_sizeOf (a1 : Int32) (μ : Mem) : Option (Int32) :=
  f_X8_sizeOf_L4 (fun (a2_9 : Int32) =>
   some a2_9) a1 μ 1000 (1 : Int32) (0 : Int32)
def f_X8_copy_L14 (κ : Mem → Option (Unit × Mem)) (c1_2 : Int32) (c2_3 : Int32) : Nat → Int32 → Mem → Option (Unit × Mem)
  | 0, _, _ => none
  | n + 1, a3_4, μ_5 =>
    if (3 : Int32) ≤ a3_4 then
    (κ  μ_5)
    else
    gd (inb (((3 : Int32) * c1_2) + a3_4) 60) <|
    gd (inb (((3 : Int32) * c2_3) + a3_4) 60) <|
    lt (sto μ_5 33 0 ((((3 : Int32) * c2_3) + a3_4)).toNatClampNeg (μ_5 33 0 ((((3 : Int32) * c1_2) + a3_4)).toNatClampNeg)) fun μ_6 =>
    lt (a3_4 + (1 : Int32)) fun x_7 =>
    f_X8_copy_L14 κ c1_2 c2_3 n x_7 μ_6
def f_X8_copy_L47 (κ : Mem → Option (Unit × Mem)) (c1_10 : Int32) (c2_11 : Int32) : Nat → Int32 → Mem → Option (Unit × Mem)
  | 0, _, _ => none
  | n + 1, a3_12, μ_13 =>
    if (48 : Int32) ≤ a3_12 then
    (κ  μ_13)
    else
    gd (inb (((48 : Int32) * c1_10) + a3_12) 960) <|
    gd (inb (((48 : Int32) * c2_11) + a3_12) 960) <|
    lt (sto μ_13 34 0 ((((48 : Int32) * c2_11) + a3_12)).toNatClampNeg (μ_13 34 0 ((((48 : Int32) * c1_10) + a3_12)).toNatClampNeg)) fun μ_14 =>
    lt (a3_12 + (1 : Int32)) fun x_15 =>
    f_X8_copy_L47 κ c1_10 c2_11 n x_15 μ_14
def f_X8_copy (a1 : Int32) (a2 : Int32) (μ : Mem) : Option (Unit × Mem) :=
  gd (inb a1 20) <|
  gd (inb a2 20) <|
  lt (sto μ 32 0 (a2).toNatClampNeg (μ 32 0 (a1).toNatClampNeg)) fun μ_1 =>
  f_X8_copy_L14 (fun (μ_9 : Mem) =>
   f_X8_copy_L47 (fun (μ_17 : Mem) =>
    some ((), μ_17)) a1 a2 1000 (0 : Int32) μ_9) a1 a2 1000 (0 : Int32) μ_1
def f_X8_get (a1 : Int32) (a2 : Int32) (μ : Mem) : Option (Int32) :=
  gd (inb (((48 : Int32) * a1) + a2) 960) <|
  some (μ 34 0 ((((48 : Int32) * a1) + a2)).toNatClampNeg)
def f_X8_set (a1 : Int32) (a2 : Int32) (a3 : Int32) (μ : Mem) : Option (Unit × Mem) :=
  gd (inb (((48 : Int32) * a1) + a2) 960) <|
  lt (sto μ 34 0 ((((48 : Int32) * a1) + a2)).toNatClampNeg a3) fun μ_1 =>
  some ((), μ_1)
def f_X8_stop (a1 : Int32) (μ : Mem) : Option (Int32 × Mem) :=
  lt (sto μ 30 0 16 a1) fun μ_1 =>
  some ((0 : Int32), μ_1)
def f_X8_shape_L36 (κ : Unit → Option (Int32 × Mem)) (c1_5 : Int32) (μ_7 : Mem) : Nat → Int32 → Option (Int32 × Mem)
  | 0, _ => none
  | n + 1, a5_6 =>
    if c1_5 ≤ a5_6 then
    (κ ())
    else
    bP (f_X8_axisOf (8 : Int32) a5_6 μ_7) fun v_8 =>
    if v_8 ≤ (48 : Int32) then
    (lt (a5_6 + (1 : Int32)) fun x_9 =>
     f_X8_shape_L36 κ c1_5 μ_7 n x_9)
    else
    bW (f_X8_stop (1 : Int32) μ_7) fun v_10 μ_11 =>
    gd (isb v_10) <|
    some (v_10, μ_11)
def f_X8_shape (a1 : Int32) (a2 : Int32) (a3 : Int32) (a4 : Int32) (μ : Mem) : Option (Int32 × Mem) :=
  gd (inb (8 : Int32) 20) <|
  lt (sto μ 32 0 ((8 : Int32)).toNatClampNeg a1) fun μ_1 =>
  gd (inb (24 : Int32) 60) <|
  lt (sto μ_1 33 0 ((24 : Int32)).toNatClampNeg a2) fun μ_2 =>
  gd (inb (25 : Int32) 60) <|
  lt (sto μ_2 33 0 ((25 : Int32)).toNatClampNeg a3) fun μ_3 =>
  gd (inb (26 : Int32) 60) <|
  lt (sto μ_3 33 0 ((26 : Int32)).toNatClampNeg a4) fun μ_4 =>
  f_X8_shape_L36 (fun (_ : Unit) =>
   bP (f_X8_sizeOf (8 : Int32) μ_4) fun v_12 =>
   jn (fun (μ_13 : Mem) =>
    some ((1 : Int32), μ_13)) fun j_14 =>
   if v_12 ≤ (48 : Int32) then
   (j_14 μ_4)
   else
   bW (f_X8_stop (1 : Int32) μ_4) fun v_15 μ_16 =>
   if v_15 = 0 then
   (some ((0 : Int32), μ_16))
   else
   j_14 μ_16) a1 μ_4 1000 (0 : Int32)
def f_X8_ofInt (b1 : Int64) (μ : Mem) : Option (Int32 × Mem) :=
  if (lg_cmp b1 ((b1).toInt32).toInt64) = 0 then
  (some ((b1).toInt32, μ))
  else
  lt (sto μ 30 0 16 (1 : Int32)) fun μ_1 =>
  some ((b1).toInt32, μ_1)
def f_X8_number (a1 : Int32) (b2 : Int64) (b4 : Int64) (μ : Mem) : Option (Int32 × Mem) :=
  if a1 = (0 : Int32) then
  (bW (f_X8_ofInt (b2 + b4) μ) fun v_1 μ_2 =>
   some (v_1, μ_2))
  else
  if a1 = (1 : Int32) then
  (bW (f_X8_ofInt (b2 - b4) μ) fun v_3 μ_4 =>
   some (v_3, μ_4))
  else
  if a1 = (2 : Int32) then
  (bW (f_X8_ofInt (b2 * b4) μ) fun v_5 μ_6 =>
   some (v_5, μ_6))
  else
  if a1 = (3 : Int32) then
  (jn (fun (_ : Unit) =>
    lt (sto μ 30 0 16 (2 : Int32)) fun μ_8 =>
    some ((0 : Int32), μ_8)) fun j_7 =>
   if (lg_cmp b4 (0 : Int64)) = 0 then
   (j_7 ())
   else
   gd (nzl b4) <|
   if (lg_cmp (b2 - b2 / b4 * b4) (0 : Int64)) = 0 then
   (gd (nzl b4) <|
    bW (f_X8_ofInt (b2 / b4) μ) fun v_9 μ_10 =>
    some (v_9, μ_10))
   else
   j_7 ())
  else
  if a1 = (4 : Int32) then
  (if (lg_cmp b2 (0 : Int64)) = 0 then
   (some ((b4).toInt32, μ))
   else
   gd (nzl b2) <|
   lt ((b4 - b4 / b2 * b2)) fun x_11 =>
   jn (fun (_ : Unit) =>
    some ((x_11).toInt32, μ)) fun j_12 =>
   if (lg_cmp x_11 (0 : Int64)) = 0 then
   (j_12 ())
   else
   jn (fun (s_13 : Int32) =>
    jn (fun (s_15 : Int32) =>
     if s_13 = s_15 then
     (j_12 ())
     else
     some (((x_11 + b2)).toInt32, μ)) fun j_16 =>
    if 0 ≤ (lg_cmp b2 (0 : Int64)) then
    (j_16 (0 : Int32))
    else
    j_16 (1 : Int32)) fun j_14 =>
   if 0 ≤ (lg_cmp x_11 (0 : Int64)) then
   (j_14 (0 : Int32))
   else
   j_14 (1 : Int32))
  else
  if a1 = (5 : Int32) then
  (if 0 ≤ (lg_cmp b2 b4) then
   (some ((0 : Int32), μ))
   else
   some ((1 : Int32), μ))
  else
  if a1 = (6 : Int32) then
  (if (lg_cmp b2 b4) ≤ 0 then
   (some ((0 : Int32), μ))
   else
   some ((1 : Int32), μ))
  else
  if a1 = (7 : Int32) then
  (if (lg_cmp b2 b4) = 0 then
   (some ((1 : Int32), μ))
   else
   some ((0 : Int32), μ))
  else
  if a1 = (8 : Int32) then
  (if 0 ≤ (lg_cmp b2 b4) then
   (some ((b4).toInt32, μ))
   else
   some ((b2).toInt32, μ))
  else
  if (lg_cmp b2 b4) ≤ 0 then
  (some ((b4).toInt32, μ))
  else
  some ((b2).toInt32, μ)
def f_X8_folded_L43 (κ : Int32 → Mem → Option (Int32 × Mem)) (c1_3 : Int32) : Nat → Int32 → Int32 → Mem → Option (Int32 × Mem)
  | 0, _, _, _ => none
  | n + 1, a3_4, a4_5, μ_6 =>
    if a4_5 < 0 then
    (κ a3_4 μ_6)
    else
    if (μ_6 30 0 16) = 0 then
    (gd (inb a4_5 49) <|
     bW (f_X8_number c1_3 ((μ_6 42 0 (a4_5).toNatClampNeg)).toInt64 (a3_4).toInt64 μ_6) fun v_7 μ_8 =>
     lt (a4_5 + (-1 : Int32)) fun x_9 =>
     f_X8_folded_L43 κ c1_3 n v_7 x_9 μ_8)
    else
    κ a3_4 μ_6
def f_X8_folded (a1 : Int32) (a2 : Int32) (μ : Mem) : Option (Int32 × Mem) :=
  if a2 = 0 then
  (jn (fun (μ_14 : Mem) =>
    if a1 = (2 : Int32) then
    (some ((1 : Int32), μ_14))
    else
    some ((0 : Int32), μ_14)) fun j_15 =>
   if a1 = 0 then
   (j_15 μ)
   else
   if a1 = (2 : Int32) then
   (j_15 μ)
   else
   lt (sto μ 30 0 16 (2 : Int32)) fun μ_16 =>
   j_15 μ_16)
  else
  gd (inb (a2 - (1 : Int32)) 49) <|
  lt ((μ 42 0 ((a2 - (1 : Int32))).toNatClampNeg)) fun x_1 =>
  lt ((a2 - (2 : Int32))) fun x_2 =>
  f_X8_folded_L43 (fun (a3_12 : Int32) (μ_13 : Mem) =>
   some (a3_12, μ_13)) a1 1000 x_1 x_2 μ
def f_X8_last (a1 : Int32) (μ : Mem) : Option (Int32) :=
  gd (inb a1 20) <|
  if (μ 32 0 (a1).toNatClampNeg) = 0 then
  (some (1 : Int32))
  else
  gd (inb a1 20) <|
  bP (f_X8_axisOf a1 ((μ 32 0 (a1).toNatClampNeg) - (1 : Int32)) μ) fun v_1 =>
  some v_1
def f_X8_same  (μ : Mem) : Option (Int32 × Mem) :=
  bW (f_X8_copy (19 : Int32) (8 : Int32) μ) fun u_1 μ_2 =>
  some ((1 : Int32), μ_2)
def f_X8_reduce_L13 (κ : Int32 → Option (Int32 × Mem)) (c1_2 : Int32) (c3_3 : Int32) (μ_6 : Mem) : Nat → Int32 → Int32 → Option (Int32 × Mem)
  | 0, _, _ => none
  | n + 1, a4_4, a5_5 =>
    gd (inb (19 : Int32) 20) <|
    if ((μ_6 32 0 ((19 : Int32)).toNatClampNeg) - (1 : Int32)) ≤ a5_5 then
    (κ a4_4)
    else
    bP (f_X8_axisOf (19 : Int32) a5_5 μ_6) fun v_7 =>
    lt ((a4_4 * v_7)) fun x_8 =>
    lt (a5_5 + (1 : Int32)) fun x_9 =>
    f_X8_reduce_L13 κ c1_2 c3_3 μ_6 n x_8 x_9
def f_X8_reduce_L99 (κ : Mem → Option (Int32 × Mem)) (c1_21 : Int32) (c3_22 : Int32) (c4_23 : Int32) (c5_24 : Int32) : Nat → Int32 → Mem → Option (Int32 × Mem)
  | 0, _, _ => none
  | n + 1, a6_25, μ_26 =>
    if c3_22 ≤ a6_25 then
    (κ  μ_26)
    else
    bP (f_X8_get (19 : Int32) ((c3_22 * c5_24) + a6_25) μ_26) fun v_27 =>
    gd (inb a6_25 49) <|
    lt (sto μ_26 42 0 (a6_25).toNatClampNeg v_27) fun μ_28 =>
    lt (a6_25 + (1 : Int32)) fun x_29 =>
    f_X8_reduce_L99 κ c1_21 c3_22 c4_23 c5_24 n x_29 μ_28
def f_X8_reduce_L82 (κ : Mem → Option (Int32 × Mem)) (c1_16 : Int32) (c3_17 : Int32) (c4_18 : Int32) : Nat → Int32 → Mem → Option (Int32 × Mem)
  | 0, _, _ => none
  | n + 1, a5_19, μ_20 =>
    if c4_18 ≤ a5_19 then
    (κ  μ_20)
    else
    if (μ_20 30 0 16) = 0 then
    (f_X8_reduce_L99 (fun (μ_31 : Mem) =>
      bW (f_X8_folded c1_16 c3_17 μ_31) fun v_32 μ_33 =>
      bW (f_X8_set (8 : Int32) a5_19 v_32 μ_33) fun u_34 μ_35 =>
      lt (a5_19 + (1 : Int32)) fun x_36 =>
      f_X8_reduce_L82 κ c1_16 c3_17 c4_18 n x_36 μ_35) c1_16 c3_17 c4_18 a5_19 1000 (0 : Int32) μ_20)
    else
    κ  μ_20
def f_X8_reduce (a1 : Int32) (a2 : Int32) (μ : Mem) : Option (Int32 × Mem) :=
  bP (f_X8_last (19 : Int32) μ) fun v_1 =>
  f_X8_reduce_L13 (fun (a4_11 : Int32) =>
   gd (inb (19 : Int32) 20) <|
   bP (f_X8_axisOf (19 : Int32) (0 : Int32) μ) fun v_12 =>
   bP (f_X8_axisOf (19 : Int32) (1 : Int32) μ) fun v_13 =>
   bW (f_X8_shape ((μ 32 0 ((19 : Int32)).toNatClampNeg) - (1 : Int32)) v_12 v_13 (0 : Int32) μ) fun v_14 μ_15 =>
   if v_14 = 0 then
   (some ((0 : Int32), μ_15))
   else
   f_X8_reduce_L82 (fun (μ_38 : Mem) =>
    if (μ_38 30 0 16) = 0 then
    (some ((1 : Int32), μ_38))
    else
    some ((0 : Int32), μ_38)) a1 v_1 a4_11 1000 (0 : Int32) μ_15) a1 v_1 μ 1000 (1 : Int32) (0 : Int32)
def f_X8_scan_L41 (κ : Mem → Option (Int32 × Mem)) (c1_11 : Int32) (c2_12 : Int32) (c3_13 : Int32) (c4_14 : Int32) (c5_15 : Int32) (c6_16 : Int32) : Nat → Int32 → Mem → Option (Int32 × Mem)
  | 0, _, _ => none
  | n + 1, a7_17, μ_18 =>
    if c5_15 < a7_17 then
    (κ  μ_18)
    else
    bP (f_X8_get (19 : Int32) a7_17 μ_18) fun v_19 =>
    gd (inb (a7_17 - c6_16) 49) <|
    lt (sto μ_18 42 0 ((a7_17 - c6_16)).toNatClampNeg v_19) fun μ_20 =>
    lt (a7_17 + (1 : Int32)) fun x_21 =>
    f_X8_scan_L41 κ c1_11 c2_12 c3_13 c4_14 c5_15 c6_16 n x_21 μ_20
def f_X8_scan_L16 (κ : Mem → Option (Int32 × Mem)) (c1_4 : Int32) (c2_5 : Int32) (c3_6 : Int32) (c4_7 : Int32) : Nat → Int32 → Mem → Option (Int32 × Mem)
  | 0, _, _ => none
  | n + 1, a5_8, μ_9 =>
    if c2_5 ≤ a5_8 then
    (κ  μ_9)
    else
    if (μ_9 30 0 16) = 0 then
    (gd (nz c3_6) <|
     lt (((a5_8 / c3_6) * c3_6)) fun x_10 =>
     f_X8_scan_L41 (fun (μ_23 : Mem) =>
      bW (f_X8_folded c1_4 ((a5_8 - x_10) + (1 : Int32)) μ_23) fun v_24 μ_25 =>
      bW (f_X8_set (8 : Int32) a5_8 v_24 μ_25) fun u_26 μ_27 =>
      lt (a5_8 + (1 : Int32)) fun x_28 =>
      f_X8_scan_L16 κ c1_4 c2_5 c3_6 c4_7 n x_28 μ_27) c1_4 c2_5 c3_6 c4_7 a5_8 x_10 1000 x_10 μ_9)
    else
    κ  μ_9
def f_X8_scan (a1 : Int32) (a2 : Int32) (μ : Mem) : Option (Int32 × Mem) :=
  bP (f_X8_last (19 : Int32) μ) fun v_1 =>
  bW (f_X8_same μ) fun v_2 μ_3 =>
  f_X8_scan_L16 (fun (μ_30 : Mem) =>
   jn (fun (_ : Unit) =>
    some ((0 : Int32), μ_30)) fun j_31 =>
   if v_2 = 0 then
   (j_31 ())
   else
   if (μ_30 30 0 16) = 0 then
   (some ((1 : Int32), μ_30))
   else
   j_31 ()) a1 a2 v_1 v_2 1000 (0 : Int32) μ_3
def f_X8_count_L61 (κ : Mem → Option (Int32 × Mem)) (c2_4 : Int32) : Nat → Int32 → Mem → Option (Int32 × Mem)
  | 0, _, _ => none
  | n + 1, a3_5, μ_6 =>
    if c2_4 ≤ a3_5 then
    (κ  μ_6)
    else
    bW (f_X8_set (8 : Int32) a3_5 a3_5 μ_6) fun u_7 μ_8 =>
    lt (a3_5 + (1 : Int32)) fun x_9 =>
    f_X8_count_L61 κ c2_4 n x_9 μ_8
def f_X8_count (a1 : Int32) (μ : Mem) : Option (Int32 × Mem) :=
  gd (inb (19 : Int32) 20) <|
  if (μ 32 0 ((19 : Int32)).toNatClampNeg) ≤ (1 : Int32) then
  (if a1 = (1 : Int32) then
   (bP (f_X8_get (19 : Int32) (0 : Int32) μ) fun v_1 =>
    if 0 ≤ v_1 then
    (bW (f_X8_shape (1 : Int32) v_1 (0 : Int32) (0 : Int32) μ) fun v_2 μ_3 =>
     if v_2 = 0 then
     (some ((0 : Int32), μ_3))
     else
     f_X8_count_L61 (fun (μ_11 : Mem) =>
      some ((1 : Int32), μ_11)) v_1 1000 (0 : Int32) μ_3)
    else
    bW (f_X8_stop (2 : Int32) μ) fun v_12 μ_13 =>
    gd (isb v_12) <|
    some (v_12, μ_13))
   else
   bW (f_X8_stop (3 : Int32) μ) fun v_14 μ_15 =>
   gd (isb v_14) <|
   some (v_14, μ_15))
  else
  bW (f_X8_stop (4 : Int32) μ) fun v_16 μ_17 =>
  gd (isb v_16) <|
  some (v_16, μ_17)
def f_X8_turn_L16 (κ : Mem → Option (Int32 × Mem)) (c1_4 : Int32) (c2_5 : Int32) (c3_6 : Int32) : Nat → Int32 → Mem → Option (Int32 × Mem)
  | 0, _, _ => none
  | n + 1, a4_7, μ_8 =>
    if c2_5 ≤ a4_7 then
    (κ  μ_8)
    else
    bP (f_X8_axisOf (19 : Int32) ((c2_5 - (1 : Int32)) - a4_7) μ_8) fun v_9 =>
    gd (inb ((24 : Int32) + a4_7) 60) <|
    lt (sto μ_8 33 0 (((24 : Int32) + a4_7)).toNatClampNeg v_9) fun μ_10 =>
    lt (a4_7 + (1 : Int32)) fun x_11 =>
    f_X8_turn_L16 κ c1_4 c2_5 c3_6 n x_11 μ_10
def f_X8_turn_L111 (κ : Int32 → Option (Int32 × Mem)) (c1_33 : Int32) (c2_34 : Int32) (c3_35 : Int32) (c4_36 : Int32) (c5_37 : Int32) (c6_38 : Int32) (c7_39 : Int32) (c8_40 : Int32) (μ_43 : Mem) : Nat → Int32 → Int32 → Option (Int32 × Mem)
  | 0, _, _ => none
  | n + 1, a9_41, a10_42 =>
    if c2_34 ≤ a10_42 then
    (κ a9_41)
    else
    bP (f_X8_axisOf (19 : Int32) a10_42 μ_43) fun v_44 =>
    lt ((a9_41 * v_44)) fun x_45 =>
    lt (a10_42 + (1 : Int32)) fun x_46 =>
    f_X8_turn_L111 κ c1_33 c2_34 c3_35 c4_36 c5_37 c6_38 c7_39 c8_40 μ_43 n x_45 x_46
def f_X8_turn_L71 (κ : Int32 → Option (Int32 × Mem)) (c1_20 : Int32) (c2_21 : Int32) (c3_22 : Int32) (c4_23 : Int32) (μ_27 : Mem) : Nat → Int32 → Int32 → Int32 → Option (Int32 × Mem)
  | 0, _, _, _ => none
  | n + 1, a5_24, a6_25, a7_26 =>
    if a7_26 < 0 then
    (κ a6_25)
    else
    bP (f_X8_axisOf (8 : Int32) a7_26 μ_27) fun v_28 =>
    gd (nz v_28) <|
    lt ((a5_24 - a5_24 / v_28 * v_28)) fun x_29 =>
    bP (f_X8_axisOf (8 : Int32) a7_26 μ_27) fun v_30 =>
    gd (nz v_30) <|
    lt ((a5_24 / v_30)) fun x_31 =>
    lt ((c2_21 - a7_26)) fun x_32 =>
    f_X8_turn_L111 (fun (a9_48 : Int32) =>
     lt ((a6_25 + (x_29 * a9_48))) fun x_49 =>
     lt (a7_26 + (-1 : Int32)) fun x_50 =>
     f_X8_turn_L71 κ c1_20 c2_21 c3_22 c4_23 μ_27 n x_31 x_49 x_50) c1_20 c2_21 c3_22 c4_23 x_31 a6_25 a7_26 x_29 μ_27 1000 (1 : Int32) x_32
def f_X8_turn_L53 (κ : Mem → Option (Int32 × Mem)) (c1_14 : Int32) (c2_15 : Int32) (c3_16 : Int32) : Nat → Int32 → Mem → Option (Int32 × Mem)
  | 0, _, _ => none
  | n + 1, a4_17, μ_18 =>
    if c1_14 ≤ a4_17 then
    (κ  μ_18)
    else
    lt ((c2_15 - (1 : Int32))) fun x_19 =>
    f_X8_turn_L71 (fun (a6_52 : Int32) =>
     bP (f_X8_get (19 : Int32) a6_52 μ_18) fun v_53 =>
     bW (f_X8_set (8 : Int32) a4_17 v_53 μ_18) fun u_54 μ_55 =>
     lt (a4_17 + (1 : Int32)) fun x_56 =>
     f_X8_turn_L53 κ c1_14 c2_15 c3_16 n x_56 μ_55) c1_14 c2_15 c3_16 a4_17 μ_18 1000 a4_17 (0 : Int32) x_19
def f_X8_turn (a1 : Int32) (μ : Mem) : Option (Int32 × Mem) :=
  gd (inb (19 : Int32) 20) <|
  lt ((μ 32 0 ((19 : Int32)).toNatClampNeg)) fun x_1 =>
  bW (f_X8_same μ) fun v_2 μ_3 =>
  f_X8_turn_L16 (fun (μ_13 : Mem) =>
   f_X8_turn_L53 (fun (μ_58 : Mem) =>
    gd (isb v_2) <|
    some (v_2, μ_58)) a1 x_1 v_2 1000 (0 : Int32) μ_13) a1 x_1 v_2 1000 (0 : Int32) μ_3
def f_X8_reverse_L15 (κ : Mem → Option (Int32 × Mem)) (c1_4 : Int32) (c2_5 : Int32) (c3_6 : Int32) : Nat → Int32 → Mem → Option (Int32 × Mem)
  | 0, _, _ => none
  | n + 1, a4_7, μ_8 =>
    if c1_4 ≤ a4_7 then
    (κ  μ_8)
    else
    gd (nz c2_5) <|
    gd (nz c2_5) <|
    bP (f_X8_get (19 : Int32) (((a4_7 / c2_5) * c2_5) + ((c2_5 - (1 : Int32)) - (a4_7 - a4_7 / c2_5 * c2_5))) μ_8) fun v_9 =>
    bW (f_X8_set (8 : Int32) a4_7 v_9 μ_8) fun u_10 μ_11 =>
    lt (a4_7 + (1 : Int32)) fun x_12 =>
    f_X8_reverse_L15 κ c1_4 c2_5 c3_6 n x_12 μ_11
def f_X8_reverse (a1 : Int32) (μ : Mem) : Option (Int32 × Mem) :=
  bP (f_X8_last (19 : Int32) μ) fun v_1 =>
  bW (f_X8_same μ) fun v_2 μ_3 =>
  f_X8_reverse_L15 (fun (μ_14 : Mem) =>
   gd (isb v_2) <|
   some (v_2, μ_14)) a1 v_1 v_2 1000 (0 : Int32) μ_3
def f_X8_single_L290 (κ : Mem → Option (Int32 × Mem)) (c2_9 : Int32) : Nat → Int32 → Mem → Option (Int32 × Mem)
  | 0, _, _ => none
  | n + 1, a4_10, μ_11 =>
    if c2_9 ≤ a4_10 then
    (κ  μ_11)
    else
    bP (f_X8_get (19 : Int32) a4_10 μ_11) fun v_12 =>
    bW (f_X8_set (8 : Int32) a4_10 v_12 μ_11) fun u_13 μ_14 =>
    lt (a4_10 + (1 : Int32)) fun x_15 =>
    f_X8_single_L290 κ c2_9 n x_15 μ_14
def f_X8_single_L238 (κ : Mem → Option (Int32 × Mem)) (c3_20 : Int32) : Nat → Int32 → Mem → Option (Int32 × Mem)
  | 0, _, _ => none
  | n + 1, a4_21, μ_22 =>
    if c3_20 ≤ a4_21 then
    (κ  μ_22)
    else
    bP (f_X8_axisOf (19 : Int32) a4_21 μ_22) fun v_23 =>
    bW (f_X8_set (8 : Int32) a4_21 v_23 μ_22) fun u_24 μ_25 =>
    lt (a4_21 + (1 : Int32)) fun x_26 =>
    f_X8_single_L238 κ c3_20 n x_26 μ_25
def f_X8_single_L81 (κ : Mem → Option (Int32 × Mem)) (c1_33 : Int32) (c2_34 : Int32) (c4_35 : Int32) : Nat → Int32 → Mem → Option (Int32 × Mem)
  | 0, _, _ => none
  | n + 1, a5_36, μ_37 =>
    if c2_34 ≤ a5_36 then
    (κ  μ_37)
    else
    if (μ_37 30 0 16) = 0 then
    (bP (f_X8_get (19 : Int32) a5_36 μ_37) fun v_38 =>
     lt ((v_38).toInt64) fun x_39 =>
     jn (fun (s_40 : Int32) (μ_41 : Mem) =>
      bW (f_X8_set (8 : Int32) a5_36 s_40 μ_41) fun u_43 μ_44 =>
      lt (a5_36 + (1 : Int32)) fun x_45 =>
      f_X8_single_L81 κ c1_33 c2_34 c4_35 n x_45 μ_44) fun j_42 =>
     if c1_33 = (20 : Int32) then
     (bW (f_X8_ofInt (-x_39) μ_37) fun v_50 μ_51 =>
      j_42 v_50 μ_51)
     else
     if c1_33 = (21 : Int32) then
     (jn (fun (s_46 : Int64) =>
       bW (f_X8_ofInt s_46 μ_37) fun v_48 μ_49 =>
       j_42 v_48 μ_49) fun j_47 =>
      if 0 ≤ (lg_cmp x_39 (0 : Int64)) then
      (j_47 x_39)
      else
      j_47 (-x_39))
     else
     if 0 ≤ (lg_cmp x_39 (0 : Int64)) then
     (if (lg_cmp x_39 (0 : Int64)) ≤ 0 then
      (j_42 (0 : Int32) μ_37)
      else
      j_42 (1 : Int32) μ_37)
     else
     j_42 (-1 : Int32) μ_37)
    else
    κ  μ_37
def f_X8_single (a1 : Int32) (μ : Mem) : Option (Int32 × Mem) :=
  bP (f_X8_sizeOf (19 : Int32) μ) fun v_1 =>
  gd (inb (19 : Int32) 20) <|
  lt ((μ 32 0 ((19 : Int32)).toNatClampNeg)) fun x_2 =>
  if (10 : Int32) ≤ a1 then
  (if (20 : Int32) ≤ a1 then
   (if (23 : Int32) ≤ a1 then
    (if a1 = (23 : Int32) then
     (bW (f_X8_count v_1 μ) fun v_29 μ_30 =>
      gd (isb v_29) <|
      some (v_29, μ_30))
     else
     if a1 = (24 : Int32) then
     (bW (f_X8_shape (1 : Int32) x_2 (0 : Int32) (0 : Int32) μ) fun v_18 μ_19 =>
      if v_18 = 0 then
      (some ((0 : Int32), μ_19))
      else
      f_X8_single_L238 (fun (μ_28 : Mem) =>
       some ((1 : Int32), μ_28)) x_2 1000 (0 : Int32) μ_19)
     else
     if a1 = (25 : Int32) then
     (bW (f_X8_shape (1 : Int32) v_1 (0 : Int32) (0 : Int32) μ) fun v_7 μ_8 =>
      if v_7 = 0 then
      (some ((0 : Int32), μ_8))
      else
      f_X8_single_L290 (fun (μ_17 : Mem) =>
       some ((1 : Int32), μ_17)) v_1 1000 (0 : Int32) μ_8)
     else
     if a1 = (26 : Int32) then
     (bW (f_X8_turn v_1 μ) fun v_5 μ_6 =>
      gd (isb v_5) <|
      some (v_5, μ_6))
     else
     bW (f_X8_reverse v_1 μ) fun v_3 μ_4 =>
     gd (isb v_3) <|
     some (v_3, μ_4))
    else
    bW (f_X8_same μ) fun v_31 μ_32 =>
    f_X8_single_L81 (fun (μ_53 : Mem) =>
     jn (fun (_ : Unit) =>
      some ((0 : Int32), μ_53)) fun j_54 =>
     if v_31 = 0 then
     (j_54 ())
     else
     if (μ_53 30 0 16) = 0 then
     (some ((1 : Int32), μ_53))
     else
     j_54 ()) a1 v_1 v_31 1000 (0 : Int32) μ_32)
   else
   if x_2 = 0 then
   (bW (f_X8_same μ) fun v_57 μ_58 =>
    gd (isb v_57) <|
    some (v_57, μ_58))
   else
   bW (f_X8_scan (a1 - (10 : Int32)) v_1 μ) fun v_55 μ_56 =>
   gd (isb v_55) <|
   some (v_55, μ_56))
  else
  if x_2 = 0 then
  (bW (f_X8_same μ) fun v_61 μ_62 =>
   gd (isb v_61) <|
   some (v_61, μ_62))
  else
  bW (f_X8_reduce a1 v_1 μ) fun v_59 μ_60 =>
  gd (isb v_59) <|
  some (v_59, μ_60)
def f_X8_each_L103 (κ : Mem → Option (Int32 × Mem)) (c1_10 : Int32) (c2_11 : Int32) (c3_12 : Int32) (c4_13 : Int32) : Nat → Int32 → Mem → Option (Int32 × Mem)
  | 0, _, _ => none
  | n + 1, a5_14, μ_15 =>
    if c4_13 ≤ a5_14 then
    (κ  μ_15)
    else
    if (μ_15 30 0 16) = 0 then
    (jn (fun (s_16 : Int32) =>
      bP (f_X8_get (18 : Int32) s_16 μ_15) fun v_18 =>
      jn (fun (s_19 : Int32) =>
       bP (f_X8_get (19 : Int32) s_19 μ_15) fun v_21 =>
       bW (f_X8_number c1_10 (v_18).toInt64 (v_21).toInt64 μ_15) fun v_22 μ_23 =>
       bW (f_X8_set (8 : Int32) a5_14 v_22 μ_23) fun u_24 μ_25 =>
       lt (a5_14 + (1 : Int32)) fun x_26 =>
       f_X8_each_L103 κ c1_10 c2_11 c3_12 c4_13 n x_26 μ_25) fun j_20 =>
      if c3_12 = 0 then
      (j_20 (0 : Int32))
      else
      j_20 a5_14) fun j_17 =>
     if c2_11 = 0 then
     (j_17 (0 : Int32))
     else
     j_17 a5_14)
    else
    κ  μ_15
def f_X8_each_L38 (κ : Unit → Option (Int32 × Mem)) (c1_29 : Int32) (c2_30 : Int32) (c3_31 : Int32) (μ_33 : Mem) : Nat → Int32 → Option (Int32 × Mem)
  | 0, _ => none
  | n + 1, a4_32 =>
    if c2_30 ≤ a4_32 then
    (κ ())
    else
    bP (f_X8_axisOf (18 : Int32) a4_32 μ_33) fun v_34 =>
    bP (f_X8_axisOf (19 : Int32) a4_32 μ_33) fun v_35 =>
    if v_34 = v_35 then
    (lt (a4_32 + (1 : Int32)) fun x_36 =>
     f_X8_each_L38 κ c1_29 c2_30 c3_31 μ_33 n x_36)
    else
    bW (f_X8_stop (3 : Int32) μ_33) fun v_37 μ_38 =>
    gd (isb v_37) <|
    some (v_37, μ_38)
def f_X8_each (a1 : Int32) (μ : Mem) : Option (Int32 × Mem) :=
  gd (inb (18 : Int32) 20) <|
  lt ((μ 32 0 ((18 : Int32)).toNatClampNeg)) fun x_1 =>
  gd (inb (19 : Int32) 20) <|
  lt ((μ 32 0 ((19 : Int32)).toNatClampNeg)) fun x_2 =>
  jn (fun (μ_3 : Mem) =>
   jn (fun (s_5 : Int32) =>
    bW (f_X8_copy s_5 (8 : Int32) μ_3) fun u_7 μ_8 =>
    bP (f_X8_sizeOf (8 : Int32) μ_8) fun v_9 =>
    f_X8_each_L103 (fun (μ_28 : Mem) =>
     if (μ_28 30 0 16) = 0 then
     (some ((1 : Int32), μ_28))
     else
     some ((0 : Int32), μ_28)) a1 x_1 x_2 v_9 1000 (0 : Int32) μ_8) fun j_6 =>
   if x_1 = 0 then
   (j_6 (19 : Int32))
   else
   j_6 (18 : Int32)) fun j_4 =>
  if x_1 = 0 then
  (j_4 μ)
  else
  if x_2 = 0 then
  (j_4 μ)
  else
  if x_1 = x_2 then
  (f_X8_each_L38 (fun (_ : Unit) =>
    j_4 μ) a1 x_1 x_2 μ 1000 (0 : Int32))
  else
  bW (f_X8_stop (4 : Int32) μ) fun v_39 μ_40 =>
  gd (isb v_39) <|
  some (v_39, μ_40)
def f_X8_joined (a1 : Int32) (a2 : Int32) (a3 : Int32) (μ : Mem) : Option (Int32) :=
  gd (inb (18 : Int32) 20) <|
  lt (((μ 32 0 ((18 : Int32)).toNatClampNeg) - a2)) fun x_1 =>
  if x_1 ≤ a1 then
  (lt (((a1 - x_1) + a3)) fun x_2 =>
   gd (inb (19 : Int32) 20) <|
   if (μ 32 0 ((19 : Int32)).toNatClampNeg) ≤ x_2 then
   (some (0 : Int32))
   else
   bP (f_X8_axisOf (19 : Int32) x_2 μ) fun v_3 =>
   some v_3)
  else
  bP (f_X8_axisOf (18 : Int32) a1 μ) fun v_4 =>
  some v_4
def f_X8_outer_L76 (κ : Mem → Option (Int32 × Mem)) (c1_9 : Int32) (c3_10 : Int32) (c4_11 : Int32) : Nat → Int32 → Mem → Option (Int32 × Mem)
  | 0, _, _ => none
  | n + 1, a5_12, μ_13 =>
    if c3_10 ≤ a5_12 then
    (κ  μ_13)
    else
    if (μ_13 30 0 16) = 0 then
    (gd (nz c4_11) <|
     bP (f_X8_get (18 : Int32) (a5_12 / c4_11) μ_13) fun v_14 =>
     gd (nz c4_11) <|
     bP (f_X8_get (19 : Int32) (a5_12 - a5_12 / c4_11 * c4_11) μ_13) fun v_15 =>
     bW (f_X8_number c1_9 (v_14).toInt64 (v_15).toInt64 μ_13) fun v_16 μ_17 =>
     bW (f_X8_set (8 : Int32) a5_12 v_16 μ_17) fun u_18 μ_19 =>
     lt (a5_12 + (1 : Int32)) fun x_20 =>
     f_X8_outer_L76 κ c1_9 c3_10 c4_11 n x_20 μ_19)
    else
    κ  μ_13
def f_X8_outer (a1 : Int32) (μ : Mem) : Option (Int32 × Mem) :=
  gd (inb (18 : Int32) 20) <|
  gd (inb (19 : Int32) 20) <|
  lt (((μ 32 0 ((18 : Int32)).toNatClampNeg) + (μ 32 0 ((19 : Int32)).toNatClampNeg))) fun x_1 =>
  if x_1 ≤ (3 : Int32) then
  (bP (f_X8_joined (0 : Int32) (0 : Int32) (0 : Int32) μ) fun v_2 =>
   bP (f_X8_joined (1 : Int32) (0 : Int32) (0 : Int32) μ) fun v_3 =>
   bP (f_X8_joined (2 : Int32) (0 : Int32) (0 : Int32) μ) fun v_4 =>
   bW (f_X8_shape x_1 v_2 v_3 v_4 μ) fun v_5 μ_6 =>
   if v_5 = 0 then
   (some ((0 : Int32), μ_6))
   else
   bP (f_X8_sizeOf (8 : Int32) μ_6) fun v_7 =>
   bP (f_X8_sizeOf (19 : Int32) μ_6) fun v_8 =>
   f_X8_outer_L76 (fun (μ_22 : Mem) =>
    if (μ_22 30 0 16) = 0 then
    (some ((1 : Int32), μ_22))
    else
    some ((0 : Int32), μ_22)) a1 v_7 v_8 1000 (0 : Int32) μ_6)
  else
  bW (f_X8_stop (4 : Int32) μ) fun v_23 μ_24 =>
  gd (isb v_23) <|
  some (v_23, μ_24)
def f_X8_reshape_L31 (κ : Unit → Option (Int32 × Mem)) (c1_5 : Int32) (μ_7 : Mem) : Nat → Int32 → Option (Int32 × Mem)
  | 0, _ => none
  | n + 1, a2_6 =>
    if c1_5 ≤ a2_6 then
    (κ ())
    else
    bP (f_X8_get (18 : Int32) a2_6 μ_7) fun v_8 =>
    if 0 ≤ v_8 then
    (lt (a2_6 + (1 : Int32)) fun x_9 =>
     f_X8_reshape_L31 κ c1_5 μ_7 n x_9)
    else
    bW (f_X8_stop (2 : Int32) μ_7) fun v_10 μ_11 =>
    gd (isb v_10) <|
    some (v_10, μ_11)
def f_X8_reshape_L146 (κ : Mem → Option (Int32 × Mem)) (c2_24 : Int32) (c3_25 : Int32) : Nat → Int32 → Mem → Option (Int32 × Mem)
  | 0, _, _ => none
  | n + 1, a4_26, μ_27 =>
    if c2_24 ≤ a4_26 then
    (κ  μ_27)
    else
    gd (nz c3_25) <|
    bP (f_X8_get (19 : Int32) (a4_26 - a4_26 / c3_25 * c3_25) μ_27) fun v_28 =>
    bW (f_X8_set (8 : Int32) a4_26 v_28 μ_27) fun u_29 μ_30 =>
    lt (a4_26 + (1 : Int32)) fun x_31 =>
    f_X8_reshape_L146 κ c2_24 c3_25 n x_31 μ_30
def f_X8_reshape  (μ : Mem) : Option (Int32 × Mem) :=
  bP (f_X8_sizeOf (18 : Int32) μ) fun v_1 =>
  gd (inb (18 : Int32) 20) <|
  jn (fun (_ : Unit) =>
   bW (f_X8_stop (4 : Int32) μ) fun v_3 μ_4 =>
   gd (isb v_3) <|
   some (v_3, μ_4)) fun j_2 =>
  if (1 : Int32) < (μ 32 0 ((18 : Int32)).toNatClampNeg) then
  (j_2 ())
  else
  if v_1 ≤ (3 : Int32) then
  (f_X8_reshape_L31 (fun (_ : Unit) =>
    jn (fun (s_12 : Int32) =>
     jn (fun (s_14 : Int32) =>
      jn (fun (s_16 : Int32) =>
       bW (f_X8_shape v_1 s_12 s_14 s_16 μ) fun v_18 μ_19 =>
       if v_18 = 0 then
       (some ((0 : Int32), μ_19))
       else
       bP (f_X8_sizeOf (8 : Int32) μ_19) fun v_20 =>
       bP (f_X8_sizeOf (19 : Int32) μ_19) fun v_21 =>
       jn (fun (μ_22 : Mem) =>
        f_X8_reshape_L146 (fun (μ_33 : Mem) =>
         some ((1 : Int32), μ_33)) v_20 v_21 1000 (0 : Int32) μ_22) fun j_23 =>
       if v_20 ≤ 0 then
       (j_23 μ_19)
       else
       if v_21 = 0 then
       (bW (f_X8_stop (3 : Int32) μ_19) fun v_34 μ_35 =>
        gd (isb v_34) <|
        some (v_34, μ_35))
       else
       j_23 μ_19) fun j_17 =>
      if v_1 ≤ (2 : Int32) then
      (j_17 (0 : Int32))
      else
      bP (f_X8_get (18 : Int32) (2 : Int32) μ) fun v_36 =>
      j_17 v_36) fun j_15 =>
     if v_1 ≤ (1 : Int32) then
     (j_15 (0 : Int32))
     else
     bP (f_X8_get (18 : Int32) (1 : Int32) μ) fun v_37 =>
     j_15 v_37) fun j_13 =>
    if v_1 ≤ 0 then
    (j_13 (0 : Int32))
    else
    bP (f_X8_get (18 : Int32) (0 : Int32) μ) fun v_38 =>
    j_13 v_38) v_1 μ 1000 (0 : Int32))
  else
  j_2 ()
def f_X8_width (a1 : Int32) (a2 : Int32) (μ : Mem) : Option (Int32) :=
  gd (inb a1 20) <|
  if (μ 32 0 (a1).toNatClampNeg) = a2 then
  (bP (f_X8_last a1 μ) fun v_1 =>
   some v_1)
  else
  some (1 : Int32)
def f_X8_before (a1 : Int32) (a2 : Int32) (a3 : Int32) (a4 : Int32) (μ : Mem) : Option (Int32) :=
  gd (inb a1 20) <|
  if (μ 32 0 (a1).toNatClampNeg) = 0 then
  (bP (f_X8_axisOf a3 a4 μ) fun v_2 =>
   some v_2)
  else
  bP (f_X8_axisOf a1 a4 μ) fun v_1 =>
  some v_1
def f_X8_join_L64 (κ : Unit → Option (Int32 × Mem)) (c1_9 : Int32) (c2_10 : Int32) (c3_11 : Int32) (μ_13 : Mem) : Nat → Int32 → Option (Int32 × Mem)
  | 0, _ => none
  | n + 1, a4_12 =>
    if (c3_11 - (1 : Int32)) ≤ a4_12 then
    (κ ())
    else
    jn (fun (_ : Unit) =>
     lt (a4_12 + (1 : Int32)) fun x_15 =>
     f_X8_join_L64 κ c1_9 c2_10 c3_11 μ_13 n x_15) fun j_14 =>
    if c1_9 = 0 then
    (j_14 ())
    else
    if c2_10 = 0 then
    (j_14 ())
    else
    bP (f_X8_axisOf (18 : Int32) a4_12 μ_13) fun v_16 =>
    bP (f_X8_axisOf (19 : Int32) a4_12 μ_13) fun v_17 =>
    if v_16 = v_17 then
    (j_14 ())
    else
    bW (f_X8_stop (3 : Int32) μ_13) fun v_18 μ_19 =>
    gd (isb v_18) <|
    some (v_18, μ_19)
def f_X8_join_L243 (κ : Mem → Option (Int32 × Mem)) (c1_33 : Int32) (c2_34 : Int32) (c4_35 : Int32) (c5_36 : Int32) (c8_37 : Int32) : Nat → Int32 → Mem → Option (Int32 × Mem)
  | 0, _, _ => none
  | n + 1, a9_38, μ_39 =>
    if c8_37 ≤ a9_38 then
    (κ  μ_39)
    else
    gd (nz (c4_35 + c5_36)) <|
    lt ((a9_38 / (c4_35 + c5_36))) fun x_40 =>
    gd (nz (c4_35 + c5_36)) <|
    lt ((a9_38 - a9_38 / (c4_35 + c5_36) * (c4_35 + c5_36))) fun x_41 =>
    jn (fun (s_42 : Int32) =>
     bW (f_X8_set (8 : Int32) a9_38 s_42 μ_39) fun u_44 μ_45 =>
     lt (a9_38 + (1 : Int32)) fun x_46 =>
     f_X8_join_L243 κ c1_33 c2_34 c4_35 c5_36 c8_37 n x_46 μ_45) fun j_43 =>
    if c4_35 ≤ x_41 then
    (jn (fun (s_47 : Int32) =>
      bP (f_X8_get (19 : Int32) s_47 μ_39) fun v_49 =>
      j_43 v_49) fun j_48 =>
     if c2_34 = 0 then
     (j_48 (0 : Int32))
     else
     j_48 (((c5_36 * x_40) + x_41) - c4_35))
    else
    jn (fun (s_50 : Int32) =>
     bP (f_X8_get (18 : Int32) s_50 μ_39) fun v_52 =>
     j_43 v_52) fun j_51 =>
    if c1_33 = 0 then
    (j_51 (0 : Int32))
    else
    j_51 ((c4_35 * x_40) + x_41)
def f_X8_join  (μ : Mem) : Option (Int32 × Mem) :=
  gd (inb (18 : Int32) 20) <|
  lt ((μ 32 0 ((18 : Int32)).toNatClampNeg)) fun x_1 =>
  gd (inb (19 : Int32) 20) <|
  lt ((μ 32 0 ((19 : Int32)).toNatClampNeg)) fun x_2 =>
  jn (fun (s_3 : Int32) =>
   jn (fun (a3_5 : Int32) =>
    jn (fun (μ_7 : Mem) =>
     f_X8_join_L64 (fun (_ : Unit) =>
      jn (fun (s_20 : Int32) =>
       jn (fun (s_22 : Int32) =>
        jn (fun (s_24 : Int32) =>
         jn (fun (s_26 : Int32) =>
          jn (fun (s_28 : Int32) =>
           bW (f_X8_shape a3_5 s_24 s_26 s_28 μ_7) fun v_30 μ_31 =>
           if v_30 = 0 then
           (some ((0 : Int32), μ_31))
           else
           bP (f_X8_sizeOf (8 : Int32) μ_31) fun v_32 =>
           f_X8_join_L243 (fun (μ_54 : Mem) =>
            some ((1 : Int32), μ_54)) x_1 x_2 s_20 s_22 v_32 1000 (0 : Int32) μ_31) fun j_29 =>
          if a3_5 = (3 : Int32) then
          (j_29 (s_20 + s_22))
          else
          j_29 (0 : Int32)) fun j_27 =>
         if a3_5 = (2 : Int32) then
         (j_27 (s_20 + s_22))
         else
         if a3_5 ≤ (2 : Int32) then
         (j_27 (0 : Int32))
         else
         bP (f_X8_before (18 : Int32) a3_5 (19 : Int32) (1 : Int32) μ_7) fun v_55 =>
         j_27 v_55) fun j_25 =>
        if a3_5 = (1 : Int32) then
        (j_25 (s_20 + s_22))
        else
        bP (f_X8_before (18 : Int32) a3_5 (19 : Int32) (0 : Int32) μ_7) fun v_56 =>
        j_25 v_56) fun j_23 =>
       if x_2 = 0 then
       (j_23 (1 : Int32))
       else
       bP (f_X8_width (19 : Int32) a3_5 μ_7) fun v_57 =>
       j_23 v_57) fun j_21 =>
      if x_1 = 0 then
      (j_21 (1 : Int32))
      else
      bP (f_X8_width (18 : Int32) a3_5 μ_7) fun v_58 =>
      j_21 v_58) x_1 x_2 a3_5 μ_7 1000 (0 : Int32)) fun j_8 =>
    if x_1 = 0 then
    (j_8 μ)
    else
    if x_2 = 0 then
    (j_8 μ)
    else
    jn (fun (_ : Unit) =>
     bW (f_X8_stop (4 : Int32) μ) fun v_60 μ_61 =>
     gd (isb v_60) <|
     some (v_60, μ_61)) fun j_59 =>
    if (1 : Int32) < (x_1 - x_2) then
    (j_59 ())
    else
    if (x_2 - x_1) ≤ (1 : Int32) then
    (j_8 μ)
    else
    j_59 ()) fun j_6 =>
   if s_3 = 0 then
   (j_6 (1 : Int32))
   else
   j_6 s_3) fun j_4 =>
  if x_1 ≤ x_2 then
  (j_4 x_2)
  else
  j_4 x_1
def f_X8_pick_L74 (κ : Int32 → Option (Int32 × Mem))  (μ_12 : Mem) : Nat → Int32 → Int32 → Option (Int32 × Mem)
  | 0, _, _ => none
  | n + 1, a2_10, a3_11 =>
    gd (inb (19 : Int32) 20) <|
    if (μ_12 32 0 ((19 : Int32)).toNatClampNeg) ≤ a3_11 then
    (κ a2_10)
    else
    bP (f_X8_axisOf (19 : Int32) a3_11 μ_12) fun v_13 =>
    lt ((a2_10 * v_13)) fun x_14 =>
    lt (a3_11 + (1 : Int32)) fun x_15 =>
    f_X8_pick_L74 κ  μ_12 n x_14 x_15
def f_X8_pick_L153 (κ : Mem → Option (Int32 × Mem)) (c2_27 : Int32) (c3_28 : Int32) (c4_29 : Int32) (c5_30 : Int32) : Nat → Int32 → Mem → Option (Int32 × Mem)
  | 0, _, _ => none
  | n + 1, a6_31, μ_32 =>
    if c2_27 ≤ a6_31 then
    (κ  μ_32)
    else
    bP (f_X8_get (19 : Int32) ((c2_27 * c5_30) + a6_31) μ_32) fun v_33 =>
    bW (f_X8_set (8 : Int32) ((c2_27 * c4_29) + a6_31) v_33 μ_32) fun u_34 μ_35 =>
    lt (a6_31 + (1 : Int32)) fun x_36 =>
    f_X8_pick_L153 κ c2_27 c3_28 c4_29 c5_30 n x_36 μ_35
def f_X8_pick_L111 (κ : Mem → Option (Int32 × Mem)) (c2_19 : Int32) (c3_20 : Int32) : Nat → Int32 → Mem → Option (Int32 × Mem)
  | 0, _, _ => none
  | n + 1, a4_21, μ_22 =>
    if c3_20 ≤ a4_21 then
    (κ  μ_22)
    else
    bP (f_X8_get (18 : Int32) a4_21 μ_22) fun v_23 =>
    if v_23 < 0 then
    (bW (f_X8_stop (5 : Int32) μ_22) fun v_24 μ_25 =>
     gd (isb v_24) <|
     some (v_24, μ_25))
    else
    bP (f_X8_axisOf (19 : Int32) (0 : Int32) μ_22) fun v_26 =>
    if v_23 < v_26 then
    (f_X8_pick_L153 (fun (μ_38 : Mem) =>
      lt (a4_21 + (1 : Int32)) fun x_39 =>
      f_X8_pick_L111 κ c2_19 c3_20 n x_39 μ_38) c2_19 c3_20 a4_21 v_23 1000 (0 : Int32) μ_22)
    else
    bW (f_X8_stop (5 : Int32) μ_22) fun v_40 μ_41 =>
    gd (isb v_40) <|
    some (v_40, μ_41)
def f_X8_pick  (μ : Mem) : Option (Int32 × Mem) :=
  gd (inb (18 : Int32) 20) <|
  gd (inb (19 : Int32) 20) <|
  lt (((μ 32 0 ((18 : Int32)).toNatClampNeg) + (μ 32 0 ((19 : Int32)).toNatClampNeg))) fun x_1 =>
  gd (inb (19 : Int32) 20) <|
  jn (fun (_ : Unit) =>
   bW (f_X8_stop (4 : Int32) μ) fun v_3 μ_4 =>
   gd (isb v_3) <|
   some (v_3, μ_4)) fun j_2 =>
  if (μ 32 0 ((19 : Int32)).toNatClampNeg) = 0 then
  (j_2 ())
  else
  if x_1 ≤ (4 : Int32) then
  (bP (f_X8_joined (0 : Int32) (0 : Int32) (1 : Int32) μ) fun v_5 =>
   bP (f_X8_joined (1 : Int32) (0 : Int32) (1 : Int32) μ) fun v_6 =>
   bP (f_X8_joined (2 : Int32) (0 : Int32) (1 : Int32) μ) fun v_7 =>
   bW (f_X8_shape (x_1 - (1 : Int32)) v_5 v_6 v_7 μ) fun v_8 μ_9 =>
   if v_8 = 0 then
   (some ((0 : Int32), μ_9))
   else
   f_X8_pick_L74 (fun (a2_17 : Int32) =>
    bP (f_X8_sizeOf (18 : Int32) μ_9) fun v_18 =>
    f_X8_pick_L111 (fun (μ_43 : Mem) =>
     some ((1 : Int32), μ_43)) a2_17 v_18 1000 (0 : Int32) μ_9)  μ_9 1000 (1 : Int32) (1 : Int32))
  else
  j_2 ()
def f_X8_inner_L120 (κ : Int32 → Option (Int32 × Mem)) (c1_13 : Int32) (c2_14 : Int32) (c4_15 : Int32) (c5_16 : Int32) (μ_19 : Mem) : Nat → Int32 → Int32 → Option (Int32 × Mem)
  | 0, _, _ => none
  | n + 1, a6_17, a7_18 =>
    gd (inb (19 : Int32) 20) <|
    if (μ_19 32 0 ((19 : Int32)).toNatClampNeg) ≤ a7_18 then
    (κ a6_17)
    else
    bP (f_X8_axisOf (19 : Int32) a7_18 μ_19) fun v_20 =>
    lt ((a6_17 * v_20)) fun x_21 =>
    lt (a7_18 + (1 : Int32)) fun x_22 =>
    f_X8_inner_L120 κ c1_13 c2_14 c4_15 c5_16 μ_19 n x_21 x_22
def f_X8_inner_L171 (κ : Mem → Option (Int32 × Mem)) (c1_32 : Int32) (c2_33 : Int32) (c4_34 : Int32) (c5_35 : Int32) (c6_36 : Int32) (c7_37 : Int32) : Nat → Int32 → Mem → Option (Int32 × Mem)
  | 0, _, _ => none
  | n + 1, a8_38, μ_39 =>
    if c4_34 ≤ a8_38 then
    (κ  μ_39)
    else
    if (μ_39 30 0 16) = 0 then
    (gd (nz c6_36) <|
     bP (f_X8_get (18 : Int32) (((c7_37 / c6_36) * c4_34) + a8_38) μ_39) fun v_40 =>
     gd (nz c6_36) <|
     bP (f_X8_get (19 : Int32) ((a8_38 * c6_36) + (c7_37 - c7_37 / c6_36 * c6_36)) μ_39) fun v_41 =>
     bW (f_X8_number c2_33 (v_40).toInt64 (v_41).toInt64 μ_39) fun v_42 μ_43 =>
     gd (inb a8_38 49) <|
     lt (sto μ_43 42 0 (a8_38).toNatClampNeg v_42) fun μ_44 =>
     lt (a8_38 + (1 : Int32)) fun x_45 =>
     f_X8_inner_L171 κ c1_32 c2_33 c4_34 c5_35 c6_36 c7_37 n x_45 μ_44)
    else
    κ  μ_39
def f_X8_inner_L154 (κ : Mem → Option (Int32 × Mem)) (c1_25 : Int32) (c2_26 : Int32) (c4_27 : Int32) (c5_28 : Int32) (c6_29 : Int32) : Nat → Int32 → Mem → Option (Int32 × Mem)
  | 0, _, _ => none
  | n + 1, a7_30, μ_31 =>
    if c5_28 ≤ a7_30 then
    (κ  μ_31)
    else
    if (μ_31 30 0 16) = 0 then
    (f_X8_inner_L171 (fun (μ_47 : Mem) =>
      jn (fun (μ_48 : Mem) =>
       lt (a7_30 + (1 : Int32)) fun x_50 =>
       f_X8_inner_L154 κ c1_25 c2_26 c4_27 c5_28 c6_29 n x_50 μ_48) fun j_49 =>
      if (μ_47 30 0 16) = 0 then
      (bW (f_X8_folded c1_25 c4_27 μ_47) fun v_51 μ_52 =>
       bW (f_X8_set (8 : Int32) a7_30 v_51 μ_52) fun u_53 μ_54 =>
       j_49 μ_54)
      else
      j_49 μ_47) c1_25 c2_26 c4_27 c5_28 c6_29 a7_30 1000 (0 : Int32) μ_31)
    else
    κ  μ_31
def f_X8_inner (a1 : Int32) (a2 : Int32) (μ : Mem) : Option (Int32 × Mem) :=
  gd (inb (18 : Int32) 20) <|
  gd (inb (19 : Int32) 20) <|
  lt (((μ 32 0 ((18 : Int32)).toNatClampNeg) + (μ 32 0 ((19 : Int32)).toNatClampNeg))) fun x_1 =>
  gd (inb (18 : Int32) 20) <|
  jn (fun (_ : Unit) =>
   bW (f_X8_stop (4 : Int32) μ) fun v_3 μ_4 =>
   gd (isb v_3) <|
   some (v_3, μ_4)) fun j_2 =>
  if (μ 32 0 ((18 : Int32)).toNatClampNeg) = 0 then
  (j_2 ())
  else
  gd (inb (19 : Int32) 20) <|
  if (μ 32 0 ((19 : Int32)).toNatClampNeg) = 0 then
  (j_2 ())
  else
  if x_1 ≤ (5 : Int32) then
  (bP (f_X8_last (18 : Int32) μ) fun v_5 =>
   bP (f_X8_axisOf (19 : Int32) (0 : Int32) μ) fun v_6 =>
   if v_5 = v_6 then
   (bP (f_X8_joined (0 : Int32) (1 : Int32) (1 : Int32) μ) fun v_7 =>
    bP (f_X8_joined (1 : Int32) (1 : Int32) (1 : Int32) μ) fun v_8 =>
    bP (f_X8_joined (2 : Int32) (1 : Int32) (1 : Int32) μ) fun v_9 =>
    bW (f_X8_shape (x_1 - (2 : Int32)) v_7 v_8 v_9 μ) fun v_10 μ_11 =>
    if v_10 = 0 then
    (some ((0 : Int32), μ_11))
    else
    bP (f_X8_sizeOf (8 : Int32) μ_11) fun v_12 =>
    f_X8_inner_L120 (fun (a6_24 : Int32) =>
     f_X8_inner_L154 (fun (μ_56 : Mem) =>
      if (μ_56 30 0 16) = 0 then
      (some ((1 : Int32), μ_56))
      else
      some ((0 : Int32), μ_56)) a1 a2 v_5 v_12 a6_24 1000 (0 : Int32) μ_11) a1 a2 v_5 v_12 μ_11 1000 (1 : Int32) (1 : Int32))
   else
   bW (f_X8_stop (3 : Int32) μ) fun v_57 μ_58 =>
   gd (isb v_57) <|
   some (v_57, μ_58))
  else
  j_2 ()
def f_X8_pair (a1 : Int32) (μ : Mem) : Option (Int32 × Mem) :=
  if (10 : Int32) ≤ a1 then
  (if (30 : Int32) ≤ a1 then
   (if a1 = (30 : Int32) then
    (bW (f_X8_reshape μ) fun v_7 μ_8 =>
     gd (isb v_7) <|
     some (v_7, μ_8))
    else
    if a1 = (31 : Int32) then
    (bW (f_X8_join μ) fun v_5 μ_6 =>
     gd (isb v_5) <|
     some (v_5, μ_6))
    else
    if a1 = (32 : Int32) then
    (bW (f_X8_pick μ) fun v_3 μ_4 =>
     gd (isb v_3) <|
     some (v_3, μ_4))
    else
    gd (nz (10 : Int32)) <|
    gd (nz (10 : Int32)) <|
    bW (f_X8_inner ((a1 - (100 : Int32)) / (10 : Int32)) ((a1 - (100 : Int32)) - (a1 - (100 : Int32)) / (10 : Int32) * (10 : Int32)) μ) fun v_1 μ_2 =>
    gd (isb v_1) <|
    some (v_1, μ_2))
   else
   bW (f_X8_outer (a1 - (20 : Int32)) μ) fun v_9 μ_10 =>
   gd (isb v_9) <|
   some (v_9, μ_10))
  else
  bW (f_X8_each a1 μ) fun v_11 μ_12 =>
  gd (isb v_11) <|
  some (v_11, μ_12)
def f_X8_term_L97 (κ : Mem → Option (Int32 × Mem)) (c1_6 : Int32) (c2_7 : Int32) : Nat → Int32 → Mem → Option (Int32 × Mem)
  | 0, _, _ => none
  | n + 1, a3_8, μ_9 =>
    if c2_7 ≤ a3_8 then
    (κ  μ_9)
    else
    gd (inb c1_6 201) <|
    gd (inb ((μ_9 36 0 (c1_6).toNatClampNeg) + a3_8) 101) <|
    bW (f_X8_set (7 : Int32) a3_8 (μ_9 38 0 (((μ_9 36 0 (c1_6).toNatClampNeg) + a3_8)).toNatClampNeg) μ_9) fun u_10 μ_11 =>
    lt (a3_8 + (1 : Int32)) fun x_12 =>
    f_X8_term_L97 κ c1_6 c2_7 n x_12 μ_11
def f_X8_term (a1 : Int32) (μ : Mem) : Option (Int32 × Mem) :=
  gd (inb a1 201) <|
  if (μ 35 0 (a1).toNatClampNeg) = (1 : Int32) then
  (gd (inb a1 201) <|
   gd (inb ((9 : Int32) + (μ 36 0 (a1).toNatClampNeg)) 20) <|
   if 0 ≤ (μ 32 0 (((9 : Int32) + (μ 36 0 (a1).toNatClampNeg))).toNatClampNeg) then
   (gd (inb a1 201) <|
    bW (f_X8_copy ((9 : Int32) + (μ 36 0 (a1).toNatClampNeg)) (7 : Int32) μ) fun u_17 μ_18 =>
    some ((1 : Int32), μ_18))
   else
   bW (f_X8_stop (6 : Int32) μ) fun v_19 μ_20 =>
   gd (isb v_19) <|
   some (v_19, μ_20))
  else
  gd (inb a1 201) <|
  lt ((μ 37 0 (a1).toNatClampNeg)) fun x_1 =>
  if x_1 ≤ (48 : Int32) then
  (jn (fun (s_2 : Int32) =>
    gd (inb (7 : Int32) 20) <|
    lt (sto μ 32 0 ((7 : Int32)).toNatClampNeg s_2) fun μ_4 =>
    gd (inb (21 : Int32) 60) <|
    lt (sto μ_4 33 0 ((21 : Int32)).toNatClampNeg x_1) fun μ_5 =>
    f_X8_term_L97 (fun (μ_14 : Mem) =>
     some ((1 : Int32), μ_14)) a1 x_1 1000 (0 : Int32) μ_5) fun j_3 =>
   if x_1 = (1 : Int32) then
   (j_3 (0 : Int32))
   else
   j_3 (1 : Int32))
  else
  bW (f_X8_stop (1 : Int32) μ) fun v_15 μ_16 =>
  gd (isb v_15) <|
  some (v_15, μ_16)
def f_X8_arrive (a1 : Int32) (μ : Mem) : Option (Unit × Mem) :=
  gd (inb a1 8) <|
  if (μ 40 0 (a1).toNatClampNeg) = 0 then
  (bW (f_X8_copy (7 : Int32) a1 μ) fun u_11 μ_12 =>
   some ((), μ_12))
  else
  gd (inb a1 8) <|
  lt (sto μ 40 0 (a1).toNatClampNeg (vp_nar .boolean (0 : Int32))) fun μ_1 =>
  bW (f_X8_copy (7 : Int32) (18 : Int32) μ_1) fun u_2 μ_3 =>
  bW (f_X8_copy a1 (19 : Int32) μ_3) fun u_4 μ_5 =>
  gd (inb a1 8) <|
  bW (f_X8_pair (μ_5 41 0 (a1).toNatClampNeg) μ_5) fun v_6 μ_7 =>
  if v_6 = 0 then
  (some ((), μ_7))
  else
  bW (f_X8_copy (8 : Int32) a1 μ_7) fun u_8 μ_9 =>
  lt (sto μ_9 30 0 18 ((μ_9 30 0 18) + (1 : Int32))) fun μ_10 =>
  some ((), μ_10)
def f_X8_evaluate_L26 (κ : Mem → Option (Unit × Mem)) (c1_5 : Int32) : Nat → Int32 → Int32 → Mem → Option (Unit × Mem)
  | 0, _, _, _ => none
  | n + 1, a2_6, a3_7, μ_8 =>
    if a3_7 < c1_5 then
    (κ  μ_8)
    else
    if (μ_8 30 0 16) = 0 then
    (gd (inb a3_7 201) <|
     jn (fun (a2_9 : Int32) (μ_10 : Mem) =>
      lt (a3_7 + (-1 : Int32)) fun x_12 =>
      f_X8_evaluate_L26 κ c1_5 n a2_9 x_12 μ_10) fun j_11 =>
     if (2 : Int32) ≤ (μ_8 35 0 (a3_7).toNatClampNeg) then
     (gd (inb a3_7 201) <|
      if (μ_8 35 0 (a3_7).toNatClampNeg) = (3 : Int32) then
      (lt ((a2_6 + (1 : Int32))) fun x_27 =>
       gd (inb x_27 8) <|
       lt (sto μ_8 40 0 (x_27).toNatClampNeg (vp_nar .boolean (0 : Int32))) fun μ_28 =>
       j_11 x_27 μ_28)
      else
      gd (inb a3_7 201) <|
      if (μ_8 35 0 (a3_7).toNatClampNeg) = (2 : Int32) then
      (bW (f_X8_copy a2_6 (7 : Int32) μ_8) fun u_22 μ_23 =>
       lt ((a2_6 - (1 : Int32))) fun x_24 =>
       bW (f_X8_arrive x_24 μ_23) fun u_25 μ_26 =>
       j_11 x_24 μ_26)
      else
      gd (inb a3_7 201) <|
      if (μ_8 35 0 (a3_7).toNatClampNeg) = (4 : Int32) then
      (gd (inb a2_6 8) <|
       lt (sto μ_8 40 0 (a2_6).toNatClampNeg (vp_nar .boolean (1 : Int32))) fun μ_20 =>
       gd (inb a3_7 201) <|
       gd (inb a2_6 8) <|
       lt (sto μ_20 41 0 (a2_6).toNatClampNeg (μ_20 36 0 (a3_7).toNatClampNeg)) fun μ_21 =>
       j_11 a2_6 μ_21)
      else
      bW (f_X8_copy a2_6 (19 : Int32) μ_8) fun u_13 μ_14 =>
      gd (inb a3_7 201) <|
      bW (f_X8_single (μ_14 36 0 (a3_7).toNatClampNeg) μ_14) fun v_15 μ_16 =>
      if v_15 = 0 then
      (j_11 a2_6 μ_16)
      else
      bW (f_X8_copy (8 : Int32) a2_6 μ_16) fun u_17 μ_18 =>
      lt (sto μ_18 30 0 18 ((μ_18 30 0 18) + (1 : Int32))) fun μ_19 =>
      j_11 a2_6 μ_19)
     else
     bW (f_X8_term a3_7 μ_8) fun v_29 μ_30 =>
     if v_29 = 0 then
     (j_11 a2_6 μ_30)
     else
     bW (f_X8_arrive a2_6 μ_30) fun u_31 μ_32 =>
     j_11 a2_6 μ_32)
    else
    κ  μ_8
def f_X8_evaluate (a1 : Int32) (μ : Mem) : Option (Unit × Mem) :=
  lt (sto μ 30 0 16 (0 : Int32)) fun μ_1 =>
  lt (sto μ_1 30 0 18 (0 : Int32)) fun μ_2 =>
  gd (inb (0 : Int32) 8) <|
  lt (sto μ_2 40 0 ((0 : Int32)).toNatClampNeg (vp_nar .boolean (0 : Int32))) fun μ_3 =>
  lt (((μ_3 30 0 9) - (1 : Int32))) fun x_4 =>
  f_X8_evaluate_L26 (fun (μ_34 : Mem) =>
   some ((), μ_34)) a1 1000 (0 : Int32) x_4 μ_3
def f_X8_target  (μ : Mem) : Option (Int32 × Mem) :=
  lt (sto μ 30 0 11 (0 : Int32)) fun μ_1 =>
  bW (f_X8_ahead μ_1) fun v_2 μ_3 =>
  if v_2 < (65 : Int32) then
  (some ((-1 : Int32), μ_3))
  else
  if v_2 ≤ (72 : Int32) then
  (lt (sto μ_3 30 0 11 ((μ_3 30 0 11) + (1 : Int32))) fun μ_4 =>
   bW (f_X8_ahead μ_4) fun v_5 μ_6 =>
   if v_5 = (58 : Int32) then
   (lt (sto μ_6 30 0 11 ((μ_6 30 0 11) + (1 : Int32))) fun μ_8 =>
    some ((v_2 - (65 : Int32)), μ_8))
   else
   lt (sto μ_6 30 0 11 (0 : Int32)) fun μ_7 =>
   some ((-1 : Int32), μ_7))
  else
  some ((-1 : Int32), μ_3)
def f_X8_run  (μ : Mem) : Option (Int32 × Mem) :=
  lt (sto μ 30 0 17 (0 : Int32)) fun μ_1 =>
  lt (sto μ_1 30 0 9 (0 : Int32)) fun μ_2 =>
  lt (sto μ_2 30 0 10 (0 : Int32)) fun μ_3 =>
  bW (f_X8_target μ_3) fun v_4 μ_5 =>
  bW (f_X8_read μ_5) fun v_6 μ_7 =>
  if v_6 = 0 then
  (some ((-1 : Int32), μ_7))
  else
  bW (f_X8_evaluate (0 : Int32) μ_7) fun u_8 μ_9 =>
  lt (sto μ_9 30 0 17 (μ_9 30 0 16)) fun μ_10 =>
  if (μ_10 30 0 16) ≤ 0 then
  (bW (f_X8_copy (0 : Int32) (17 : Int32) μ_10) fun u_11 μ_12 =>
   jn (fun (μ_13 : Mem) =>
    bP (f_X8_sizeOf (17 : Int32) μ_13) fun v_15 =>
    some (v_15, μ_13)) fun j_14 =>
   if v_4 < 0 then
   (j_14 μ_12)
   else
   bW (f_X8_copy (0 : Int32) ((9 : Int32) + v_4) μ_12) fun u_16 μ_17 =>
   j_14 μ_17)
  else
  some ((0 : Int32), μ_10)
def f_X8_rank  (μ : Mem) : Option (Int32 × Mem) :=
  lt (sto μ 30 0 17 (0 : Int32)) fun μ_1 =>
  gd (inb (17 : Int32) 20) <|
  some ((μ_1 32 0 ((17 : Int32)).toNatClampNeg), μ_1)
def f_X8_axis (a1 : Int32) (μ : Mem) : Option (Int32 × Mem) :=
  lt (sto μ 30 0 17 (0 : Int32)) fun μ_1 =>
  jn (fun (_ : Unit) =>
   some ((-1 : Int32), μ_1)) fun j_2 =>
  if a1 < 0 then
  (j_2 ())
  else
  gd (inb (17 : Int32) 20) <|
  if a1 < (μ_1 32 0 ((17 : Int32)).toNatClampNeg) then
  (bP (f_X8_axisOf (17 : Int32) a1 μ_1) fun v_3 =>
   some (v_3, μ_1))
  else
  j_2 ()
def f_X8_size  (μ : Mem) : Option (Int32 × Mem) :=
  lt (sto μ 30 0 17 (0 : Int32)) fun μ_1 =>
  bP (f_X8_sizeOf (17 : Int32) μ_1) fun v_2 =>
  some (v_2, μ_1)
def f_X8_element (a1 : Int32) (μ : Mem) : Option (Int64 × Mem) :=
  lt (sto μ 30 0 17 (0 : Int32)) fun μ_1 =>
  jn (fun (_ : Unit) =>
   some ((4294967296 : Int64), μ_1)) fun j_2 =>
  if a1 < 0 then
  (j_2 ())
  else
  bP (f_X8_sizeOf (17 : Int32) μ_1) fun v_3 =>
  if a1 < v_3 then
  (bP (f_X8_get (17 : Int32) a1 μ_1) fun v_4 =>
   some ((v_4).toInt64, μ_1))
  else
  j_2 ()
def f_X8_sum_L9 (κ : Int64 → Option (Int64 × Mem))  (μ_4 : Mem) : Nat → Int64 → Int32 → Option (Int64 × Mem)
  | 0, _, _ => none
  | n + 1, a1_2, a3_3 =>
    bP (f_X8_sizeOf (17 : Int32) μ_4) fun v_5 =>
    if v_5 ≤ a3_3 then
    (κ a1_2)
    else
    bP (f_X8_get (17 : Int32) a3_3 μ_4) fun v_6 =>
    lt ((a1_2 + (v_6).toInt64)) fun x_7 =>
    lt (a3_3 + (1 : Int32)) fun x_8 =>
    f_X8_sum_L9 κ  μ_4 n x_7 x_8
def f_X8_sum  (μ : Mem) : Option (Int64 × Mem) :=
  lt (sto μ 30 0 17 (0 : Int32)) fun μ_1 =>
  f_X8_sum_L9 (fun (a1_10 : Int64) =>
   some (a1_10, μ_1))  μ_1 1000 (0 : Int64) (0 : Int32)
def f_X8_held (a1 : Int32) (μ : Mem) : Option (Int32 × Mem) :=
  lt (sto μ 30 0 17 (0 : Int32)) fun μ_1 =>
  jn (fun (_ : Unit) =>
   some ((-1 : Int32), μ_1)) fun j_2 =>
  if a1 < 0 then
  (j_2 ())
  else
  if (7 : Int32) < a1 then
  (j_2 ())
  else
  gd (inb ((9 : Int32) + a1) 20) <|
  if 0 ≤ (μ_1 32 0 (((9 : Int32) + a1)).toNatClampNeg) then
  (bP (f_X8_sizeOf ((9 : Int32) + a1) μ_1) fun v_3 =>
   some (v_3, μ_1))
  else
  j_2 ()
def f_X8_forget (a1 : Int32) (μ : Mem) : Option (Int32 × Mem) :=
  lt (sto μ 30 0 17 (0 : Int32)) fun μ_1 =>
  if a1 < 0 then
  (some ((0 : Int32), μ_1))
  else
  if (7 : Int32) < a1 then
  (some ((0 : Int32), μ_1))
  else
  gd (inb ((9 : Int32) + a1) 20) <|
  if 0 ≤ (μ_1 32 0 (((9 : Int32) + a1)).toNatClampNeg) then
  (gd (inb ((9 : Int32) + a1) 20) <|
   lt (sto μ_1 32 0 (((9 : Int32) + a1)).toNatClampNeg (-1 : Int32)) fun μ_2 =>
   some ((1 : Int32), μ_2))
  else
  some ((0 : Int32), μ_1)
def f_X8_done  (μ : Mem) : Option (Int32 × Mem) :=
  lt (sto μ 30 0 17 (0 : Int32)) fun μ_1 =>
  some ((μ_1 30 0 18), μ_1)
