def J0_isLatin1_aae02 (k0 : Nat) (m : Mem) : Option (Int32 × Mem) :=
  if (1 : Int32) = 0 then
    (some (0, m))
  else
    (if (0 : Int32) = 0 then
      (some (1, m))
    else
      (some (0, m)))
def J3_checkIndex_8e157  (x1 : Int32) (x2 : Int32) (m : Mem) : Option (Int32 × Mem) :=
  if x1 < 0 then
    (none)
  else
    (if x1 < x2 then
      (some (x1, m))
    else
      (none))
def J0_checkIndex_df160  (x1 : Int32) (x2 : Int32) (m : Mem) : Option (Unit × Mem) :=
  bnd (J3_checkIndex_8e157 x1 x2 m) fun r_2 m_3 =>
  some ((), m_3)
def J1_charAt_3b067 (k1 : Nat) (x2 : Int32) (m : Mem) : Option (Int32 × Mem) :=
  bnd (J0_checkIndex_df160 x2 (nI (strL.getD k1 0)) m) fun _ m_2 =>
  chk (inb x2 (strL.getD k1 0)) <|
  chk (decide (narrow .char (.int ((((((strB.getD k1 []).getD (ix x2) 0) &&& 255) : Int32).toUInt32 % 65536).toInt32)) = .int ((((((strB.getD k1 []).getD (ix x2) 0) &&& 255) : Int32).toUInt32 % 65536).toInt32))) (some (((((((strB.getD k1 []).getD (ix x2) 0) &&& 255) : Int32).toUInt32 % 65536).toInt32), m_2))
def J0_charAt_5068e (k0 : Nat) (x1 : Int32) (m : Mem) : Option (Int32 × Mem) :=
  bnd (J0_isLatin1_aae02 k0 m) fun r_1 m_2 =>
  if r_1 = 0 then
    (none)
  else
    (bnd (J1_charAt_3b067 k0 x1 m_2) fun r_3 m_4 =>
    chk (decide (narrow .char (.int r_3) = .int r_3)) (some (r_3, m_4)))
def J0_coder_7d493 (k0 : Nat) (m : Mem) : Option (Int32 × Mem) :=
  if (1 : Int32) = 0 then
    (some (1, m))
  else
    (some (0, m))
def J0_length_8abf5 (k0 : Nat) (m : Mem) : Option (Int32 × Mem) :=
  bnd (J0_coder_7d493 k0 m) fun r_1 m_2 =>
  some (((nI (strL.getD k0 0)) >>> (r_1 &&& 31)), m_2)
def J1_canEncode_9a6ad  (x1 : Int32) (m : Mem) : Option (Int32 × Mem) :=
  if x1 < 0 then
    (some (0, m))
  else
    (if 255 < x1 then
      (some (0, m))
    else
      (some (1, m)))
def J1_indexOfChar_4cfef_b7 (k1 : Nat) : Nat → Int32 → Int32 → Int32 → Mem → Option (Int32 × Mem)
  | 0, _, _, _, _ => none
  | n + 1, y3, y4, y5, m =>
    if y3 ≤ y5 then
      (some ((-1), m))
    else
      (chk (inb y5 (strL.getD k1 0)) <|
      if ((strB.getD k1 []).getD (ix y5) 0) = y4 then
        (some (y5, m))
      else
        (J1_indexOfChar_4cfef_b7 k1 n y3 y4 (y5 + 1) m))
def J1_indexOfChar_4cfef (k1 : Nat) (x2 : Int32) (x3 : Int32) (x4 : Int32) (m : Mem) : Option (Int32 × Mem) :=
  lt ((x2 : Int32).toInt8.toInt32) fun x_1 =>
  J1_indexOfChar_4cfef_b7 k1 FU x4 x_1 x3 m
def J1_indexOf_4cfef (k1 : Nat) (x2 : Int32) (x3 : Int32) (x4 : Int32) (m : Mem) : Option (Int32 × Mem) :=
  bnd (J1_canEncode_9a6ad x2 m) fun r_1 m_2 =>
  if r_1 = 0 then
    (some ((-1), m_2))
  else
    (lt (if x3 < 0 then 0 else x3) fun x_3 =>
    lt (if (nI (strL.getD k1 0)) < x4 then (nI (strL.getD k1 0)) else x4) fun x_4 =>
    if x_3 < x_4 then
      (bnd (J1_indexOfChar_4cfef k1 x2 x_3 x_4 m_2) fun r_5 m_6 =>
      some (r_5, m_6))
    else
      (some ((-1), m_2)))
def J0_indexOf_7cf53 (k0 : Nat) (x1 : Int32) (x2 : Int32) (m : Mem) : Option (Int32 × Mem) :=
  bnd (J0_isLatin1_aae02 k0 m) fun r_1 m_2 =>
  if r_1 = 0 then
    (none)
  else
    (bnd (J0_length_8abf5 k0 m_2) fun r_5 m_6 =>
    bnd (J1_indexOf_4cfef k0 x1 x2 r_5 m_6) fun r_7 m_8 =>
    some (r_7, m_8))
def J0_indexOf_0f7a4 (k0 : Nat) (x1 : Int32) (m : Mem) : Option (Int32 × Mem) :=
  bnd (J0_indexOf_7cf53 k0 x1 0 m) fun r_1 m_2 =>
  some (r_1, m_2)
def J6_bitCount_0f7a4  (x1 : Int32) (m : Mem) : Option (Int32 × Mem) :=
  lt (x1 - ((((x1 : Int32).toUInt32 >>> ((1 : Int32).toUInt32 &&& Int32.toUInt32 31)).toInt32) &&& 1431655765)) fun x_1 =>
  lt ((x_1 &&& 858993459) + ((((x_1 : Int32).toUInt32 >>> ((2 : Int32).toUInt32 &&& Int32.toUInt32 31)).toInt32) &&& 858993459)) fun x_2 =>
  lt ((x_2 + (((x_2 : Int32).toUInt32 >>> ((4 : Int32).toUInt32 &&& Int32.toUInt32 31)).toInt32)) &&& 252645135) fun x_3 =>
  lt (x_3 + (((x_3 : Int32).toUInt32 >>> ((8 : Int32).toUInt32 &&& Int32.toUInt32 31)).toInt32)) fun x_4 =>
  lt (x_4 + (((x_4 : Int32).toUInt32 >>> ((16 : Int32).toUInt32 &&& Int32.toUInt32 31)).toInt32)) fun x_5 =>
  some ((x_5 &&& 63), m)
def J6_numberOfTrailingZeros_0f7a4_b74  (y0 : Int32) (y1 : Int32) (m : Mem) : Option (Int32 × Mem) :=
  some ((y1 + (((y0 : Int32).toUInt32 >>> ((1 : Int32).toUInt32 &&& Int32.toUInt32 31)).toInt32)), m)
def J6_numberOfTrailingZeros_0f7a4_b62  (y0 : Int32) (y1 : Int32) (m : Mem) : Option (Int32 × Mem) :=
  if y0 ≤ 4 then
    (J6_numberOfTrailingZeros_0f7a4_b74  y0 y1 m)
  else
    (lt (((y0 : Int32).toUInt32 >>> ((2 : Int32).toUInt32 &&& Int32.toUInt32 31)).toInt32) fun x_2 =>
    J6_numberOfTrailingZeros_0f7a4_b74  x_2 (y1 + 2) m)
def J6_numberOfTrailingZeros_0f7a4_b49  (y0 : Int32) (y1 : Int32) (m : Mem) : Option (Int32 × Mem) :=
  if y0 ≤ 16 then
    (J6_numberOfTrailingZeros_0f7a4_b62  y0 y1 m)
  else
    (lt (((y0 : Int32).toUInt32 >>> ((4 : Int32).toUInt32 &&& Int32.toUInt32 31)).toInt32) fun x_3 =>
    J6_numberOfTrailingZeros_0f7a4_b62  x_3 (y1 + 4) m)
def J6_numberOfTrailingZeros_0f7a4_b34  (y0 : Int32) (y1 : Int32) (m : Mem) : Option (Int32 × Mem) :=
  if y0 ≤ 256 then
    (J6_numberOfTrailingZeros_0f7a4_b49  y0 y1 m)
  else
    (lt (((y0 : Int32).toUInt32 >>> ((8 : Int32).toUInt32 &&& Int32.toUInt32 31)).toInt32) fun x_4 =>
    J6_numberOfTrailingZeros_0f7a4_b49  x_4 (y1 + 8) m)
def J6_numberOfTrailingZeros_0f7a4  (x1 : Int32) (m : Mem) : Option (Int32 × Mem) :=
  lt ((x1 ^^^ (-1)) &&& (x1 - 1)) fun x_1 =>
  if 0 < x_1 then
    (if x_1 ≤ 65536 then
      (J6_numberOfTrailingZeros_0f7a4_b34  x_1 1 m)
    else
      (lt (((x_1 : Int32).toUInt32 >>> ((16 : Int32).toUInt32 &&& Int32.toUInt32 31)).toInt32) fun x_5 =>
      J6_numberOfTrailingZeros_0f7a4_b34  x_5 (1 + 16) m))
  else
    (some ((x_1 &&& 32), m))
def X0_join  (x1 : Int32) (x2 : Int64) (x3 : Int64) (m : Mem) : Option (Int64 × Mem) :=
  if x1 = (-15) then
    (some ((x2 &&& x3), m))
  else if x1 = (-14) then
    (some ((x2 ||| x3), m))
  else if x1 = (-13) then
    (if (lg_cmp x2 x3) ≤ 0 then
      (some (0, m))
    else
      (some (1, m)))
  else if x1 = (-12) then
    (if 0 ≤ (lg_cmp x2 x3) then
      (some (0, m))
    else
      (some (1, m)))
  else if x1 = (-11) then
    (if (lg_cmp x2 x3) = 0 then
      (some (1, m))
    else
      (some (0, m)))
  else if x1 = (-10) then
    (some ((x2 * x3), m))
  else if x1 = (-9) then
    (some ((x2 - x3), m))
  else if x1 = (-8) then
    (some ((x2 + x3), m))
  else (
    some ((x2 ||| x3), m))
def X0_keepWithin  (x1 : Int64) (m : Mem) : Option (Int32 × Mem) :=
  if (lg_cmp x1 1000000) ≤ 0 then
    (if 0 ≤ (lg_cmp x1 (-1000000)) then
      (some ((Int64.toInt32 x1), m))
    else
      (some ((-1000000), m)))
  else
    (some (1000000, m))
def X0_reckon_b57 (b1 : Nat) (k4 : Int32 → Int32 → Mem → Option (Int32 × Mem)) (y2 : Int32) (y3 : Int32) (z0 : Int32) (z1 : Int32) (m : Mem) : Option (Int32 × Mem) :=
  chk (inb z1 32) <|
  lt (si m 24 (ix z1) z0) fun m_8 =>
  k4 (y2 + 1) (y3 + 1) m_8
def X0_reckon_b4 (b1 : Nat) : Nat → Int32 → Int32 → Mem → Option (Int32 × Mem)
  | 0, _, _, _ => none
  | n + 1, y2, y3, m =>
    if (gi m b1 1) ≤ y3 then
      (chk (inb 0 32) <|
      some ((gi m 24 (ix 0)), m))
    else
      (chk (inb y3 900) <|
      lt (gi m (b1 + 1) (ix y3)) fun x_1 =>
      if x_1 < (-7) then
        (if x_1 = (-14) then
          (if y2 ≤ 0 then
            (X0_reckon_b4 b1 n y2 (y3 + 1) m)
          else
            (chk (inb (y2 - 1) 32) <|
            chk (inb (y2 - 1) 32) <|
            lt (si m 24 (ix (y2 - 1)) (1 - (gi m 24 (ix (y2 - 1))))) fun m_7 =>
            X0_reckon_b4 b1 n y2 (y3 + 1) m_7))
        else
          (if y2 ≤ 1 then
            (X0_reckon_b4 b1 n y2 (y3 + 1) m)
          else
            (chk (inb ((y2 + (-1)) - 1) 32) <|
            chk (inb (y2 + (-1)) 32) <|
            bnd (X0_join x_1 (Int32.toInt64 (gi m 24 (ix ((y2 + (-1)) - 1)))) (Int32.toInt64 (gi m 24 (ix (y2 + (-1))))) m) fun r_2 m_3 =>
            bnd (X0_keepWithin r_2 m_3) fun r_4 m_5 =>
            chk (inb ((y2 + (-1)) - 1) 32) <|
            lt (si m_5 24 (ix ((y2 + (-1)) - 1)) r_4) fun m_6 =>
            X0_reckon_b4 b1 n (y2 + (-1)) (y3 + 1) m_6)))
      else
        (if 32 ≤ y2 then
          (X0_reckon_b4 b1 n y2 (y3 + 1) m)
        else
          (if x_1 < 0 then
            (chk (inb ((-1) - x_1) 7) <|
            X0_reckon_b57 b1 (X0_reckon_b4 b1 n) y2 y3 (gi m 23 (ix ((-1) - x_1))) y2 m)
          else
            (X0_reckon_b57 b1 (X0_reckon_b4 b1 n) y2 y3 x_1 y2 m))))
def X0_reckon (b1 : Nat) (m : Mem) : Option (Int32 × Mem) :=
  X0_reckon_b4 b1 FU 0 0 m
def X10_allOf_b14 (a : Nat) : Nat → Int32 → Int32 → Int32 → Mem → Option (Int32 × Mem)
  | 0, _, _, _, _ => none
  | n + 1, y1, y2, y3, m =>
    if (gi m 2 1) ≤ y3 then
      (some (y2, m))
    else
      (if (y1 &&& ((1 : Int32) <<< (y3 &&& 31))) = 0 then
        (X10_allOf_b14 a n y1 y2 (y3 + 1) m)
      else
        (chk (inb y3 8) <|
        lt (y2 &&& (gi m ((a + 1) + 3) (ix y3))) fun x_2 =>
        X10_allOf_b14 a n y1 x_2 (y3 + 1) m))
def X10_allOf (a : Nat) (x1 : Int32) (m : Mem) : Option (Int32 × Mem) :=
  lt (((1 : Int32) <<< ((gi m 2 0) &&& 31)) - 1) fun x_1 =>
  X10_allOf_b14 a FU x1 x_1 0 m
def X10_anyOf_b4 (a : Nat) : Nat → Int32 → Int32 → Int32 → Mem → Option (Int32 × Mem)
  | 0, _, _, _, _ => none
  | n + 1, y1, y2, y3, m =>
    if (gi m 2 1) ≤ y3 then
      (some (y2, m))
    else
      (if (y1 &&& ((1 : Int32) <<< (y3 &&& 31))) = 0 then
        (X10_anyOf_b4 a n y1 y2 (y3 + 1) m)
      else
        (chk (inb y3 8) <|
        lt (y2 ||| (gi m ((a + 1) + 3) (ix y3))) fun x_1 =>
        X10_anyOf_b4 a n y1 x_1 (y3 + 1) m))
def X10_anyOf (a : Nat) (x1 : Int32) (m : Mem) : Option (Int32 × Mem) :=
  X10_anyOf_b4 a FU x1 0 0 m
def X10_isPerson (a : Nat) (x1 : Int32) (m : Mem) : Option (Int32 × Mem) :=
  if x1 < 0 then
    (some (0, m))
  else
    (if (gi m 2 1) ≤ x1 then
      (some (0, m))
    else
      (some (1, m)))
def X10_areTwo (a : Nat) (x1 : Int32) (x2 : Int32) (m : Mem) : Option (Int32 × Mem) :=
  bnd (X10_isPerson a x1 m) fun r_1 m_2 =>
  if r_1 = 0 then
    (some (0, m_2))
  else
    (bnd (X10_isPerson a x2 m_2) fun r_3 m_4 =>
    if r_3 = 0 then
      (some (0, m_4))
    else
      (if x1 = x2 then
        (some (0, m_4))
      else
        (some (1, m_4))))
def X5_has (a : Nat) (x1 : Int32) (x2 : Int32) (m : Mem) : Option (Int32 × Mem) :=
  chk (inb x1 8) <|
  if ((gi m (a + 3) (ix x1)) &&& ((1 : Int32) <<< (x2 &&& 31))) = 0 then
    (some (0, m))
  else
    (some (1, m))
def X5_drop (a : Nat) (x1 : Int32) (x2 : Int32) (m : Mem) : Option (Unit × Mem) :=
  chk (inb x1 8) <|
  chk (inb x1 8) <|
  lt (si m (a + 3) (ix x1) ((gi m (a + 3) (ix x1)) &&& (((1 : Int32) <<< (x2 &&& 31)) ^^^ (-1)))) fun m_1 =>
  chk (inb x2 14) <|
  chk (inb x2 14) <|
  lt (si m_1 (a + 4) (ix x2) ((gi m_1 (a + 4) (ix x2)) &&& (((1 : Int32) <<< (x1 &&& 31)) ^^^ (-1)))) fun m_2 =>
  some ((), m_2)
def X10_growOlder_b17 (a : Nat) : Nat → Int32 → Int32 → Int32 → Mem → Option (Int32 × Mem)
  | 0, _, _, _, _ => none
  | n + 1, y1, y2, y3, m =>
    if (gi m 2 0) ≤ y3 then
      (some (y2, m))
    else
      (bnd (X5_has (a + 1) y1 y3 m) fun r_2 m_3 =>
      if r_2 = 0 then
        (X10_growOlder_b17 a n y1 y2 (y3 + 1) m_3)
      else
        (lt ((y1 * 14) + y3) fun x_4 =>
        chk (inb x_4 112) <|
        chk (inb x_4 112) <|
        lt (si m_3 ((a + 1) + 5) (ix x_4) ((gi m_3 ((a + 1) + 5) (ix x_4)) + 1)) fun m_5 =>
        chk (inb y3 14) <|
        if (gi m_5 3 (ix y3)) ≤ 0 then
          (X10_growOlder_b17 a n y1 y2 (y3 + 1) m_5)
        else
          (chk (inb x_4 112) <|
          chk (inb y3 14) <|
          if (gi m_5 ((a + 1) + 5) (ix x_4)) < (gi m_5 3 (ix y3)) then
            (X10_growOlder_b17 a n y1 y2 (y3 + 1) m_5)
          else
            (bnd (X5_drop (a + 1) y1 y3 m_5) fun _ m_7 =>
            X10_growOlder_b17 a n y1 (y2 + 1) (y3 + 1) m_7))))
def X10_growOlder (a : Nat) (x1 : Int32) (m : Mem) : Option (Int32 × Mem) :=
  chk (inb x1 8) <|
  chk (inb x1 8) <|
  lt (si m ((a + 1) + 1) (ix x1) ((gi m ((a + 1) + 1) (ix x1)) + 1)) fun m_1 =>
  X10_growOlder_b17 a FU x1 0 0 m_1
def X10_hasRoom (a : Nat) (x1 : Int32) (m : Mem) : Option (Int32 × Mem) :=
  chk (inb x1 8) <|
  bnd (J6_bitCount_0f7a4 (gi m ((a + 1) + 3) (ix x1)) m) fun r_1 m_2 =>
  if (gi m_2 2 3) ≤ r_1 then
    (some (0, m_2))
  else
    (some (1, m_2))
def X10_wish (a : Nat) (x1 : Int32) (x2 : Int32) (m : Mem) : Option (Int32 × Mem) :=
  chk (inb x2 8) <|
  chk (inb x1 8) <|
  lt ((gi m ((a + 1) + 3) (ix x2)) &&& ((gi m ((a + 1) + 3) (ix x1)) ^^^ (-1))) fun x_1 =>
  if x_1 = 0 then
    (some ((-1), m))
  else
    (bnd (X10_hasRoom a x1 m) fun r_2 m_3 =>
    if r_2 = 0 then
      (some ((-1), m_3))
    else
      (bnd (J6_numberOfTrailingZeros_0f7a4 x_1 m_3) fun r_4 m_5 =>
      some (r_4, m_5)))
def X10_isThing (a : Nat) (x1 : Int32) (m : Mem) : Option (Int32 × Mem) :=
  if x1 < 0 then
    (some (0, m))
  else
    (if (gi m 2 0) ≤ x1 then
      (some (0, m))
    else
      (some (1, m)))
def X5_adopt (a : Nat) (x1 : Int32) (x2 : Int32) (x3 : Int32) (m : Mem) : Option (Unit × Mem) :=
  chk (inb x1 8) <|
  chk (inb x1 8) <|
  lt (si m (a + 3) (ix x1) ((gi m (a + 3) (ix x1)) ||| ((1 : Int32) <<< (x2 &&& 31)))) fun m_1 =>
  chk (inb x2 14) <|
  chk (inb x2 14) <|
  lt (si m_1 (a + 4) (ix x2) ((gi m_1 (a + 4) (ix x2)) ||| ((1 : Int32) <<< (x1 &&& 31)))) fun m_2 =>
  chk (inb ((x1 * 14) + x2) 112) <|
  lt (si m_2 (a + 5) (ix ((x1 * 14) + x2)) x3) fun m_3 =>
  some ((), m_3)
def X10_exchange_b33 (a : Nat) (y2 : Int32) (y4 : Int32) (m : Mem) : Option (Unit × Mem) :=
  bnd (X10_isThing a y4 m) fun r_7 m_8 =>
  if r_7 = 0 then
    (some ((), m_8))
  else
    (bnd (X5_adopt (a + 1) y2 y4 0 m_8) fun _ m_10 =>
    some ((), m_10))
def X10_exchange (a : Nat) (x1 : Int32) (x2 : Int32) (m : Mem) : Option (Unit × Mem) :=
  bnd (X10_wish a x1 x2 m) fun r_1 m_2 =>
  bnd (X10_wish a x2 x1 m_2) fun r_3 m_4 =>
  bnd (X10_isThing a r_1 m_4) fun r_5 m_6 =>
  if r_5 = 0 then
    (X10_exchange_b33 a x2 r_3 m_6)
  else
    (bnd (X5_adopt (a + 1) x1 r_1 0 m_6) fun _ m_12 =>
    X10_exchange_b33 a x2 r_3 m_12)
def X10_passYear_b31 (a : Nat) : Nat → Int32 → Int32 → Mem → Option (Int32 × Mem)
  | 0, _, _, _ => none
  | n + 1, y1, y2, m =>
    if (gi m 2 1) ≤ y2 then
      (lt (si m (a + 1) 0 ((gi m (a + 1) 0) + 1)) fun m_1 =>
      some (y1, m_1))
    else
      (chk (inb y2 8) <|
      if (gi m ((a + 1) + 2) (ix y2)) ≤ y2 then
        (X10_passYear_b31 a n y1 (y2 + 1) m)
      else
        (chk (inb y2 8) <|
        bnd (X10_exchange a y2 (gi m ((a + 1) + 2) (ix y2)) m) fun _ m_3 =>
        X10_passYear_b31 a n y1 (y2 + 1) m_3))
def X10_passYear_b4 (a : Nat) : Nat → Int32 → Int32 → Mem → Option (Int32 × Mem)
  | 0, _, _, _ => none
  | n + 1, y1, y2, m =>
    if (gi m 2 1) ≤ y2 then
      (X10_passYear_b31 a FU y1 0 m)
    else
      (bnd (X10_growOlder a y2 m) fun r_4 m_5 =>
      lt (y1 + r_4) fun x_6 =>
      X10_passYear_b4 a n x_6 (y2 + 1) m_5)
def X10_passYear (a : Nat) (m : Mem) : Option (Int32 × Mem) :=
  X10_passYear_b4 a FU 0 0 m
def X5_split (a : Nat) (x1 : Int32) (m : Mem) : Option (Unit × Mem) :=
  chk (inb x1 8) <|
  lt (gi m (a + 2) (ix x1)) fun x_1 =>
  chk (inb x1 8) <|
  lt (si m (a + 2) (ix x1) (-1)) fun m_2 =>
  if x_1 < 0 then
    (some ((), m_2))
  else
    (if 8 ≤ x_1 then
      (some ((), m_2))
    else
      (chk (inb x_1 8) <|
      lt (si m_2 (a + 2) (ix x_1) (-1)) fun m_3 =>
      some ((), m_3)))
def X10_measure_b21 (a : Nat) : Nat → Int32 → Int32 → Int32 → Int32 → Int32 → Int32 → Int32 → Int32 → Mem → Option (Unit × Mem)
  | 0, _, _, _, _, _, _, _, _, _ => none
  | n + 1, y1, y2, y3, y4, y5, y6, y7, y8, m =>
    if (gi m 2 0) ≤ y8 then
      (bnd (J6_bitCount_0f7a4 y5 m) fun r_3 m_4 =>
      chk (inb 0 7) <|
      lt (si m_4 23 (ix 0) r_3) fun m_5 =>
      chk (inb 1 7) <|
      lt (si m_5 23 (ix 1) y7) fun m_6 =>
      chk (inb y2 8) <|
      bnd (J6_bitCount_0f7a4 (y3 &&& (gi m_6 4 (ix y2))) m_6) fun r_7 m_8 =>
      chk (inb y1 8) <|
      bnd (J6_bitCount_0f7a4 (y4 &&& (gi m_8 4 (ix y1))) m_8) fun r_9 m_10 =>
      chk (inb 2 7) <|
      lt (si m_10 23 (ix 2) (r_7 + r_9)) fun m_11 =>
      bnd (J6_bitCount_0f7a4 y3 m_11) fun r_12 m_13 =>
      bnd (J6_bitCount_0f7a4 y4 m_13) fun r_14 m_15 =>
      chk (inb 3 7) <|
      lt (si m_15 23 (ix 3) (r_12 + r_14)) fun m_16 =>
      chk (inb y1 8) <|
      chk (inb y2 8) <|
      chk (inb 4 7) <|
      lt (si m_16 23 (ix 4) (if 0 ≤ ((gi m_16 ((a + 1) + 1) (ix y1)) - (gi m_16 ((a + 1) + 1) (ix y2))) then ((gi m_16 ((a + 1) + 1) (ix y1)) - (gi m_16 ((a + 1) + 1) (ix y2))) else 0 - ((gi m_16 ((a + 1) + 1) (ix y1)) - (gi m_16 ((a + 1) + 1) (ix y2))))) fun m_17 =>
      chk (inb y1 8) <|
      chk (inb y2 8) <|
      chk (inb 5 7) <|
      lt (si m_17 23 (ix 5) (if (gi m_17 ((a + 1) + 1) (ix y1)) < (gi m_17 ((a + 1) + 1) (ix y2)) then (gi m_17 ((a + 1) + 1) (ix y2)) else (gi m_17 ((a + 1) + 1) (ix y1)))) fun m_18 =>
      chk (inb 6 7) <|
      lt (si m_18 23 (ix 6) (gi m_18 (a + 1) 0)) fun m_19 =>
      some ((), m_19))
    else
      (if (y5 &&& ((1 : Int32) <<< (y8 &&& 31))) = 0 then
        (X10_measure_b21 a n y1 y2 y3 y4 y5 y6 y7 (y8 + 1) m)
      else
        (chk (inb y8 14) <|
        bnd (J6_bitCount_0f7a4 ((gi m ((a + 1) + 4) (ix y8)) ||| y6) m) fun r_20 m_21 =>
        lt (y7 + (((gi m 2 1) - r_20) + 1)) fun x_22 =>
        X10_measure_b21 a n y1 y2 y3 y4 y5 y6 x_22 (y8 + 1) m_21))
def X10_measure (a : Nat) (x1 : Int32) (x2 : Int32) (x3 : Int32) (x4 : Int32) (m : Mem) : Option (Unit × Mem) :=
  lt (x3 &&& x4) fun x_1 =>
  lt (((1 : Int32) <<< (x1 &&& 31)) ||| ((1 : Int32) <<< (x2 &&& 31))) fun x_2 =>
  X10_measure_b21 a FU x1 x2 x3 x4 x_1 x_2 0 0 m
def X10_isAllowed (a : Nat) (x1 : Int32) (x2 : Int32) (m : Mem) : Option (Int32 × Mem) :=
  chk (inb x1 8) <|
  chk (inb x2 8) <|
  bnd (X10_measure a x1 x2 (gi m ((a + 1) + 3) (ix x1)) (gi m ((a + 1) + 3) (ix x2)) m) fun _ m_2 =>
  bnd (X0_reckon 7 m_2) fun r_3 m_4 =>
  if r_3 = 0 then
    (some (0, m_4))
  else
    (some (1, m_4))
def X10_whyNotMarry (a : Nat) (x1 : Int32) (x2 : Int32) (m : Mem) : Option (Int32 × Mem) :=
  bnd (X10_areTwo a x1 x2 m) fun r_1 m_2 =>
  if r_1 = 0 then
    (some (1, m_2))
  else
    (chk (inb x1 8) <|
    if (gi m_2 ((a + 1) + 2) (ix x1)) = (-1) then
      (chk (inb x2 8) <|
      if (gi m_2 ((a + 1) + 2) (ix x2)) = (-1) then
        (bnd (X10_isAllowed a x1 x2 m_2) fun r_3 m_4 =>
        if r_3 = 0 then
          (some (3, m_4))
        else
          (some (0, m_4)))
      else
        (some (2, m_2)))
    else
      (some (2, m_2)))
def X5_marry (a : Nat) (x1 : Int32) (x2 : Int32) (m : Mem) : Option (Unit × Mem) :=
  chk (inb x1 8) <|
  lt (si m (a + 2) (ix x1) x2) fun m_1 =>
  chk (inb x2 8) <|
  lt (si m_1 (a + 2) (ix x2) x1) fun m_2 =>
  some ((), m_2)
def X10_attemptMarriage_b32 (a : Nat) (y1 : Int32) (y2 : Int32) (m : Mem) : Option (Int32 × Mem) :=
  bnd (X10_whyNotMarry a y1 y2 m) fun r_3 m_4 =>
  if r_3 = 0 then
    (bnd (X5_marry (a + 1) y1 y2 m_4) fun _ m_6 =>
    some (r_3, m_6))
  else
    (some (r_3, m_4))
def X10_attemptMarriage (a : Nat) (x1 : Int32) (x2 : Int32) (m : Mem) : Option (Int32 × Mem) :=
  bnd (X10_areTwo a x1 x2 m) fun r_1 m_2 =>
  if r_1 = 0 then
    (X10_attemptMarriage_b32 a x1 x2 m_2)
  else
    (chk (inb x1 8) <|
    if (gi m_2 ((a + 1) + 2) (ix x1)) = x2 then
      (bnd (X5_split (a + 1) x1 m_2) fun _ m_8 =>
      some (0, m_8))
    else
      (X10_attemptMarriage_b32 a x1 x2 m_2))
def X10_whyNotTake (a : Nat) (x1 : Int32) (x2 : Int32) (m : Mem) : Option (Int32 × Mem) :=
  bnd (X10_isPerson a x1 m) fun r_1 m_2 =>
  if r_1 = 0 then
    (some (1, m_2))
  else
    (bnd (X10_isThing a x2 m_2) fun r_3 m_4 =>
    if r_3 = 0 then
      (some (1, m_4))
    else
      (bnd (X5_has (a + 1) x1 x2 m_4) fun r_5 m_6 =>
      if r_5 = 0 then
        (bnd (X10_hasRoom a x1 m_6) fun r_7 m_8 =>
        if r_7 = 0 then
          (some (4, m_8))
        else
          (some (0, m_8)))
      else
        (some (0, m_6))))
def X10_takeOrGive (a : Nat) (x1 : Int32) (x2 : Int32) (m : Mem) : Option (Unit × Mem) :=
  bnd (X5_has (a + 1) x1 x2 m) fun r_1 m_2 =>
  if r_1 = 0 then
    (bnd (X5_adopt (a + 1) x1 x2 0 m_2) fun _ m_4 =>
    some ((), m_4))
  else
    (bnd (X5_drop (a + 1) x1 x2 m_2) fun _ m_6 =>
    some ((), m_6))
def X10_attemptTaking (a : Nat) (x1 : Int32) (x2 : Int32) (m : Mem) : Option (Int32 × Mem) :=
  bnd (X10_whyNotTake a x1 x2 m) fun r_1 m_2 =>
  if r_1 = 0 then
    (bnd (X10_takeOrGive a x1 x2 m_2) fun _ m_4 =>
    some (r_1, m_4))
  else
    (some (r_1, m_2))
def X5_copyList_b2 (a : Nat) : Nat → Int32 → Int32 → Int32 → Mem → Option (Unit × Mem)
  | 0, _, _, _, _ => none
  | n + 1, y1, y2, y3, m =>
    if 14 ≤ y3 then
      (some ((), m))
    else
      (bnd (X5_has a y2 y3 m) fun r_1 m_2 =>
      if r_1 = 0 then
        (bnd (X5_drop a y1 y3 m_2) fun _ m_4 =>
        X5_copyList_b2 a n y1 y2 (y3 + 1) m_4)
      else
        (chk (inb ((y2 * 14) + y3) 112) <|
        bnd (X5_adopt a y1 y3 (gi m_2 (a + 5) (ix ((y2 * 14) + y3))) m_2) fun _ m_6 =>
        X5_copyList_b2 a n y1 y2 (y3 + 1) m_6))
def X5_copyList (a : Nat) (x1 : Int32) (x2 : Int32) (m : Mem) : Option (Unit × Mem) :=
  X5_copyList_b2 a FU x1 x2 0 m
def X10_attemptCopy (a : Nat) (x1 : Int32) (x2 : Int32) (m : Mem) : Option (Int32 × Mem) :=
  bnd (X10_areTwo a x1 x2 m) fun r_1 m_2 =>
  if r_1 = 0 then
    (some (1, m_2))
  else
    (bnd (X5_copyList (a + 1) x1 x2 m_2) fun _ m_4 =>
    some (0, m_4))
def X10_attempt (a : Nat) (x1 : Int64) (m : Mem) : Option (Int32 × Mem) :=
  if (lg_cmp x1 (-1)) = 0 then
    (bnd (X10_passYear a m) fun r_12 m_13 =>
    some (0, m_13))
  else
    (if (lg_cmp x1 0) < 0 then
      (some (1, m))
    else
      (if (lg_cmp x1 3000) < 0 then
        (lt (Int64.toInt32 x1) fun x_1 =>
        lt ((x_1 - x_1 / 1000 * 1000) / 100) fun x_2 =>
        lt (x_1 - x_1 / 100 * 100) fun x_3 =>
        if (x_1 / 1000) = 0 then
          (bnd (X10_attemptMarriage a x_2 x_3 m) fun r_4 m_5 =>
          some (r_4, m_5))
        else if (x_1 / 1000) = 1 then
          (bnd (X10_attemptTaking a x_2 x_3 m) fun r_7 m_8 =>
          some (r_7, m_8))
        else (
          bnd (X10_attemptCopy a x_2 x_3 m) fun r_10 m_11 =>
          some (r_10, m_11)))
      else
        (some (1, m))))
def X10_couples_b4 (a : Nat) : Nat → Int32 → Int32 → Mem → Option (Int32 × Mem)
  | 0, _, _, _ => none
  | n + 1, y1, y2, m =>
    if (gi m 2 1) ≤ y2 then
      (some (y1, m))
    else
      (chk (inb y2 8) <|
      if (gi m ((a + 1) + 2) (ix y2)) ≤ y2 then
        (X10_couples_b4 a n y1 (y2 + 1) m)
      else
        (X10_couples_b4 a n (y1 + 1) (y2 + 1) m))
def X10_couples (a : Nat) (m : Mem) : Option (Int32 × Mem) :=
  X10_couples_b4 a FU 0 0 m
def X10_goodnessWith (a : Nat) (x1 : Int32) (x2 : Int32) (x3 : Int32) (x4 : Int32) (m : Mem) : Option (Int32 × Mem) :=
  bnd (X10_measure a x1 x2 x3 x4 m) fun _ m_2 =>
  bnd (X0_reckon 5 m_2) fun r_3 m_4 =>
  some (r_3, m_4)
def X10_goodness (a : Nat) (x1 : Int32) (x2 : Int32) (m : Mem) : Option (Int32 × Mem) :=
  chk (inb x1 8) <|
  chk (inb x2 8) <|
  bnd (X10_goodnessWith a x1 x2 (gi m ((a + 1) + 3) (ix x1)) (gi m ((a + 1) + 3) (ix x2)) m) fun r_1 m_2 =>
  some (r_1, m_2)
def X10_goodOfCouples_b4 (a : Nat) : Nat → Int32 → Int32 → Mem → Option (Int32 × Mem)
  | 0, _, _, _ => none
  | n + 1, y1, y2, m =>
    if (gi m 2 1) ≤ y2 then
      (some (y1, m))
    else
      (chk (inb y2 8) <|
      if (gi m ((a + 1) + 2) (ix y2)) ≤ y2 then
        (X10_goodOfCouples_b4 a n y1 (y2 + 1) m)
      else
        (chk (inb y2 8) <|
        bnd (X10_goodness a y2 (gi m ((a + 1) + 2) (ix y2)) m) fun r_1 m_2 =>
        lt (y1 + r_1) fun x_3 =>
        X10_goodOfCouples_b4 a n x_3 (y2 + 1) m_2))
def X10_goodOfCouples (a : Nat) (m : Mem) : Option (Int32 × Mem) :=
  X10_goodOfCouples_b4 a FU 0 0 m
def X10_onAllLists_b4 (a : Nat) : Nat → Int32 → Int32 → Mem → Option (Int32 × Mem)
  | 0, _, _, _ => none
  | n + 1, y1, y2, m =>
    if (gi m 2 1) ≤ y2 then
      (some (y1, m))
    else
      (chk (inb y2 8) <|
      bnd (J6_bitCount_0f7a4 (gi m ((a + 1) + 3) (ix y2)) m) fun r_1 m_2 =>
      lt (y1 + r_1) fun x_3 =>
      X10_onAllLists_b4 a n x_3 (y2 + 1) m_2)
def X10_onAllLists (a : Nat) (m : Mem) : Option (Int32 × Mem) :=
  X10_onAllLists_b4 a FU 0 0 m
def X10_passYearOfTwo (a : Nat) (x1 : Int32) (x2 : Int32) (m : Mem) : Option (Unit × Mem) :=
  bnd (X10_growOlder a x1 m) fun r_1 m_2 =>
  bnd (X10_growOlder a x2 m_2) fun r_3 m_4 =>
  bnd (X10_exchange a x1 x2 m_4) fun _ m_6 =>
  lt (si m_6 (a + 1) 0 ((gi m_6 (a + 1) 0) + 1)) fun m_7 =>
  some ((), m_7)
def X10_passYearAround (a : Nat) (x1 : Int32) (m : Mem) : Option (Unit × Mem) :=
  chk (inb x1 8) <|
  lt (gi m ((a + 1) + 2) (ix x1)) fun x_1 =>
  bnd (X10_isPerson a x_1 m) fun r_2 m_3 =>
  if r_2 = 0 then
    (bnd (X10_growOlder a x1 m_3) fun r_4 m_5 =>
    some ((), m_5))
  else
    (bnd (X10_passYearOfTwo a x1 x_1 m_3) fun _ m_7 =>
    some ((), m_7))
def X10_rarity (a : Nat) (x1 : Int32) (m : Mem) : Option (Int32 × Mem) :=
  chk (inb x1 14) <|
  bnd (J6_bitCount_0f7a4 (gi m ((a + 1) + 4) (ix x1)) m) fun r_1 m_2 =>
  some ((((gi m 2 1) - r_1) + 1), m_2)
def X5_become (a : Nat) (b1 : Nat) (m : Mem) : Option (Unit × Mem) :=
  lt (si m a 0 (gi m b1 0)) fun m_1 =>
  chk (decide (¬ (0 : Int32) < 0 ∧ ¬ (0 : Int32) < 0 ∧ ¬ (8 : Int32) < 0 ∧ ix 0 + ix 8 ≤ 8 ∧ ix 0 + ix 8 ≤ 8)) <|
  lt (cpm m_1 (b1 + 1) (a + 1) (ix 0) (ix 0) (ix 8)) fun m_2 =>
  chk (decide (¬ (0 : Int32) < 0 ∧ ¬ (0 : Int32) < 0 ∧ ¬ (8 : Int32) < 0 ∧ ix 0 + ix 8 ≤ 8 ∧ ix 0 + ix 8 ≤ 8)) <|
  lt (cpm m_2 (b1 + 2) (a + 2) (ix 0) (ix 0) (ix 8)) fun m_3 =>
  chk (decide (¬ (0 : Int32) < 0 ∧ ¬ (0 : Int32) < 0 ∧ ¬ (8 : Int32) < 0 ∧ ix 0 + ix 8 ≤ 8 ∧ ix 0 + ix 8 ≤ 8)) <|
  lt (cpm m_3 (b1 + 3) (a + 3) (ix 0) (ix 0) (ix 8)) fun m_4 =>
  chk (decide (¬ (0 : Int32) < 0 ∧ ¬ (0 : Int32) < 0 ∧ ¬ (14 : Int32) < 0 ∧ ix 0 + ix 14 ≤ 14 ∧ ix 0 + ix 14 ≤ 14)) <|
  lt (cpm m_4 (b1 + 4) (a + 4) (ix 0) (ix 0) (ix 14)) fun m_5 =>
  chk (decide (¬ (0 : Int32) < 0 ∧ ¬ (0 : Int32) < 0 ∧ ¬ (112 : Int32) < 0 ∧ ix 0 + ix 112 ≤ 112 ∧ ix 0 + ix 112 ≤ 112)) <|
  lt (cpm m_5 (b1 + 5) (a + 5) (ix 0) (ix 0) (ix 112)) fun m_6 =>
  some ((), m_6)
def X2_keep_b32 (b1 : Nat) (m : Mem) : Option (Unit × Mem) :=
  chk (inb (((gi m 40 1) + (gi m 40 2)) - ((gi m 40 1) + (gi m 40 2)) / 8 * 8) 8) <|
  lt (42 + 6 * ix (((gi m 40 1) + (gi m 40 2)) - ((gi m 40 1) + (gi m 40 2)) / 8 * 8)) fun b_1 =>
  bnd (X5_become b_1 b1 m) fun _ m_4 =>
  lt (si m_4 40 2 ((gi m_4 40 2) + 1)) fun m_5 =>
  some ((), m_5)
def X2_keep (b1 : Nat) (m : Mem) : Option (Unit × Mem) :=
  if (gi m 40 2) = 8 then
    (lt (si m 40 1 (((gi m 40 1) + 1) - ((gi m 40 1) + 1) / 8 * 8)) fun m_6 =>
    lt (si m_6 40 2 ((gi m_6 40 2) - 1)) fun m_7 =>
    X2_keep_b32 b1  m_7)
  else
    (X2_keep_b32 b1  m)
def X11_acceptTrial  (x1 : Int32) (m : Mem) : Option (Unit × Mem) :=
  if x1 ≤ 0 then
    (some ((), m))
  else
    (bnd (X2_keep 26 m) fun _ m_2 =>
    bnd (X5_become 26 33 m_2) fun _ m_4 =>
    some ((), m_4))
def X8_traitsBut_b4 (a : Nat) : Nat → Int32 → Int32 → Int32 → Mem → Option (Int32 × Mem)
  | 0, _, _, _, _ => none
  | n + 1, y1, y2, y3, m =>
    if (gi m a 1) ≤ y3 then
      (some (y2, m))
    else
      (if y3 = y1 then
        (X8_traitsBut_b4 a n y1 y2 (y3 + 1) m)
      else
        (chk (inb y3 8) <|
        lt (y2 ||| (gi m (a + 2) (ix y3))) fun x_1 =>
        X8_traitsBut_b4 a n y1 x_1 (y3 + 1) m))
def X8_traitsBut (a : Nat) (x1 : Int32) (m : Mem) : Option (Int32 × Mem) :=
  X8_traitsBut_b4 a FU x1 0 0 m
def X11_angry_b4  : Nat → Int32 → Int32 → Mem → Option (Int32 × Mem)
  | 0, _, _, _ => none
  | n + 1, y1, y2, m =>
    if (gi m 2 1) ≤ y2 then
      (some (y1, m))
    else
      (chk (inb y2 8) <|
      bnd (X8_traitsBut 2 y2 m) fun r_1 m_2 =>
      if ((gi m 29 (ix y2)) &&& r_1) = 0 then
        (X11_angry_b4  n y1 (y2 + 1) m_2)
      else
        (lt (y1 ||| ((1 : Int32) <<< (y2 &&& 31))) fun x_3 =>
        X11_angry_b4  n x_3 (y2 + 1) m_2))
def X11_angry  (m : Mem) : Option (Int32 × Mem) :=
  X11_angry_b4  FU 0 0 m
def X11_isEither  (x1 : Int32) (m : Mem) : Option (Int32 × Mem) :=
  if x1 = 0 then
    (some (1, m))
  else
    (if x1 = 1 then
      (some (1, m))
    else
      (some (0, m)))
def X8_everybody (a : Nat) (m : Mem) : Option (Int32 × Mem) :=
  some ((((1 : Int32) <<< ((gi m a 1) &&& 31)) - 1), m)
def X11_isHouse  (x1 : Int32) (x2 : Int32) (m : Mem) : Option (Int32 × Mem) :=
  bnd (X10_allOf 25 x1 m) fun r_1 m_2 =>
  bnd (J6_bitCount_0f7a4 r_1 m_2) fun r_3 m_4 =>
  if r_3 < x2 then
    (some (0, m_4))
  else
    (some (1, m_4))
def X11_biggest_b40  : Nat → Int32 → Int32 → Int32 → Int32 → Int32 → Int32 → Mem → Option (Int32 × Mem)
  | 0, _, _, _, _, _, _, _ => none
  | n + 1, y1, y2, y3, y4, y5, y6, m =>
    if y5 < y6 then
      (if y2 = 0 then
        (some (y3, m))
      else
        (some (y4, m)))
    else
      (bnd (J6_bitCount_0f7a4 y6 m) fun r_5 m_6 =>
      if r_5 ≤ y3 then
        (X11_biggest_b40  n y1 y2 y3 y4 y5 (y6 + 1) m_6)
      else
        (bnd (X11_isHouse y6 y1 m_6) fun r_7 m_8 =>
        if r_7 = 0 then
          (X11_biggest_b40  n y1 y2 y3 y4 y5 (y6 + 1) m_8)
        else
          (bnd (J6_bitCount_0f7a4 y6 m_8) fun r_9 m_10 =>
          X11_biggest_b40  n y1 y2 r_9 y6 y5 (y6 + 1) m_10)))
def X11_biggest  (x1 : Int32) (x2 : Int32) (m : Mem) : Option (Int32 × Mem) :=
  bnd (X11_isEither x2 m) fun r_1 m_2 =>
  if r_1 = 0 then
    (some ((-2), m_2))
  else
    (if x1 < 0 then
      (some ((-3), m_2))
    else
      (if x1 ≤ 14 then
        (bnd (X8_everybody 2 m_2) fun r_3 m_4 =>
        X11_biggest_b40  FU x1 x2 0 0 r_3 1 m_4)
      else
        (some ((-3), m_2))))
def X6_survey_b25 (b1 : Nat) (k13 : Int32 → Mem → Option (Unit × Mem)) : Nat → Int32 → Int32 → Mem → Option (Unit × Mem)
  | 0, _, _, _ => none
  | n + 1, y2, y3, m =>
    if (gi m 90 0) ≤ y3 then
      (k13 (y2 + 1) m)
    else
      (bnd (X10_goodness b1 y2 y3 m) fun r_3 m_4 =>
      bnd (X10_isAllowed b1 y2 y3 m_4) fun r_5 m_6 =>
      chk (inb ((y2 * 8) + y3) 64) <|
      lt (si m_6 92 (ix ((y2 * 8) + y3)) r_3) fun m_7 =>
      chk (inb ((y3 * 8) + y2) 64) <|
      lt (si m_7 92 (ix ((y3 * 8) + y2)) r_3) fun m_8 =>
      chk (inb ((y2 * 8) + y3) 64) <|
      lt (si m_8 91 (ix ((y2 * 8) + y3)) (vp_nar .boolean r_5)) fun m_9 =>
      chk (inb ((y3 * 8) + y2) 64) <|
      lt (si m_9 91 (ix ((y3 * 8) + y2)) (vp_nar .boolean r_5)) fun m_10 =>
      X6_survey_b25 b1 k13 n y2 (y3 + 1) m_10)
def X6_survey_b13 (b1 : Nat) : Nat → Int32 → Mem → Option (Unit × Mem)
  | 0, _, _ => none
  | n + 1, y2, m =>
    if (gi m 90 0) ≤ y2 then
      (some ((), m))
    else
      (lt (y2 + 1) fun x_2 =>
      X6_survey_b25 b1 (X6_survey_b13 b1 n) FU y2 x_2 m)
def X6_survey (b1 : Nat) (m : Mem) : Option (Unit × Mem) :=
  lt (si m 90 0 (gi m 2 1)) fun m_1 =>
  X6_survey_b13 b1 FU 0 m_1
def X6_leaveAlone_b2  : Nat → Int32 → Mem → Option (Unit × Mem)
  | 0, _, _ => none
  | n + 1, y1, m =>
    if 8 ≤ y1 then
      (some ((), m))
    else
      (chk (inb y1 8) <|
      lt (si m 95 (ix y1) (-1)) fun m_1 =>
      X6_leaveAlone_b2  n (y1 + 1) m_1)
def X6_leaveAlone  (m : Mem) : Option (Unit × Mem) :=
  X6_leaveAlone_b2  FU 0 m
def X6_seat_b6 (b1 : Nat) : Nat → Int32 → Mem → Option (Unit × Mem)
  | 0, _, _ => none
  | n + 1, y2, m =>
    if (gi m 90 0) ≤ y2 then
      (some ((), m))
    else
      (if 8 ≤ y2 then
        (some ((), m))
      else
        (chk (inb y2 8) <|
        chk (inb y2 8) <|
        lt (si m 95 (ix y2) (gi m b1 (ix y2))) fun m_3 =>
        X6_seat_b6 b1 n (y2 + 1) m_3))
def X6_seat (b1 : Nat) (m : Mem) : Option (Unit × Mem) :=
  bnd (X6_leaveAlone  m) fun _ m_2 =>
  X6_seat_b6 b1 FU 0 m_2
def X6_isOpen  (x1 : Int32) (x2 : Int32) (m : Mem) : Option (Int32 × Mem) :=
  chk (inb ((x1 * 8) + x2) 64) <|
  chk (decide ((gi m 91 (ix ((x1 * 8) + x2))) = 0 ∨ (gi m 91 (ix ((x1 * 8) + x2))) = 1)) (some ((gi m 91 (ix ((x1 * 8) + x2))), m))
def X6_goodNow  (x1 : Int32) (m : Mem) : Option (Int32 × Mem) :=
  chk (inb x1 8) <|
  lt (gi m 95 (ix x1)) fun x_1 =>
  if x_1 < 0 then
    (some ((-2000000000), m))
  else
    (if x_1 < (gi m 90 0) then
      (chk (inb ((x1 * 8) + x_1) 64) <|
      some ((gi m 92 (ix ((x1 * 8) + x_1))), m))
    else
      (some ((-2000000000), m)))
def X6_firstBreak_b14 (k2 : Int32 → Mem → Option (Int32 × Mem)) : Nat → Int32 → Int32 → Mem → Option (Int32 × Mem)
  | 0, _, _, _ => none
  | n + 1, y1, y2, m =>
    if (gi m 90 0) ≤ y2 then
      (k2 (y1 + 1) m)
    else
      (chk (inb ((y1 * 8) + y2) 64) <|
      lt (gi m 92 (ix ((y1 * 8) + y2))) fun x_2 =>
      bnd (X6_isOpen y1 y2 m) fun r_3 m_4 =>
      if r_3 = 0 then
        (X6_firstBreak_b14 k2 n y1 (y2 + 1) m_4)
      else
        (bnd (X6_goodNow y1 m_4) fun r_5 m_6 =>
        if x_2 ≤ r_5 then
          (X6_firstBreak_b14 k2 n y1 (y2 + 1) m_6)
        else
          (bnd (X6_goodNow y2 m_6) fun r_7 m_8 =>
          if x_2 ≤ r_7 then
            (X6_firstBreak_b14 k2 n y1 (y2 + 1) m_8)
          else
            (some (((10 * y1) + y2), m_8)))))
def X6_firstBreak_b2  : Nat → Int32 → Mem → Option (Int32 × Mem)
  | 0, _, _ => none
  | n + 1, y1, m =>
    if (gi m 90 0) ≤ y1 then
      (some ((-1), m))
    else
      (lt (y1 + 1) fun x_1 =>
      X6_firstBreak_b14 (X6_firstBreak_b2 n) FU y1 x_1 m)
def X6_firstBreak  (m : Mem) : Option (Int32 × Mem) :=
  X6_firstBreak_b2  FU 0 m
def X11_breaks  (m : Mem) : Option (Int32 × Mem) :=
  bnd (X6_survey 25 m) fun _ m_2 =>
  bnd (X6_seat 28 m_2) fun _ m_4 =>
  bnd (X6_firstBreak  m_4) fun r_5 m_6 =>
  some (r_5, m_6)
def X4_ofTerm  (x1 : Int32) (m : Mem) : Option (Int32 × Mem) :=
  some (((-1) - x1), m)
def X4_add (a : Nat) (x1 : Int32) (m : Mem) : Option (Unit × Mem) :=
  if 900 ≤ (gi m a 1) then
    (some ((), m))
  else
    (chk (inb (gi m a 1) 900) <|
    lt (si m (a + 1) (ix (gi m a 1)) x1) fun m_1 =>
    lt (si m_1 a 1 ((gi m_1 a 1) + 1)) fun m_2 =>
    some ((), m_2))
def X8_setFirstLaws (a : Nat) (m : Mem) : Option (Unit × Mem) :=
  lt (si m (a + 3) 1 0) fun m_1 =>
  bnd (X4_ofTerm 1 m_1) fun r_2 m_3 =>
  bnd (X4_add (a + 3) r_2 m_3) fun _ m_5 =>
  bnd (X4_ofTerm 2 m_5) fun r_6 m_7 =>
  bnd (X4_add (a + 3) r_6 m_7) fun _ m_9 =>
  bnd (X4_add (a + 3) 2 m_9) fun _ m_11 =>
  bnd (X4_add (a + 3) (-10) m_11) fun _ m_13 =>
  bnd (X4_add (a + 3) (-9) m_13) fun _ m_15 =>
  lt (si m_15 (a + 5) 1 0) fun m_16 =>
  bnd (X4_add (a + 5) 1 m_16) fun _ m_18 =>
  some ((), m_18)
def X8_clear (a : Nat) (m : Mem) : Option (Unit × Mem) :=
  lt (si m a 0 0) fun m_1 =>
  lt (si m_1 a 1 0) fun m_2 =>
  lt (si m_2 a 4 0) fun m_3 =>
  lt (si m_3 a 2 10) fun m_4 =>
  lt (si m_4 a 3 14) fun m_5 =>
  bnd (X8_setFirstLaws a m_5) fun _ m_7 =>
  some ((), m_7)
def X5_clear_b42 (a : Nat) : Nat → Int32 → Mem → Option (Unit × Mem)
  | 0, _, _ => none
  | n + 1, y1, m =>
    if 14 ≤ y1 then
      (some ((), m))
    else
      (chk (inb y1 14) <|
      lt (si m (a + 4) (ix y1) 0) fun m_2 =>
      X5_clear_b42 a n (y1 + 1) m_2)
def X5_clear_b7 (a : Nat) : Nat → Int32 → Mem → Option (Unit × Mem)
  | 0, _, _ => none
  | n + 1, y1, m =>
    if 8 ≤ y1 then
      (X5_clear_b42 a FU 0 m)
    else
      (chk (inb y1 8) <|
      lt (si m (a + 1) (ix y1) 0) fun m_3 =>
      chk (inb y1 8) <|
      lt (si m_3 (a + 2) (ix y1) (-1)) fun m_4 =>
      chk (inb y1 8) <|
      lt (si m_4 (a + 3) (ix y1) 0) fun m_5 =>
      X5_clear_b7 a n (y1 + 1) m_5)
def X5_clear (a : Nat) (m : Mem) : Option (Unit × Mem) :=
  lt (si m a 0 0) fun m_1 =>
  X5_clear_b7 a FU 0 m_1
def X7_isLetter  (x1 : Int32) (m : Mem) : Option (Int32 × Mem) :=
  if x1 < 97 then
    (some (0, m))
  else
    (if 122 < x1 then
      (some (0, m))
    else
      (some (1, m)))
def X7_isDigit  (x1 : Int32) (m : Mem) : Option (Int32 × Mem) :=
  if x1 < 48 then
    (some (0, m))
  else
    (if 57 < x1 then
      (some (0, m))
    else
      (some (1, m)))
def X7_next_b237  (z0 : Int32) (m : Mem) : Option (Unit × Mem) :=
  lt (si m 39 5 z0) fun m_8 =>
  lt (si m_8 39 7 ((gi m_8 39 7) + 1)) fun m_9 =>
  some ((), m_9)
def X7_next_b192  (m : Mem) : Option (Unit × Mem) :=
  if ((gi m 39 7) - (gi m 39 6)) ≤ 3 then
    (lt (si m 39 5 2) fun m_12 =>
    some ((), m_12))
  else
    (lt (si m 39 5 3) fun m_13 =>
    some ((), m_13))
def X7_next_b153  : Nat → Mem → Option (Unit × Mem)
  | 0, _ => none
  | n + 1, m =>
    if (gi m 39 4) ≤ (gi m 39 7) then
      (X7_next_b192   m)
    else
      (chk (inb (gi m 39 7) 900) <|
      bnd (X7_isDigit (gi m 1 (ix (gi m 39 7))) m) fun r_14 m_15 =>
      if r_14 = 0 then
        (X7_next_b192   m_15)
      else
        (lt (si m_15 39 7 ((gi m_15 39 7) + 1)) fun m_16 =>
        X7_next_b153  n  m_16))
def X7_next_b107  : Nat → Mem → Option (Unit × Mem)
  | 0, _ => none
  | n + 1, m =>
    if (gi m 39 4) ≤ (gi m 39 7) then
      (some ((), m))
    else
      (chk (inb (gi m 39 7) 900) <|
      bnd (X7_isLetter (gi m 1 (ix (gi m 39 7))) m) fun r_18 m_19 =>
      if r_18 = 0 then
        (some ((), m_19))
      else
        (lt (si m_19 39 7 ((gi m_19 39 7) + 1)) fun m_20 =>
        X7_next_b107  n  m_20))
def X7_next_b60  (m : Mem) : Option (Unit × Mem) :=
  lt (si m 39 7 (gi m 39 6)) fun m_2 =>
  if (gi m_2 39 6) < (gi m_2 39 4) then
    (chk (inb (gi m_2 39 6) 900) <|
    lt (gi m_2 1 (ix (gi m_2 39 6))) fun x_3 =>
    bnd (X7_isLetter x_3 m_2) fun r_4 m_5 =>
    if r_4 = 0 then
      (bnd (X7_isDigit x_3 m_5) fun r_6 m_7 =>
      if r_6 = 0 then
        (if x_3 ≤ 0 then
          (X7_next_b237  3 m_7)
        else
          (bnd (J0_indexOf_0f7a4 0 (((x_3 : Int32).toUInt32 % 65536).toInt32) m_7) fun r_10 m_11 =>
          if r_10 < 0 then
            (X7_next_b237  3 m_11)
          else
            (X7_next_b237  x_3 m_11)))
      else
        (X7_next_b153  FU  m_7))
    else
      (lt (si m_5 39 5 1) fun m_17 =>
      X7_next_b107  FU  m_17))
  else
    (lt (si m_2 39 5 0) fun m_21 =>
    some ((), m_21))
def X7_next_b47 (k8 : Mem → Option (Unit × Mem)) (m : Mem) : Option (Unit × Mem) :=
  lt (si m 39 6 ((gi m 39 6) + 1)) fun m_22 =>
  k8  m_22
def X7_next_b8  : Nat → Mem → Option (Unit × Mem)
  | 0, _ => none
  | n + 1, m =>
    if (gi m 39 4) ≤ (gi m 39 6) then
      (X7_next_b60   m)
    else
      (chk (inb (gi m 39 6) 900) <|
      if (gi m 1 (ix (gi m 39 6))) = 32 then
        (X7_next_b47 (X7_next_b8 n)  m)
      else
        (chk (inb (gi m 39 6) 900) <|
        if (gi m 1 (ix (gi m 39 6))) = 10 then
          (X7_next_b47 (X7_next_b8 n)  m)
        else
          (X7_next_b60   m)))
def X7_next  (m : Mem) : Option (Unit × Mem) :=
  lt (si m 39 6 (gi m 39 7)) fun m_1 =>
  X7_next_b8  FU  m_1
def X7_isWord_b28 (k1 : Nat) : Nat → Int32 → Mem → Option (Int32 × Mem)
  | 0, _, _ => none
  | n + 1, y2, m =>
    bnd (J0_length_8abf5 k1 m) fun r_3 m_4 =>
    if r_3 ≤ y2 then
      (some (1, m_4))
    else
      (if (gi m_4 39 4) ≤ ((gi m_4 39 6) + y2) then
        (some (1, m_4))
      else
        (chk (inb ((gi m_4 39 6) + y2) 900) <|
        bnd (J0_charAt_5068e k1 y2 m_4) fun r_5 m_6 =>
        if (gi m_4 1 (ix ((gi m_4 39 6) + y2))) = r_5 then
          (X7_isWord_b28 k1 n (y2 + 1) m_6)
        else
          (some (0, m_6))))
def X7_isWord (k1 : Nat) (m : Mem) : Option (Int32 × Mem) :=
  if (gi m 39 5) = 1 then
    (bnd (J0_length_8abf5 k1 m) fun r_1 m_2 =>
    if ((gi m 39 7) - (gi m 39 6)) = r_1 then
      (X7_isWord_b28 k1 FU 0 m_2)
    else
      (some (0, m_2)))
  else
    (some (0, m))
def X7_blame  (x1 : Int32) (m : Mem) : Option (Int32 × Mem) :=
  if (gi m 39 8) = 0 then
    (lt (si m 39 8 x1) fun m_1 =>
    lt (si m_1 39 9 (gi m_1 39 6)) fun m_2 =>
    some (0, m_2))
  else
    (some (0, m))
def X7_refuse  (m : Mem) : Option (Int32 × Mem) :=
  if (gi m 39 5) = 3 then
    (bnd (X7_blame 1 m) fun r_3 m_4 =>
    chk (decide (r_3 = 0 ∨ r_3 = 1)) (some (r_3, m_4)))
  else
    (bnd (X7_blame 2 m) fun r_1 m_2 =>
    chk (decide (r_1 = 0 ∨ r_1 = 1)) (some (r_1, m_2)))
def X7_readNumber_b73  (m : Mem) : Option (Int32 × Mem) :=
  bnd (X7_blame 3 m) fun r_2 m_3 =>
  some ((-1), m_3)
def X7_readNumber_b63  (y1 : Int32) (y2 : Int32) (y3 : Int32) (m : Mem) : Option (Int32 × Mem) :=
  if y3 < y1 then
    (X7_readNumber_b73   m)
  else
    (if y3 ≤ y2 then
      (bnd (X7_next  m) fun _ m_5 =>
      some (y3, m_5))
    else
      (X7_readNumber_b73   m))
def X7_readNumber_b23  : Nat → Int32 → Int32 → Int32 → Int32 → Mem → Option (Int32 × Mem)
  | 0, _, _, _, _, _ => none
  | n + 1, y1, y2, y3, y4, m =>
    if (gi m 39 7) ≤ y4 then
      (X7_readNumber_b63  y1 y2 y3 m)
    else
      (if (gi m 39 4) ≤ y4 then
        (X7_readNumber_b63  y1 y2 y3 m)
      else
        (chk (inb y4 900) <|
        lt (((10 * y3) + (gi m 1 (ix y4))) - 48) fun x_6 =>
        X7_readNumber_b23  n y1 y2 x_6 (y4 + 1) m))
def X7_readNumber  (x1 : Int32) (x2 : Int32) (m : Mem) : Option (Int32 × Mem) :=
  if (gi m 39 5) = 2 then
    (lt (gi m 39 6) fun x_1 =>
    X7_readNumber_b23  FU x1 x2 0 x_1 m)
  else
    (bnd (X7_refuse  m) fun r_7 m_8 =>
    some ((-1), m_8))
def X7_readThing_b47  (y1 : Int32) (y2 : Int32) (m : Mem) : Option (Int32 × Mem) :=
  chk (inb y1 14) <|
  lt (si m 10 (ix y1) y2) fun m_6 =>
  lt (si m_6 9 0 ((gi m_6 9 0) + 1)) fun m_7 =>
  if (gi m_7 39 8) = 0 then
    (some (1, m_7))
  else
    (some (0, m_7))
def X7_readThing  (m : Mem) : Option (Int32 × Mem) :=
  lt (gi m 9 0) fun x_1 =>
  if x_1 < 14 then
    (bnd (X7_next  m) fun _ m_3 =>
    bnd (X7_isWord 2 m_3) fun r_4 m_5 =>
    if r_4 = 0 then
      (X7_readThing_b47  x_1 0 m_5)
    else
      (bnd (X7_next  m_5) fun _ m_9 =>
      bnd (X7_readNumber 1 99 m_9) fun r_10 m_11 =>
      X7_readThing_b47  x_1 r_10 m_11))
  else
    (bnd (X7_blame 4 m) fun r_12 m_13 =>
    chk (decide (r_12 = 0 ∨ r_12 = 1)) (some (r_12, m_13)))
def X7_passWord (k1 : Nat) (m : Mem) : Option (Int32 × Mem) :=
  bnd (X7_isWord k1 m) fun r_1 m_2 =>
  if r_1 = 0 then
    (bnd (X7_refuse  m_2) fun r_5 m_6 =>
    chk (decide (r_5 = 0 ∨ r_5 = 1)) (some (r_5, m_6)))
  else
    (bnd (X7_next  m_2) fun _ m_4 =>
    some (1, m_4))
def X7_readThings_b34 (k8 : Int32 → Int32 → Mem → Option (Int32 × Mem)) (y1 : Int32) (y2 : Int32) (m : Mem) : Option (Int32 × Mem) :=
  bnd (X7_readNumber 0 ((gi m 9 0) - 1) m) fun r_3 m_4 =>
  if r_3 < 0 then
    (k8 y1 (y2 + 1) m_4)
  else
    (lt (y1 ||| ((1 : Int32) <<< (r_3 &&& 31))) fun x_5 =>
    k8 x_5 (y2 + 1) m_4)
def X7_readThings_b8  : Nat → Int32 → Int32 → Mem → Option (Int32 × Mem)
  | 0, _, _, _ => none
  | n + 1, y1, y2, m =>
    if 900 < y2 then
      (some (y1, m))
    else
      (if (gi m 39 8) = 0 then
        (if y2 = 0 then
          (X7_readThings_b34 (X7_readThings_b8 n) y1 y2 m)
        else
          (if (gi m 39 5) = 2 then
            (X7_readThings_b34 (X7_readThings_b8 n) y1 y2 m)
          else
            (some (y1, m))))
      else
        (some (y1, m)))
def X7_readThings  (m : Mem) : Option (Int32 × Mem) :=
  bnd (X7_next  m) fun _ m_2 =>
  X7_readThings_b8  FU 0 0 m_2
def X7_readPerson_b148  (m : Mem) : Option (Int32 × Mem) :=
  lt (si m 9 1 ((gi m 9 1) + 1)) fun m_10 =>
  if (gi m_10 39 8) = 0 then
    (some (1, m_10))
  else
    (some (0, m_10))
def X7_readPerson_b113  : Nat → Int32 → Int32 → Int32 → Mem → Option (Int32 × Mem)
  | 0, _, _, _, _ => none
  | n + 1, y1, y2, y3, m =>
    if (gi m 9 0) ≤ y3 then
      (X7_readPerson_b148   m)
    else
      (if (y2 &&& ((1 : Int32) <<< (y3 &&& 31))) = 0 then
        (X7_readPerson_b113  n y1 y2 (y3 + 1) m)
      else
        (bnd (X5_adopt 16 y1 y3 0 m) fun _ m_16 =>
        X7_readPerson_b113  n y1 y2 (y3 + 1) m_16))
def X7_readPerson_b90  (y1 : Int32) (m : Mem) : Option (Int32 × Mem) :=
  if (gi m 39 8) = 0 then
    (bnd (X7_isWord 6 m) fun r_11 m_12 =>
    if r_11 = 0 then
      (X7_readPerson_b148   m_12)
    else
      (bnd (X7_readThings  m_12) fun r_13 m_14 =>
      X7_readPerson_b113  FU y1 r_13 0 m_14))
  else
    (X7_readPerson_b148   m)
def X7_readPerson  (m : Mem) : Option (Int32 × Mem) :=
  lt (gi m 9 1) fun x_1 =>
  if x_1 < 8 then
    (bnd (X7_next  m) fun _ m_3 =>
    bnd (X7_passWord 4 m_3) fun r_4 m_5 =>
    if r_4 = 0 then
      (some (0, m_5))
    else
      (bnd (X7_readNumber 0 99 m_5) fun r_6 m_7 =>
      chk (inb x_1 8) <|
      lt (si m_7 17 (ix x_1) r_6) fun m_8 =>
      chk (inb x_1 8) <|
      lt (si m_8 11 (ix x_1) 0) fun m_9 =>
      if (gi m_9 39 8) = 0 then
        (bnd (X7_isWord 5 m_9) fun r_17 m_18 =>
        if r_17 = 0 then
          (X7_readPerson_b90  x_1 m_18)
        else
          (bnd (X7_readThings  m_18) fun r_19 m_20 =>
          chk (inb x_1 8) <|
          lt (si m_20 11 (ix x_1) r_19) fun m_21 =>
          X7_readPerson_b90  x_1 m_21))
      else
        (X7_readPerson_b90  x_1 m_9)))
  else
    (bnd (X7_blame 4 m) fun r_22 m_23 =>
    chk (decide (r_22 = 0 ∨ r_22 = 1)) (some (r_22, m_23)))
def X7_pass  (x1 : Int32) (m : Mem) : Option (Int32 × Mem) :=
  if (gi m 39 5) = x1 then
    (bnd (X7_next  m) fun _ m_2 =>
    some (1, m_2))
  else
    (bnd (X7_refuse  m) fun r_3 m_4 =>
    chk (decide (r_3 = 0 ∨ r_3 = 1)) (some (r_3, m_4)))
def X7_goDeeper  (x1 : Int32) (m : Mem) : Option (Int32 × Mem) :=
  if x1 < 6 then
    (bnd (X7_next  m) fun _ m_2 =>
    some (1, m_2))
  else
    (bnd (X7_blame 4 m) fun r_3 m_4 =>
    chk (decide (r_3 = 0 ∨ r_3 = 1)) (some (r_3, m_4)))
def X7_comparison  (m : Mem) : Option (Int32 × Mem) :=
  if (gi m 39 5) = 60 then
    (some ((-12), m))
  else if (gi m 39 5) = 61 then
    (some ((-11), m))
  else if (gi m 39 5) = 62 then
    (some ((-13), m))
  else (
    some (0, m))
def X7_termWord  (m : Mem) : Option (Int32 × Mem) :=
  bnd (X7_isWord 8 m) fun r_1 m_2 =>
  if r_1 = 0 then
    (bnd (X7_isWord 9 m_2) fun r_3 m_4 =>
    if r_3 = 0 then
      (bnd (X7_isWord 10 m_4) fun r_5 m_6 =>
      if r_5 = 0 then
        (bnd (X7_isWord 11 m_6) fun r_7 m_8 =>
        if r_7 = 0 then
          (bnd (X7_isWord 12 m_8) fun r_9 m_10 =>
          if r_9 = 0 then
            (bnd (X7_isWord 13 m_10) fun r_11 m_12 =>
            if r_11 = 0 then
              (bnd (X7_isWord 14 m_12) fun r_13 m_14 =>
              if r_13 = 0 then
                (some ((-1), m_14))
              else
                (some (6, m_14)))
            else
              (some (5, m_12)))
          else
            (some (4, m_10)))
        else
          (some (3, m_8)))
      else
        (some (2, m_6)))
    else
      (some (1, m_4)))
  else
    (some (0, m_2))
def X7_readTruth_b8 (f_X7_readBoth : Int32 → Mem → Option (Int32 × Mem)) : Nat → Int32 → Int32 → Int32 → Mem → Option (Int32 × Mem)
  | 0, _, _, _, _ => none
  | n + 1, y1, y2, y3, m =>
    if 900 < y3 then
      (chk (decide (y2 = 0 ∨ y2 = 1)) (some (y2, m)))
    else
      (if y2 = 0 then
        (chk (decide (y2 = 0 ∨ y2 = 1)) (some (y2, m)))
      else
        (bnd (X7_isWord 18 m) fun r_3 m_4 =>
        if r_3 = 0 then
          (chk (decide (y2 = 0 ∨ y2 = 1)) (some (y2, m_4)))
        else
          (bnd (X7_next  m_4) fun _ m_6 =>
          bnd (f_X7_readBoth y1 m_6) fun r_7 m_8 =>
          chk (okl (gi m_8 39 3)) <|
          lt (ix (gi m_8 39 3)) fun b_9 =>
          bnd (X4_add b_9 (-16) m_8) fun _ m_12 =>
          X7_readTruth_b8 f_X7_readBoth n y1 r_7 (y3 + 1) m_12)))
def X7_readTruth (f_X7_readBoth : Int32 → Mem → Option (Int32 × Mem)) (x1 : Int32) (m : Mem) : Option (Int32 × Mem) :=
  bnd (f_X7_readBoth x1 m) fun r_1 m_2 =>
  X7_readTruth_b8 f_X7_readBoth FU x1 r_1 0 m_2
def X7_readBoth_b8 (f_X7_readUnit : Int32 → Mem → Option (Int32 × Mem)) : Nat → Int32 → Int32 → Int32 → Mem → Option (Int32 × Mem)
  | 0, _, _, _, _ => none
  | n + 1, y1, y2, y3, m =>
    if 900 < y3 then
      (chk (decide (y2 = 0 ∨ y2 = 1)) (some (y2, m)))
    else
      (if y2 = 0 then
        (chk (decide (y2 = 0 ∨ y2 = 1)) (some (y2, m)))
      else
        (bnd (X7_isWord 17 m) fun r_3 m_4 =>
        if r_3 = 0 then
          (chk (decide (y2 = 0 ∨ y2 = 1)) (some (y2, m_4)))
        else
          (bnd (X7_next  m_4) fun _ m_6 =>
          bnd (f_X7_readUnit y1 m_6) fun r_7 m_8 =>
          chk (okl (gi m_8 39 3)) <|
          lt (ix (gi m_8 39 3)) fun b_9 =>
          bnd (X4_add b_9 (-15) m_8) fun _ m_12 =>
          X7_readBoth_b8 f_X7_readUnit n y1 r_7 (y3 + 1) m_12)))
def X7_readBoth (f_X7_readUnit : Int32 → Mem → Option (Int32 × Mem)) (x1 : Int32) (m : Mem) : Option (Int32 × Mem) :=
  bnd (f_X7_readUnit x1 m) fun r_1 m_2 =>
  X7_readBoth_b8 f_X7_readUnit FU x1 r_1 0 m_2
def X7_readUnit (f_X7_readTruth : Int32 → Mem → Option (Int32 × Mem)) (f_X7_readUnit : Int32 → Mem → Option (Int32 × Mem)) (f_X7_readSum : Int32 → Mem → Option (Int32 × Mem)) (x1 : Int32) (m : Mem) : Option (Int32 × Mem) :=
  bnd (X7_isWord 16 m) fun r_1 m_2 =>
  if r_1 = 0 then
    (if (gi m_2 39 5) = 91 then
      (bnd (X7_goDeeper x1 m_2) fun r_17 m_18 =>
      if r_17 = 0 then
        (some (0, m_18))
      else
        (bnd (f_X7_readTruth (x1 + 1) m_18) fun r_19 m_20 =>
        if r_19 = 0 then
          (some (0, m_20))
        else
          (bnd (X7_pass 93 m_20) fun r_21 m_22 =>
          if r_21 = 0 then
            (some (0, m_22))
          else
            (some (1, m_22)))))
    else
      (bnd (f_X7_readSum x1 m_2) fun r_3 m_4 =>
      if r_3 = 0 then
        (some (0, m_4))
      else
        (bnd (X7_comparison  m_4) fun r_5 m_6 =>
        if r_5 = 0 then
          (bnd (X7_refuse  m_6) fun r_15 m_16 =>
          chk (decide (r_15 = 0 ∨ r_15 = 1)) (some (r_15, m_16)))
        else
          (bnd (X7_next  m_6) fun _ m_8 =>
          bnd (f_X7_readSum x1 m_8) fun r_9 m_10 =>
          chk (okl (gi m_10 39 3)) <|
          lt (ix (gi m_10 39 3)) fun b_11 =>
          bnd (X4_add b_11 r_5 m_10) fun _ m_14 =>
          chk (decide (r_9 = 0 ∨ r_9 = 1)) (some (r_9, m_14))))))
  else
    (bnd (X7_goDeeper x1 m_2) fun r_23 m_24 =>
    if r_23 = 0 then
      (some (0, m_24))
    else
      (bnd (f_X7_readUnit (x1 + 1) m_24) fun r_25 m_26 =>
      if r_25 = 0 then
        (some (0, m_26))
      else
        (chk (okl (gi m_26 39 3)) <|
        lt (ix (gi m_26 39 3)) fun b_27 =>
        bnd (X4_add b_27 (-14) m_26) fun _ m_30 =>
        some (1, m_30))))
def X7_readSum_b53 (f_X7_readTerm : Int32 → Mem → Option (Int32 × Mem)) (k8 : Int32 → Int32 → Int32 → Mem → Option (Int32 × Mem)) (y1 : Int32) (y3 : Int32) (z0 : Int32) (m : Mem) : Option (Int32 × Mem) :=
  bnd (X7_next  m) fun _ m_4 =>
  bnd (f_X7_readTerm y1 m_4) fun r_5 m_6 =>
  chk (okl (gi m_6 39 3)) <|
  lt (ix (gi m_6 39 3)) fun b_7 =>
  bnd (X4_add b_7 z0 m_6) fun _ m_10 =>
  k8 y1 r_5 (y3 + 1) m_10
def X7_readSum_b37 (f_X7_readTerm : Int32 → Mem → Option (Int32 × Mem)) (k8 : Int32 → Int32 → Int32 → Mem → Option (Int32 × Mem)) (y1 : Int32) (y3 : Int32) (m : Mem) : Option (Int32 × Mem) :=
  if (gi m 39 5) = 43 then
    (X7_readSum_b53 f_X7_readTerm k8 y1 y3 (-8) m)
  else
    (X7_readSum_b53 f_X7_readTerm k8 y1 y3 (-9) m)
def X7_readSum_b8 (f_X7_readTerm : Int32 → Mem → Option (Int32 × Mem)) : Nat → Int32 → Int32 → Int32 → Mem → Option (Int32 × Mem)
  | 0, _, _, _, _ => none
  | n + 1, y1, y2, y3, m =>
    if 900 < y3 then
      (chk (decide (y2 = 0 ∨ y2 = 1)) (some (y2, m)))
    else
      (if y2 = 0 then
        (chk (decide (y2 = 0 ∨ y2 = 1)) (some (y2, m)))
      else
        (if (gi m 39 5) = 43 then
          (X7_readSum_b37 f_X7_readTerm (X7_readSum_b8 f_X7_readTerm n) y1 y3 m)
        else
          (if (gi m 39 5) = 45 then
            (X7_readSum_b37 f_X7_readTerm (X7_readSum_b8 f_X7_readTerm n) y1 y3 m)
          else
            (chk (decide (y2 = 0 ∨ y2 = 1)) (some (y2, m))))))
def X7_readSum (f_X7_readTerm : Int32 → Mem → Option (Int32 × Mem)) (x1 : Int32) (m : Mem) : Option (Int32 × Mem) :=
  bnd (f_X7_readTerm x1 m) fun r_1 m_2 =>
  X7_readSum_b8 f_X7_readTerm FU x1 r_1 0 m_2
def X7_readTerm_b8 (f_X7_readAtom : Int32 → Mem → Option (Int32 × Mem)) : Nat → Int32 → Int32 → Int32 → Mem → Option (Int32 × Mem)
  | 0, _, _, _, _ => none
  | n + 1, y1, y2, y3, m =>
    if 900 < y3 then
      (chk (decide (y2 = 0 ∨ y2 = 1)) (some (y2, m)))
    else
      (if y2 = 0 then
        (chk (decide (y2 = 0 ∨ y2 = 1)) (some (y2, m)))
      else
        (if (gi m 39 5) = 42 then
          (bnd (X7_next  m) fun _ m_4 =>
          bnd (f_X7_readAtom y1 m_4) fun r_5 m_6 =>
          chk (okl (gi m_6 39 3)) <|
          lt (ix (gi m_6 39 3)) fun b_7 =>
          bnd (X4_add b_7 (-10) m_6) fun _ m_10 =>
          X7_readTerm_b8 f_X7_readAtom n y1 r_5 (y3 + 1) m_10)
        else
          (chk (decide (y2 = 0 ∨ y2 = 1)) (some (y2, m)))))
def X7_readTerm (f_X7_readAtom : Int32 → Mem → Option (Int32 × Mem)) (x1 : Int32) (m : Mem) : Option (Int32 × Mem) :=
  bnd (f_X7_readAtom x1 m) fun r_1 m_2 =>
  X7_readTerm_b8 f_X7_readAtom FU x1 r_1 0 m_2
def X7_readAtom (f_X7_readSum : Int32 → Mem → Option (Int32 × Mem)) (x1 : Int32) (m : Mem) : Option (Int32 × Mem) :=
  if (gi m 39 5) = 40 then
    (bnd (X7_goDeeper x1 m) fun r_19 m_20 =>
    if r_19 = 0 then
      (some (0, m_20))
    else
      (bnd (f_X7_readSum (x1 + 1) m_20) fun r_21 m_22 =>
      if r_21 = 0 then
        (some (0, m_22))
      else
        (bnd (X7_pass 41 m_22) fun r_23 m_24 =>
        if r_23 = 0 then
          (some (0, m_24))
        else
          (some (1, m_24)))))
  else
    (if (gi m 39 5) = 2 then
      (chk (okl (gi m 39 3)) <|
      lt (ix (gi m 39 3)) fun b_13 =>
      bnd (X7_readNumber 0 999 m) fun r_15 m_16 =>
      bnd (X4_add b_13 r_15 m_16) fun _ m_18 =>
      some (1, m_18))
    else
      (bnd (X7_termWord  m) fun r_1 m_2 =>
      if r_1 = (-1) then
        (bnd (X7_refuse  m_2) fun r_11 m_12 =>
        chk (decide (r_11 = 0 ∨ r_11 = 1)) (some (r_11, m_12)))
      else
        (chk (okl (gi m_2 39 3)) <|
        lt (ix (gi m_2 39 3)) fun b_3 =>
        bnd (X4_ofTerm r_1 m_2) fun r_5 m_6 =>
        bnd (X4_add b_3 r_5 m_6) fun _ m_8 =>
        bnd (X7_next  m_8) fun _ m_10 =>
        some (1, m_10))))
def g_X7_readTruth : Nat → (Int32 → Mem → Option (Int32 × Mem)) × (Int32 → Mem → Option (Int32 × Mem)) × (Int32 → Mem → Option (Int32 × Mem)) × (Int32 → Mem → Option (Int32 × Mem)) × (Int32 → Mem → Option (Int32 × Mem)) × (Int32 → Mem → Option (Int32 × Mem))
  | 0 => ((fun _ _ => none), (fun _ _ => none), (fun _ _ => none), (fun _ _ => none), (fun _ _ => none), (fun _ _ => none))
  | d + 1 => ((fun x1 m => X7_readTruth (g_X7_readTruth d).2.1 x1 m), (fun x1 m => X7_readBoth (g_X7_readTruth d).2.2.1 x1 m), (fun x1 m => X7_readUnit (g_X7_readTruth d).1 (g_X7_readTruth d).2.2.1 (g_X7_readTruth d).2.2.2.1 x1 m), (fun x1 m => X7_readSum (g_X7_readTruth d).2.2.2.2.1 x1 m), (fun x1 m => X7_readTerm (g_X7_readTruth d).2.2.2.2.2 x1 m), (fun x1 m => X7_readAtom (g_X7_readTruth d).2.2.2.1 x1 m))
def X7_readTruth_top (x1 : Int32) (m : Mem) : Option (Int32 × Mem) := (g_X7_readTruth 64).1 x1 m
def X7_readBoth_top (x1 : Int32) (m : Mem) : Option (Int32 × Mem) := (g_X7_readTruth 64).2.1 x1 m
def X7_readUnit_top (x1 : Int32) (m : Mem) : Option (Int32 × Mem) := (g_X7_readTruth 64).2.2.1 x1 m
def X7_readSum_top (x1 : Int32) (m : Mem) : Option (Int32 × Mem) := (g_X7_readTruth 64).2.2.2.1 x1 m
def X7_readTerm_top (x1 : Int32) (m : Mem) : Option (Int32 × Mem) := (g_X7_readTruth 64).2.2.2.2.1 x1 m
def X7_readAtom_top (x1 : Int32) (m : Mem) : Option (Int32 × Mem) := (g_X7_readTruth 64).2.2.2.2.2 x1 m
def X7_readLine  (m : Mem) : Option (Int32 × Mem) :=
  bnd (X7_isWord 1 m) fun r_1 m_2 =>
  if r_1 = 0 then
    (bnd (X7_isWord 3 m_2) fun r_3 m_4 =>
    if r_3 = 0 then
      (bnd (X7_isWord 7 m_4) fun r_5 m_6 =>
      if r_5 = 0 then
        (bnd (X7_isWord 15 m_6) fun r_7 m_8 =>
        if r_7 = 0 then
          (bnd (X7_isWord 19 m_8) fun r_9 m_10 =>
          if r_9 = 0 then
            (bnd (X7_isWord 20 m_10) fun r_11 m_12 =>
            if r_11 = 0 then
              (bnd (X7_refuse  m_12) fun r_13 m_14 =>
              chk (decide (r_13 = 0 ∨ r_13 = 1)) (some (r_13, m_14)))
            else
              (bnd (X7_next  m_12) fun _ m_16 =>
              bnd (X7_readNumber 1 14 m_16) fun r_17 m_18 =>
              lt (si m_18 9 3 r_17) fun m_19 =>
              if (gi m_19 39 8) = 0 then
                (some (1, m_19))
              else
                (some (0, m_19))))
          else
            (bnd (X7_next  m_10) fun _ m_21 =>
            bnd (X7_readNumber 0 999 m_21) fun r_22 m_23 =>
            lt (si m_23 9 2 r_22) fun m_24 =>
            if (gi m_24 39 8) = 0 then
              (some (1, m_24))
            else
              (some (0, m_24))))
        else
          (lt (si m_8 39 3 (nI 14)) fun m_25 =>
          chk (okl (gi m_25 39 3)) <|
          lt (ix (gi m_25 39 3)) fun b_26 =>
          lt (si m_25 b_26 1 0) fun m_28 =>
          bnd (X7_next  m_28) fun _ m_30 =>
          bnd (X7_pass 58 m_30) fun r_31 m_32 =>
          if r_31 = 0 then
            (some (0, m_32))
          else
            (bnd (X7_readTruth_top 0 m_32) fun r_33 m_34 =>
            if r_33 = 0 then
              (some (0, m_34))
            else
              (some (1, m_34)))))
      else
        (lt (si m_6 39 3 (nI 12)) fun m_35 =>
        chk (okl (gi m_35 39 3)) <|
        lt (ix (gi m_35 39 3)) fun b_36 =>
        lt (si m_35 b_36 1 0) fun m_38 =>
        bnd (X7_next  m_38) fun _ m_40 =>
        bnd (X7_pass 58 m_40) fun r_41 m_42 =>
        if r_41 = 0 then
          (some (0, m_42))
        else
          (bnd (X7_readSum_top 0 m_42) fun r_43 m_44 =>
          if r_43 = 0 then
            (some (0, m_44))
          else
            (some (1, m_44)))))
    else
      (bnd (X7_readPerson  m_4) fun r_45 m_46 =>
      chk (decide (r_45 = 0 ∨ r_45 = 1)) (some (r_45, m_46))))
  else
    (bnd (X7_readThing  m_2) fun r_47 m_48 =>
    chk (decide (r_47 = 0 ∨ r_47 = 1)) (some (r_47, m_48)))
def X7_readText_b89 (k50 : Int32 → Int32 → Mem → Option (Unit × Mem)) (y3 : Int32) (z0 : Int32) (m : Mem) : Option (Unit × Mem) :=
  lt (si m 9 4 ((gi m 9 4) + 1)) fun m_13 =>
  k50 z0 (y3 + 1) m_13
def X7_readText_b50  : Nat → Int32 → Int32 → Mem → Option (Unit × Mem)
  | 0, _, _, _ => none
  | n + 1, y2, y3, m =>
    if 900 < y3 then
      (some ((), m))
    else
      (if y2 = 0 then
        (some ((), m))
      else
        (if (gi m 39 5) = 0 then
          (some ((), m))
        else
          (bnd (X7_readLine  m) fun r_11 m_12 =>
          if r_11 = 0 then
            (X7_readText_b89 (X7_readText_b50 n) y3 0 m_12)
          else
            (bnd (X7_pass 59 m_12) fun r_14 m_15 =>
            if r_14 = 0 then
              (X7_readText_b89 (X7_readText_b50 n) y3 0 m_15)
            else
              (X7_readText_b89 (X7_readText_b50 n) y3 1 m_15)))))
def X7_readText  (x1 : Int32) (m : Mem) : Option (Unit × Mem) :=
  lt (si m 39 4 (if 900 < x1 then 900 else x1)) fun m_1 =>
  lt (si m_1 39 8 0) fun m_2 =>
  lt (si m_2 39 9 (-1)) fun m_3 =>
  bnd (X8_clear 9 m_3) fun _ m_5 =>
  bnd (X5_clear 16 m_5) fun _ m_7 =>
  lt (si m_7 39 7 0) fun m_8 =>
  bnd (X7_next  m_8) fun _ m_10 =>
  X7_readText_b50  FU 1 0 m_10
def X4_become (a : Nat) (b1 : Nat) (m : Mem) : Option (Unit × Mem) :=
  lt (si m a 1 (gi m b1 1)) fun m_1 =>
  chk (decide (¬ (0 : Int32) < 0 ∧ ¬ (0 : Int32) < 0 ∧ ¬ ((gi m_1 b1 1) : Int32) < 0 ∧ ix 0 + ix (gi m_1 b1 1) ≤ 900 ∧ ix 0 + ix (gi m_1 b1 1) ≤ 900)) <|
  lt (cpm m_1 (b1 + 1) (a + 1) (ix 0) (ix 0) (ix (gi m_1 b1 1))) fun m_2 =>
  some ((), m_2)
def X8_become (a : Nat) (b1 : Nat) (m : Mem) : Option (Unit × Mem) :=
  lt (si m a 0 (gi m b1 0)) fun m_1 =>
  lt (si m_1 a 1 (gi m_1 b1 1)) fun m_2 =>
  lt (si m_2 a 2 (gi m_2 b1 2)) fun m_3 =>
  lt (si m_3 a 3 (gi m_3 b1 3)) fun m_4 =>
  lt (si m_4 a 4 (gi m_4 b1 4)) fun m_5 =>
  chk (decide (¬ (0 : Int32) < 0 ∧ ¬ (0 : Int32) < 0 ∧ ¬ (14 : Int32) < 0 ∧ ix 0 + ix 14 ≤ 14 ∧ ix 0 + ix 14 ≤ 14)) <|
  lt (cpm m_5 (b1 + 1) (a + 1) (ix 0) (ix 0) (ix 14)) fun m_6 =>
  chk (decide (¬ (0 : Int32) < 0 ∧ ¬ (0 : Int32) < 0 ∧ ¬ (8 : Int32) < 0 ∧ ix 0 + ix 8 ≤ 8 ∧ ix 0 + ix 8 ≤ 8)) <|
  lt (cpm m_6 (b1 + 2) (a + 2) (ix 0) (ix 0) (ix 8)) fun m_7 =>
  bnd (X4_become (a + 3) (b1 + 3) m_7) fun _ m_9 =>
  bnd (X4_become (a + 5) (b1 + 5) m_9) fun _ m_11 =>
  some ((), m_11)
def X2_forget  (m : Mem) : Option (Unit × Mem) :=
  lt (si m 40 2 0) fun m_1 =>
  some ((), m_1)
def X11_bureau  (x1 : Int32) (m : Mem) : Option (Int32 × Mem) :=
  if x1 < 0 then
    (some ((-3), m))
  else
    (if x1 ≤ (gi m 0 1) then
      (lt (si m 0 1 0) fun m_1 =>
      bnd (X7_readText x1 m_1) fun _ m_3 =>
      if (gi m_3 39 8) = 0 then
        (bnd (X8_become 2 9 m_3) fun _ m_5 =>
        bnd (X5_become 26 16 m_5) fun _ m_7 =>
        bnd (X2_forget  m_7) fun _ m_9 =>
        some ((gi m_9 2 4), m_9))
      else
        (some (((-30) - (gi m_3 39 8)), m_3)))
    else
      (some ((-3), m)))
def X11_byWhen_b44  : Nat → Int32 → Int32 → Int32 → Mem → Option (Int32 × Mem)
  | 0, _, _, _, _ => none
  | n + 1, y1, y2, y3, m =>
    if 60 < y3 then
      (some ((-1), m))
    else
      (bnd (X5_has 33 y1 y2 m) fun r_7 m_8 =>
      if r_7 = 0 then
        (bnd (X10_passYearAround 32 y1 m_8) fun _ m_10 =>
        X11_byWhen_b44  n y1 y2 (y3 + 1) m_10)
      else
        (some (y3, m_8)))
def X11_byWhen  (x1 : Int32) (x2 : Int32) (m : Mem) : Option (Int32 × Mem) :=
  bnd (X10_isPerson 25 x1 m) fun r_1 m_2 =>
  if r_1 = 0 then
    (some ((-2), m_2))
  else
    (bnd (X10_isThing 25 x2 m_2) fun r_3 m_4 =>
    if r_3 = 0 then
      (some ((-2), m_4))
    else
      (bnd (X5_become 33 26 m_4) fun _ m_6 =>
      X11_byWhen_b44  FU x1 x2 0 m_6))
def X11_child_b51  : Nat → Int32 → Int32 → Int32 → Int32 → Mem → Option (Int32 × Mem)
  | 0, _, _, _, _, _ => none
  | n + 1, y3, y4, y5, y6, m =>
    if (gi m 2 0) ≤ y6 then
      (some ((y3 &&& (y4 ^^^ (-1))), m))
    else
      (if (y3 &&& ((1 : Int32) <<< (y6 &&& 31))) = 0 then
        (X11_child_b51  n y3 y4 y5 (y6 + 1) m)
      else
        (bnd (X10_rarity 25 y6 m) fun r_4 m_5 =>
        if y5 < r_4 then
          (X11_child_b51  n y3 y4 y5 (y6 + 1) m_5)
        else
          (lt ((1 : Int32) <<< (y6 &&& 31)) fun x_6 =>
          bnd (X10_rarity 25 y6 m_5) fun r_7 m_8 =>
          X11_child_b51  n y3 x_6 r_7 (y6 + 1) m_8)))
def X11_child  (x1 : Int32) (x2 : Int32) (m : Mem) : Option (Int32 × Mem) :=
  bnd (X10_areTwo 25 x1 x2 m) fun r_1 m_2 =>
  if r_1 = 0 then
    (some ((-2), m_2))
  else
    (chk (inb x1 8) <|
    chk (inb x2 8) <|
    lt ((gi m_2 29 (ix x1)) ||| (gi m_2 29 (ix x2))) fun x_3 =>
    X11_child_b51  FU x_3 0 9 0 m_2)
def X11_copies  (x1 : Int32) (x2 : Int32) (m : Mem) : Option (Int32 × Mem) :=
  bnd (X10_areTwo 25 x1 x2 m) fun r_1 m_2 =>
  if r_1 = 0 then
    (some ((-11), m_2))
  else
    (bnd (X2_keep 26 m_2) fun _ m_4 =>
    bnd (X5_copyList 26 x1 x2 m_4) fun _ m_6 =>
    chk (inb x1 8) <|
    bnd (J6_bitCount_0f7a4 (gi m_6 29 (ix x1)) m_6) fun r_7 m_8 =>
    some (r_7, m_8))
def X11_count  (x1 : Int32) (m : Mem) : Option (Int32 × Mem) :=
  if x1 = 0 then
    (some ((gi m 2 0), m))
  else if x1 = 1 then
    (some ((gi m 2 1), m))
  else if x1 = 2 then
    (some ((gi m 26 0), m))
  else if x1 = 3 then
    (bnd (X10_couples 25 m) fun r_4 m_5 =>
    some (r_4, m_5))
  else if x1 = 4 then
    (some ((gi m 2 2), m))
  else if x1 = 5 then
    (some ((gi m 2 3), m))
  else if x1 = 6 then
    (some ((gi m 40 2), m))
  else if x1 = 7 then
    (some ((gi m 0 1), m))
  else if x1 = 8 then
    (some ((gi m 2 4), m))
  else if x1 = 9 then
    (bnd (X10_onAllLists 25 m) fun r_12 m_13 =>
    some (r_12, m_13))
  else (
    some ((-1), m))
def X11_dearest_b75 (k21 : Int32 → Int32 → Int32 → Int32 → Mem → Option (Int32 × Mem)) (y1 : Int32) (y4 : Int32) (y5 : Int32) (m : Mem) : Option (Int32 × Mem) :=
  k21 y1 y4 y5 (y4 + 1) m
def X11_dearest_b21  : Nat → Int32 → Int32 → Int32 → Int32 → Mem → Option (Int32 × Mem)
  | 0, _, _, _, _, _ => none
  | n + 1, y1, y2, y3, y4, m =>
    if (gi m 2 1) ≤ y4 then
      (some (y2, m))
    else
      (if y4 = y1 then
        (X11_dearest_b21  n y1 y2 y3 (y4 + 1) m)
      else
        (bnd (X10_isAllowed 25 y1 y4 m) fun r_3 m_4 =>
        if r_3 = 0 then
          (X11_dearest_b21  n y1 y2 y3 (y4 + 1) m_4)
        else
          (bnd (X10_goodness 25 y1 y4 m_4) fun r_5 m_6 =>
          if y2 = (-1) then
            (X11_dearest_b75 (X11_dearest_b21 n) y1 y4 r_5 m_6)
          else
            (if r_5 ≤ y3 then
              (X11_dearest_b21  n y1 y2 y3 (y4 + 1) m_6)
            else
              (X11_dearest_b75 (X11_dearest_b21 n) y1 y4 r_5 m_6)))))
def X11_dearest  (x1 : Int32) (m : Mem) : Option (Int32 × Mem) :=
  bnd (X10_isPerson 25 x1 m) fun r_1 m_2 =>
  if r_1 = 0 then
    (some ((-2), m_2))
  else
    (X11_dearest_b21  FU x1 (-1) 0 0 m_2)
def X11_draw  (x1 : Int32) (m : Mem) : Option (Int32 × Mem) :=
  lt (si m 0 2 ((1103515245 * (gi m 0 2)) + 12345)) fun m_1 =>
  if x1 ≤ 0 then
    (some (0, m_1))
  else
    (chk (decide (¬ x1 = 0)) <|
    some ((((((gi m_1 0 2) : Int32).toUInt32 >>> ((16 : Int32).toUInt32 &&& Int32.toUInt32 31)).toInt32) - ((((gi m_1 0 2) : Int32).toUInt32 >>> ((16 : Int32).toUInt32 &&& Int32.toUInt32 31)).toInt32) / x1 * x1), m_1))
def X11_drawDeed_b47  (y1 : Int32) (y2 : Int32) (z0 : Int32) (m : Mem) : Option (Int32 × Mem) :=
  bnd (X11_draw z0 m) fun r_5 m_6 =>
  some ((((1000 * (y1 - 1)) + (100 * y2)) + r_5), m_6)
def X11_drawDeed  (m : Mem) : Option (Int32 × Mem) :=
  bnd (X11_draw 4 m) fun r_1 m_2 =>
  if r_1 = 0 then
    (some ((-1), m_2))
  else
    (bnd (X11_draw (gi m_2 2 1) m_2) fun r_3 m_4 =>
    if r_1 = 2 then
      (X11_drawDeed_b47  r_1 r_3 (gi m_4 2 0) m_4)
    else
      (X11_drawDeed_b47  r_1 r_3 (gi m_4 2 1) m_4))
def X11_endurance_b20  : Nat → Int32 → Int32 → Int32 → Int32 → Mem → Option (Int32 × Mem)
  | 0, _, _, _, _, _ => none
  | n + 1, y1, y2, y3, y4, m =>
    if y3 ≤ y4 then
      (some (y3, m))
    else
      (bnd (X10_goodness 32 y1 y2 m) fun r_3 m_4 =>
      if (gi m_4 2 2) ≤ r_3 then
        (bnd (X10_passYearOfTwo 32 y1 y2 m_4) fun _ m_6 =>
        X11_endurance_b20  n y1 y2 y3 (y4 + 1) m_6)
      else
        (some (y4, m_4)))
def X11_endurance  (x1 : Int32) (x2 : Int32) (x3 : Int32) (m : Mem) : Option (Int32 × Mem) :=
  bnd (X5_become 33 26 m) fun _ m_2 =>
  X11_endurance_b20  FU x1 x2 x3 0 m_2
def X11_fault  (x1 : Int32) (m : Mem) : Option (Int32 × Mem) :=
  if x1 = 0 then
    (some ((gi m 39 8), m))
  else if x1 = 1 then
    (some ((gi m 39 9), m))
  else (
    some ((-1), m))
def X11_tapeFour_b3  : Nat → Int32 → Int32 → Mem → Option (Unit × Mem)
  | 0, _, _, _ => none
  | n + 1, y1, y2, m =>
    if y2 < 0 then
      (some ((), m))
    else
      (if 900 ≤ (gi m 0 1) then
        (X11_tapeFour_b3  n y1 (y2 + (-8)) m)
      else
        (chk (inb (gi m 0 1) 900) <|
        lt (si m 1 (ix (gi m 0 1)) (vp_nar .byte (((y1 >>> (y2 &&& 31)) : Int32).toInt8.toInt32))) fun m_1 =>
        lt (si m_1 0 1 ((gi m_1 0 1) + 1)) fun m_2 =>
        X11_tapeFour_b3  n y1 (y2 + (-8)) m_2))
def X11_tapeFour  (x1 : Int32) (m : Mem) : Option (Unit × Mem) :=
  X11_tapeFour_b3  FU x1 24 m
def X11_feed  (x1 : Int32) (x2 : Int32) (x3 : Int32) (x4 : Int32) (x5 : Int32) (m : Mem) : Option (Int32 × Mem) :=
  if (gi m 0 1) ≤ 880 then
    (bnd (X11_tapeFour x1 m) fun _ m_2 =>
    bnd (X11_tapeFour x2 m_2) fun _ m_4 =>
    bnd (X11_tapeFour x3 m_4) fun _ m_6 =>
    bnd (X11_tapeFour x4 m_6) fun _ m_8 =>
    bnd (X11_tapeFour x5 m_8) fun _ m_10 =>
    some ((gi m_10 0 1), m_10))
  else
    (some ((-5), m))
def X1_effect  (x1 : Int32) (m : Mem) : Option (Int32 × Mem) :=
  chk (inb (gi m 96 1) 8) <|
  chk (inb (gi m 96 2) 8) <|
  bnd (X10_measure 25 (gi m 96 1) (gi m 96 2) ((gi m 29 (ix (gi m 96 1))) ||| ((1 : Int32) <<< (x1 &&& 31))) (gi m 29 (ix (gi m 96 2))) m) fun _ m_2 =>
  chk (inb 1 7) <|
  chk (inb 2 7) <|
  some (((64 * (gi m_2 23 (ix 1))) + (gi m_2 23 (ix 2))), m_2)
def X1_findAlike_b4  : Nat → Int32 → Int32 → Int32 → Mem → Option (Int32 × Mem)
  | 0, _, _, _, _ => none
  | n + 1, y1, y2, y3, m =>
    if y1 ≤ y3 then
      (some (y2, m))
    else
      (if ((gi m 96 3) &&& ((1 : Int32) <<< (y3 &&& 31))) = 0 then
        (X1_findAlike_b4  n y1 y2 (y3 + 1) m)
      else
        (chk (inb y3 14) <|
        chk (inb y1 14) <|
        if (gi m 97 (ix y3)) = (gi m 97 (ix y1)) then
          (lt (y2 ||| ((1 : Int32) <<< (y3 &&& 31))) fun x_1 =>
          X1_findAlike_b4  n y1 x_1 (y3 + 1) m)
        else
          (X1_findAlike_b4  n y1 y2 (y3 + 1) m)))
def X1_findAlike  (x1 : Int32) (m : Mem) : Option (Int32 × Mem) :=
  X1_findAlike_b4  FU x1 0 0 m
def X1_reachesBar  (x1 : Int32) (m : Mem) : Option (Int32 × Mem) :=
  lt (si m 96 6 x1) fun m_1 =>
  chk (inb (gi m_1 96 1) 8) <|
  chk (inb (gi m_1 96 2) 8) <|
  bnd (X10_goodnessWith 25 (gi m_1 96 1) (gi m_1 96 2) ((gi m_1 29 (ix (gi m_1 96 1))) ||| x1) (gi m_1 29 (ix (gi m_1 96 2))) m_1) fun r_2 m_3 =>
  if r_2 < (gi m_3 2 2) then
    (some (0, m_3))
  else
    (some (1, m_3))
def X1_seek_b92 (f_X1_seek : Int32 → Int32 → Int32 → Int32 → Mem → Option (Int32 × Mem)) (y1 : Int32) (y2 : Int32) (y3 : Int32) (y4 : Int32) (y6 : Int32) (m : Mem) : Option (Int32 × Mem) :=
  if ((gi m 96 3) &&& y6) = 0 then
    (some (0, m))
  else
    (chk (inb y1 14) <|
    bnd (f_X1_seek (y1 - 1) (y2 - 1) (y3 ||| y6) (y4 ||| (gi m 98 (ix y1))) m) fun r_6 m_7 =>
    if r_6 = 0 then
      (some (0, m_7))
    else
      (some (1, m_7)))
def X1_seek (f_X1_seek : Int32 → Int32 → Int32 → Int32 → Mem → Option (Int32 × Mem)) (x1 : Int32) (x2 : Int32) (x3 : Int32) (x4 : Int32) (m : Mem) : Option (Int32 × Mem) :=
  bnd (J6_bitCount_0f7a4 (x4 &&& (x3 ^^^ (-1))) m) fun r_1 m_2 =>
  if x2 = 0 then
    (if r_1 = 0 then
      (bnd (X1_reachesBar x3 m_2) fun r_10 m_11 =>
      if r_10 = 0 then
        (some (0, m_11))
      else
        (some (1, m_11)))
    else
      (some (0, m_2)))
  else
    (if x1 < 0 then
      (some (0, m_2))
    else
      (if x2 < r_1 then
        (some (0, m_2))
      else
        (bnd (J6_bitCount_0f7a4 ((gi m_2 96 3) &&& (((2 : Int32) <<< (x1 &&& 31)) - 1)) m_2) fun r_3 m_4 =>
        if x2 ≤ r_3 then
          (lt ((1 : Int32) <<< (x1 &&& 31)) fun x_5 =>
          if (x4 &&& x_5) = 0 then
            (bnd (f_X1_seek (x1 - 1) x2 x3 x4 m_4) fun r_8 m_9 =>
            if r_8 = 0 then
              (X1_seek_b92 f_X1_seek x1 x2 x3 x4 x_5 m_9)
            else
              (some (1, m_9)))
          else
            (X1_seek_b92 f_X1_seek x1 x2 x3 x4 x_5 m_4))
        else
          (some (0, m_4)))))
def g_X1_seek : Nat → (Int32 → Int32 → Int32 → Int32 → Mem → Option (Int32 × Mem))
  | 0 => (fun _ _ _ _ _ => none)
  | d + 1 => (fun x1 x2 x3 x4 m => X1_seek (g_X1_seek d) x1 x2 x3 x4 m)
def X1_seek_top (x1 : Int32) (x2 : Int32) (x3 : Int32) (x4 : Int32) (m : Mem) : Option (Int32 × Mem) := g_X1_seek 64 x1 x2 x3 x4 m
def X1_fewest_b93  : Nat → Int32 → Int32 → Mem → Option (Int32 × Mem)
  | 0, _, _, _ => none
  | n + 1, y3, y4, m =>
    if y3 < y4 then
      (some ((-1), m))
    else
      (bnd (X1_seek_top 13 y4 0 0 m) fun r_6 m_7 =>
      if r_6 = 0 then
        (X1_fewest_b93  n y3 (y4 + 1) m_7)
      else
        (some (y4, m_7)))
def X1_fewest_b48  : Nat → Int32 → Mem → Option (Int32 × Mem)
  | 0, _, _ => none
  | n + 1, y3, m =>
    if 14 ≤ y3 then
      (bnd (J6_bitCount_0f7a4 (gi m 96 3) m) fun r_4 m_5 =>
      X1_fewest_b93  FU r_4 0 m_5)
    else
      (bnd (X1_effect y3 m) fun r_8 m_9 =>
      chk (inb y3 14) <|
      lt (si m_9 97 (ix y3) r_8) fun m_10 =>
      bnd (X1_findAlike y3 m_10) fun r_11 m_12 =>
      chk (inb y3 14) <|
      lt (si m_12 98 (ix y3) r_11) fun m_13 =>
      X1_fewest_b48  n (y3 + 1) m_13)
def X1_fewest  (x1 : Int32) (x2 : Int32) (m : Mem) : Option (Int32 × Mem) :=
  lt (si m 96 1 x1) fun m_1 =>
  lt (si m_1 96 2 x2) fun m_2 =>
  chk (inb (gi m_2 96 1) 8) <|
  lt (si m_2 96 3 ((((1 : Int32) <<< ((gi m_2 2 0) &&& 31)) - 1) &&& ((gi m_2 29 (ix (gi m_2 96 1))) ^^^ (-1)))) fun m_3 =>
  X1_fewest_b48  FU 0 m_3
def X11_fib  (x1 : Int32) (x2 : Int32) (x3 : Int32) (m : Mem) : Option (Int32 × Mem) :=
  bnd (X10_areTwo 25 x1 x2 m) fun r_1 m_2 =>
  if r_1 = 0 then
    (some ((-2), m_2))
  else
    (bnd (X11_isEither x3 m_2) fun r_3 m_4 =>
    if r_3 = 0 then
      (some ((-2), m_4))
    else
      (bnd (X1_fewest x1 x2 m_4) fun r_5 m_6 =>
      if r_5 = (-1) then
        (some (r_5, m_6))
      else
        (if x3 = 0 then
          (some (r_5, m_6))
        else
          (some ((gi m_6 96 6), m_6)))))
def X11_good  (x1 : Int32) (x2 : Int32) (m : Mem) : Option (Int32 × Mem) :=
  bnd (X10_areTwo 25 x1 x2 m) fun r_1 m_2 =>
  if r_1 = 0 then
    (some ((-2000000), m_2))
  else
    (bnd (X10_goodness 25 x1 x2 m_2) fun r_3 m_4 =>
    some (r_3, m_4))
def X11_goodIn_b45  : Nat → Int32 → Int32 → Int32 → Int32 → Mem → Option (Int32 × Mem)
  | 0, _, _, _, _, _ => none
  | n + 1, y1, y2, y3, y4, m =>
    if y3 ≤ y4 then
      (bnd (X10_goodness 32 y1 y2 m) fun r_5 m_6 =>
      some (r_5, m_6))
    else
      (bnd (X10_passYearOfTwo 32 y1 y2 m) fun _ m_8 =>
      X11_goodIn_b45  n y1 y2 y3 (y4 + 1) m_8)
def X11_goodIn  (x1 : Int32) (x2 : Int32) (x3 : Int32) (m : Mem) : Option (Int32 × Mem) :=
  bnd (X10_areTwo 25 x1 x2 m) fun r_1 m_2 =>
  if r_1 = 0 then
    (some ((-2000000), m_2))
  else
    (if x3 < 0 then
      (some ((-2000000), m_2))
    else
      (if x3 ≤ 60 then
        (bnd (X5_become 33 26 m_2) fun _ m_4 =>
        X11_goodIn_b45  FU x1 x2 x3 0 m_4)
      else
        (some ((-2000000), m_2))))
def X11_holds  (x1 : Int32) (x2 : Int32) (m : Mem) : Option (Int32 × Mem) :=
  bnd (X10_areTwo 25 x1 x2 m) fun r_1 m_2 =>
  if r_1 = 0 then
    (some ((-2), m_2))
  else
    (bnd (X11_endurance x1 x2 40 m_2) fun r_3 m_4 =>
    some (r_3, m_4))
def X11_houses_b38  : Nat → Int32 → Int32 → Int32 → Int32 → Int32 → Mem → Option (Int32 × Mem)
  | 0, _, _, _, _, _, _ => none
  | n + 1, y1, y2, y3, y4, y5, m =>
    if y4 < y5 then
      (some (y3, m))
    else
      (bnd (J6_bitCount_0f7a4 y5 m) fun r_3 m_4 =>
      if r_3 = y1 then
        (bnd (X11_isHouse y5 y2 m_4) fun r_5 m_6 =>
        if r_5 = 0 then
          (X11_houses_b38  n y1 y2 y3 y4 (y5 + 1) m_6)
        else
          (X11_houses_b38  n y1 y2 (y3 + 1) y4 (y5 + 1) m_6))
      else
        (X11_houses_b38  n y1 y2 y3 y4 (y5 + 1) m_4))
def X11_houses  (x1 : Int32) (x2 : Int32) (m : Mem) : Option (Int32 × Mem) :=
  if x1 < 1 then
    (some ((-3), m))
  else
    (if 8 < x1 then
      (some ((-3), m))
    else
      (if x2 < 0 then
        (some ((-3), m))
      else
        (if x2 ≤ 14 then
          (bnd (X8_everybody 2 m) fun r_1 m_2 =>
          X11_houses_b38  FU x1 x2 0 r_1 1 m_2)
        else
          (some ((-3), m)))))
def X11_isImage  (x1 : Int32) (m : Mem) : Option (Int32 × Mem) :=
  if x1 < 0 then
    (some (0, m))
  else
    (if 2 ≤ x1 then
      (some (0, m))
    else
      (some (1, m)))
def X11_isMatchingQuestion  (x1 : Int32) (m : Mem) : Option (Int32 × Mem) :=
  bnd (X11_isEither x1 m) fun r_1 m_2 =>
  if r_1 = 0 then
    (if x1 < 10 then
      (some (0, m_2))
    else
      (bnd (X10_isPerson 25 (x1 - 10) m_2) fun r_3 m_4 =>
      if r_3 = 0 then
        (some (0, m_4))
      else
        (some (1, m_4))))
  else
    (some (1, m_2))
def X11_isTray  (x1 : Int32) (m : Mem) : Option (Int32 × Mem) :=
  if x1 < 0 then
    (some (0, m))
  else
    (if 4 ≤ x1 then
      (some (0, m))
    else
      (some (1, m)))
def X11_rehearse_b27 (b1 : Nat) : Nat → Int32 → Mem → Option (Int32 × Mem)
  | 0, _, _ => none
  | n + 1, y2, m =>
    if (gi m b1 1) ≤ y2 then
      (some ((gi m b1 1), m))
    else
      (chk (inb y2 40) <|
      bnd (X10_attempt 32 (gl m (b1 + 1) (ix y2)) m) fun r_4 m_5 =>
      lt (si m_5 32 3 r_4) fun m_6 =>
      if (gi m_6 32 3) = 0 then
        (X11_rehearse_b27 b1 n (y2 + 1) m_6)
      else
        (some (y2, m_6)))
def X11_rehearse (b1 : Nat) (m : Mem) : Option (Int32 × Mem) :=
  bnd (X5_become 33 26 m) fun _ m_2 =>
  lt (si m_2 32 3 0) fun m_3 =>
  X11_rehearse_b27 b1 FU 0 m_3
def X11_judge  (x1 : Int32) (x2 : Int32) (m : Mem) : Option (Int32 × Mem) :=
  bnd (X11_isTray x1 m) fun r_1 m_2 =>
  if r_1 = 0 then
    (some ((-2), m_2))
  else
    (if x2 < 0 then
      (some ((-2), m_2))
    else
      (if x2 ≤ 3 then
        (chk (inb x1 4) <|
        lt (100 + 2 * ix x1) fun b_3 =>
        if (gi m_2 b_3 0) = 0 then
          (some ((-6), m_2))
        else
          (chk (inb x1 4) <|
          lt (100 + 2 * ix x1) fun b_5 =>
          bnd (X11_rehearse b_5 m_2) fun r_7 m_8 =>
          if x2 = 0 then
            (if (gi m_8 32 3) = 0 then
              (some ((-1), m_8))
            else
              (some (r_7, m_8)))
          else if x2 = 1 then
            (some ((gi m_8 32 3), m_8))
          else if x2 = 2 then
            (bnd (X10_couples 32 m_8) fun r_11 m_12 =>
            some ((2 * r_11), m_12))
          else (
            bnd (X10_goodOfCouples 32 m_8) fun r_14 m_15 =>
            some (r_14, m_15))))
      else
        (some ((-2), m_2))))
def X6_close  (x1 : Int32) (x2 : Int32) (m : Mem) : Option (Unit × Mem) :=
  chk (inb ((x1 * 8) + x2) 64) <|
  lt (si m 91 (ix ((x1 * 8) + x2)) (vp_nar .boolean 0)) fun m_1 =>
  chk (inb ((x2 * 8) + x1) 64) <|
  lt (si m_1 91 (ix ((x2 * 8) + x1)) (vp_nar .boolean 0)) fun m_2 =>
  some ((), m_2)
def X6_choose_b127  (y1 : Int32) (y4 : Int32) (y5 : Int32) (m : Mem) : Option (Unit × Mem) :=
  chk (inb y1 256) <|
  lt (si m 93 (ix y1) y4) fun m_5 =>
  chk (inb y1 256) <|
  lt (si m_5 94 (ix y1) y5) fun m_6 =>
  some ((), m_6)
def X6_choose_b25  : Nat → Int32 → Int32 → Int32 → Int32 → Int32 → Int32 → Mem → Option (Unit × Mem)
  | 0, _, _, _, _, _, _, _ => none
  | n + 1, y1, y2, y3, y4, y5, y6, m =>
    if (gi m 90 0) ≤ y6 then
      (chk (inb y3 256) <|
      if (gi m 93 (ix y3)) ≤ y4 then
        (X6_choose_b127  y1 y4 y5 m)
      else
        (chk (inb y3 256) <|
        lt (gi m 93 (ix y3)) fun x_7 =>
        X6_choose_b127  y1 x_7 (-1) m))
    else
      (if (y3 &&& ((1 : Int32) <<< (y6 &&& 31))) = 0 then
        (X6_choose_b25  n y1 y2 y3 y4 y5 (y6 + 1) m)
      else
        (bnd (X6_isOpen y2 y6 m) fun r_8 m_9 =>
        if r_8 = 0 then
          (X6_choose_b25  n y1 y2 y3 y4 y5 (y6 + 1) m_9)
        else
          (chk (inb ((y2 * 8) + y6) 64) <|
          chk (inb (y3 &&& (((1 : Int32) <<< (y6 &&& 31)) ^^^ (-1))) 256) <|
          lt ((100000000 + (gi m_9 92 (ix ((y2 * 8) + y6)))) + (gi m_9 93 (ix (y3 &&& (((1 : Int32) <<< (y6 &&& 31)) ^^^ (-1)))))) fun x_10 =>
          if x_10 ≤ y4 then
            (X6_choose_b25  n y1 y2 y3 y4 y5 (y6 + 1) m_9)
          else
            (X6_choose_b25  n y1 y2 y3 x_10 y6 (y6 + 1) m_9))))
def X6_choose  (x1 : Int32) (m : Mem) : Option (Unit × Mem) :=
  bnd (J6_numberOfTrailingZeros_0f7a4 x1 m) fun r_1 m_2 =>
  lt (x1 &&& (((1 : Int32) <<< (r_1 &&& 31)) ^^^ (-1))) fun x_3 =>
  lt (r_1 + 1) fun x_4 =>
  X6_choose_b25  FU x1 r_1 x_3 (-2000000000) (-1) x_4 m_2
def X6_solve_b23  : Nat → Int32 → Int32 → Mem → Option (Unit × Mem)
  | 0, _, _, _ => none
  | n + 1, y1, y2, m =>
    if y1 ≤ y2 then
      (some ((), m))
    else
      (bnd (X6_choose y2 m) fun _ m_5 =>
      X6_solve_b23  n y1 (y2 + 1) m_5)
def X6_solve  (m : Mem) : Option (Unit × Mem) :=
  chk (inb 0 256) <|
  lt (si m 93 (ix 0) 0) fun m_1 =>
  chk (inb 0 256) <|
  lt (si m_1 94 (ix 0) (-1)) fun m_2 =>
  lt ((1 : Int32) <<< ((gi m_2 90 0) &&& 31)) fun x_3 =>
  X6_solve_b23  FU x_3 1 m_2
def X6_follow_b8  : Nat → Int32 → Int32 → Mem → Option (Unit × Mem)
  | 0, _, _, _ => none
  | n + 1, y2, y3, m =>
    if (gi m 90 0) ≤ y3 then
      (some ((), m))
    else
      (if (y2 &&& ((1 : Int32) <<< (y3 &&& 31))) = 0 then
        (X6_follow_b8  n y2 (y3 + 1) m)
      else
        (chk (inb y2 256) <|
        lt (gi m 94 (ix y2)) fun x_3 =>
        lt (y2 &&& (((1 : Int32) <<< (y3 &&& 31)) ^^^ (-1))) fun x_4 =>
        if x_3 ≤ y3 then
          (X6_follow_b8  n x_4 (y3 + 1) m)
        else
          (if (gi m 90 0) ≤ x_3 then
            (X6_follow_b8  n x_4 (y3 + 1) m)
          else
            (lt (x_4 &&& (((1 : Int32) <<< (x_3 &&& 31)) ^^^ (-1))) fun x_5 =>
            chk (inb y3 8) <|
            lt (si m 95 (ix y3) x_3) fun m_6 =>
            chk (inb x_3 8) <|
            lt (si m_6 95 (ix x_3) y3) fun m_7 =>
            X6_follow_b8  n x_5 (y3 + 1) m_7))))
def X6_follow  (x1 : Int32) (m : Mem) : Option (Unit × Mem) :=
  bnd (X6_leaveAlone  m) fun _ m_2 =>
  X6_follow_b8  FU x1 0 m_2
def X6_answer_b7  : Nat → Int32 → Int32 → Int32 → Int32 → Mem → Option (Int32 × Mem)
  | 0, _, _, _, _, _ => none
  | n + 1, y1, y2, y3, y4, m =>
    if (gi m 90 0) ≤ y4 then
      (if y1 = 0 then
        (some (y2, m))
      else
        (lt (y1 - 10) fun x_1 =>
        if x_1 < 0 then
          (some (y3, m))
        else
          (if (gi m 90 0) ≤ x_1 then
            (some (y3, m))
          else
            (chk (inb x_1 8) <|
            some ((gi m 95 (ix x_1)), m)))))
    else
      (chk (inb y4 8) <|
      if (gi m 95 (ix y4)) ≤ y4 then
        (X6_answer_b7  n y1 y2 y3 (y4 + 1) m)
      else
        (bnd (X6_goodNow y4 m) fun r_2 m_3 =>
        lt (y3 + r_2) fun x_4 =>
        X6_answer_b7  n y1 (y2 + 1) x_4 (y4 + 1) m_3))
def X6_answer  (x1 : Int32) (m : Mem) : Option (Int32 × Mem) :=
  X6_answer_b7  FU x1 0 0 0 m
def X11_lasting_b53 (k37 : Int32 → Int32 → Int32 → Mem → Option (Int32 × Mem)) : Nat → Int32 → Int32 → Int32 → Int32 → Mem → Option (Int32 × Mem)
  | 0, _, _, _, _, _ => none
  | n + 1, y1, y2, y3, y4, m =>
    if (gi m 2 1) ≤ y4 then
      (k37 y1 y2 (y3 + 1) m)
    else
      (bnd (X6_isOpen y3 y4 m) fun r_14 m_15 =>
      if r_14 = 0 then
        (X11_lasting_b53 k37 n y1 y2 y3 (y4 + 1) m_15)
      else
        (bnd (X11_endurance y3 y4 y1 m_15) fun r_16 m_17 =>
        if y1 ≤ r_16 then
          (X11_lasting_b53 k37 n y1 y2 y3 (y4 + 1) m_17)
        else
          (bnd (X6_close y3 y4 m_17) fun _ m_19 =>
          X11_lasting_b53 k37 n y1 y2 y3 (y4 + 1) m_19)))
def X11_lasting_b37  : Nat → Int32 → Int32 → Int32 → Mem → Option (Int32 × Mem)
  | 0, _, _, _, _ => none
  | n + 1, y1, y2, y3, m =>
    if (gi m 2 1) ≤ y3 then
      (bnd (X6_solve  m) fun _ m_6 =>
      bnd (X8_everybody 2 m_6) fun r_7 m_8 =>
      bnd (X6_follow r_7 m_8) fun _ m_10 =>
      bnd (X6_answer y2 m_10) fun r_11 m_12 =>
      some (r_11, m_12))
    else
      (lt (y3 + 1) fun x_13 =>
      X11_lasting_b53 (X11_lasting_b37 n) FU y1 y2 y3 x_13 m)
def X11_lasting  (x1 : Int32) (x2 : Int32) (m : Mem) : Option (Int32 × Mem) :=
  bnd (X11_isMatchingQuestion x2 m) fun r_1 m_2 =>
  if r_1 = 0 then
    (some ((-2), m_2))
  else
    (if x1 < 0 then
      (some ((-3), m_2))
    else
      (if x1 ≤ 40 then
        (bnd (X6_survey 25 m_2) fun _ m_4 =>
        X11_lasting_b37  FU x1 x2 0 m_4)
      else
        (some ((-3), m_2))))
def X11_later_b46  : Nat → Int32 → Int32 → Int32 → Mem → Option (Int32 × Mem)
  | 0, _, _, _, _ => none
  | n + 1, y1, y2, y3, m =>
    if y2 ≤ y3 then
      (chk (inb y1 8) <|
      some ((gi m 36 (ix y1)), m))
    else
      (bnd (X10_passYearAround 32 y1 m) fun _ m_6 =>
      X11_later_b46  n y1 y2 (y3 + 1) m_6)
def X11_later  (x1 : Int32) (x2 : Int32) (m : Mem) : Option (Int32 × Mem) :=
  bnd (X10_isPerson 25 x1 m) fun r_1 m_2 =>
  if r_1 = 0 then
    (some ((-2), m_2))
  else
    (if x2 < 0 then
      (some ((-3), m_2))
    else
      (if x2 ≤ 60 then
        (bnd (X5_become 33 26 m_2) fun _ m_4 =>
        X11_later_b46  FU x1 x2 0 m_4)
      else
        (some ((-3), m_2))))
def X6_joins  (x1 : Int32) (x2 : Int32) (x3 : Int32) (m : Mem) : Option (Int32 × Mem) :=
  bnd (X6_follow x1 m) fun _ m_2 =>
  chk (inb x2 8) <|
  if (gi m_2 95 (ix x2)) = x3 then
    (some (1, m_2))
  else
    (some (0, m_2))
def X11_leftFor_b95 (k67 : Int32 → Int32 → Int32 → Int32 → Int32 → Int32 → Int32 → Int32 → Mem → Option (Int32 × Mem)) (y1 : Int32) (y2 : Int32) (y3 : Int32) (y4 : Int32) (y5 : Int32) (y6 : Int32) (y7 : Int32) (y8 : Int32) (z0 : Int32) (m : Mem) : Option (Int32 × Mem) :=
  if z0 = 0 then
    (k67 y1 y2 y3 y4 y5 y6 y7 (y8 + 1) m)
  else
    (if (y8 &&& y4) = 0 then
      (bnd (X6_joins (y5 &&& (y8 ^^^ (-1))) y1 y2 m) fun r_12 m_13 =>
      if r_12 = 0 then
        (k67 y1 y2 y3 y4 y5 y6 y7 (y8 + 1) m_13)
      else
        (bnd (J6_bitCount_0f7a4 y8 m_13) fun r_14 m_15 =>
        k67 y1 y2 y3 y4 y5 r_14 y8 (y8 + 1) m_15))
    else
      (k67 y1 y2 y3 y4 y5 y6 y7 (y8 + 1) m))
def X11_leftFor_b67  : Nat → Int32 → Int32 → Int32 → Int32 → Int32 → Int32 → Int32 → Int32 → Mem → Option (Int32 × Mem)
  | 0, _, _, _, _, _, _, _, _, _ => none
  | n + 1, y1, y2, y3, y4, y5, y6, y7, y8, m =>
    if y5 < y8 then
      (if y6 = (-1) then
        (some (y6, m))
      else
        (if y3 = 0 then
          (some (y6, m))
        else
          (some (y7, m))))
    else
      (if y6 = (-1) then
        (X11_leftFor_b95 (X11_leftFor_b67 n) y1 y2 y3 y4 y5 y6 y7 y8 1 m)
      else
        (bnd (J6_bitCount_0f7a4 y8 m) fun r_16 m_17 =>
        if y6 ≤ r_16 then
          (X11_leftFor_b95 (X11_leftFor_b67 n) y1 y2 y3 y4 y5 y6 y7 y8 0 m_17)
        else
          (X11_leftFor_b95 (X11_leftFor_b67 n) y1 y2 y3 y4 y5 y6 y7 y8 1 m_17)))
def X11_leftFor  (x1 : Int32) (x2 : Int32) (x3 : Int32) (m : Mem) : Option (Int32 × Mem) :=
  bnd (X10_areTwo 25 x1 x2 m) fun r_1 m_2 =>
  if r_1 = 0 then
    (some ((-2), m_2))
  else
    (bnd (X11_isEither x3 m_2) fun r_3 m_4 =>
    if r_3 = 0 then
      (some ((-2), m_4))
    else
      (bnd (X6_survey 25 m_4) fun _ m_6 =>
      bnd (X6_solve  m_6) fun _ m_8 =>
      lt (((1 : Int32) <<< (x1 &&& 31)) ||| ((1 : Int32) <<< (x2 &&& 31))) fun x_9 =>
      bnd (X8_everybody 2 m_8) fun r_10 m_11 =>
      X11_leftFor_b67  FU x1 x2 x3 x_9 r_10 (-1) 0 0 m_11))
def X9_cut (a : Nat) (x1 : Int64) (m : Mem) : Option (Int64 × Mem) :=
  if (gi m a 2) = 0 then
    (some ((Int32.toInt64 (((Int64.toInt32 x1) : Int32).toInt8.toInt32)), m))
  else if (gi m a 2) = 1 then
    (some ((Int32.toInt64 (((Int64.toInt32 x1) : Int32).toInt16.toInt32)), m))
  else if (gi m a 2) = 2 then
    (some ((Int32.toInt64 (Int64.toInt32 x1)), m))
  else (
    some (x1, m))
def X11_lists_b45 (b_3 : Nat) : Nat → Int32 → Int32 → Mem → Option (Int32 × Mem)
  | 0, _, _, _ => none
  | n + 1, y3, y4, m =>
    if y3 ≤ y4 then
      (some (y3, m))
    else
      (chk (inb y4 8) <|
      bnd (X9_cut b_3 (Int32.toInt64 (gi m 29 (ix y4))) m) fun r_6 m_7 =>
      chk (inb y4 40) <|
      lt (sl m_7 (b_3 + 1) (ix y4) r_6) fun m_8 =>
      X11_lists_b45 b_3 n y3 (y4 + 1) m_8)
def X11_lists  (x1 : Int32) (m : Mem) : Option (Int32 × Mem) :=
  bnd (X11_isTray x1 m) fun r_1 m_2 =>
  if r_1 = 0 then
    (some ((-2), m_2))
  else
    (chk (inb x1 4) <|
    lt (100 + 2 * ix x1) fun b_3 =>
    if (gi m_2 b_3 0) = 0 then
      (some ((-6), m_2))
    else
      (lt (if (gi m_2 2 1) < (gi m_2 b_3 1) then (gi m_2 2 1) else (gi m_2 b_3 1)) fun x_5 =>
      X11_lists_b45 b_3 FU x_5 0 m_2))
def X11_matchAll_b48  : Nat → Int32 → Mem → Option (Int32 × Mem)
  | 0, _, _ => none
  | n + 1, y1, m =>
    if (gi m 2 1) ≤ y1 then
      (bnd (X10_couples 25 m) fun r_11 m_12 =>
      some (r_11, m_12))
    else
      (chk (inb y1 8) <|
      chk (inb y1 8) <|
      lt (si m 28 (ix y1) (gi m 95 (ix y1))) fun m_13 =>
      X11_matchAll_b48  n (y1 + 1) m_13)
def X11_matchAll  (m : Mem) : Option (Int32 × Mem) :=
  bnd (X6_survey 25 m) fun _ m_2 =>
  bnd (X6_solve  m_2) fun _ m_4 =>
  bnd (X8_everybody 2 m_4) fun r_5 m_6 =>
  bnd (X6_follow r_5 m_6) fun _ m_8 =>
  bnd (X2_keep 26 m_8) fun _ m_10 =>
  X11_matchAll_b48  FU 0 m_10
def X6_tally_b40 (f_X6_tally : Int32 → Int32 → Mem → Option (Int32 × Mem)) : Nat → Int32 → Int32 → Int32 → Int32 → Int32 → Mem → Option (Int32 × Mem)
  | 0, _, _, _, _, _, _ => none
  | n + 1, y2, y3, y4, y5, y6, m =>
    if (gi m 90 0) ≤ y6 then
      (some (y5, m))
    else
      (if (y4 &&& ((1 : Int32) <<< (y6 &&& 31))) = 0 then
        (X6_tally_b40 f_X6_tally n y2 y3 y4 y5 (y6 + 1) m)
      else
        (bnd (X6_isOpen y3 y6 m) fun r_7 m_8 =>
        if r_7 = 0 then
          (X6_tally_b40 f_X6_tally n y2 y3 y4 y5 (y6 + 1) m_8)
        else
          (bnd (f_X6_tally (y4 &&& (((1 : Int32) <<< (y6 &&& 31)) ^^^ (-1))) (y2 - 1) m_8) fun r_9 m_10 =>
          lt (y5 + r_9) fun x_11 =>
          X6_tally_b40 f_X6_tally n y2 y3 y4 x_11 (y6 + 1) m_10)))
def X6_tally (f_X6_tally : Int32 → Int32 → Mem → Option (Int32 × Mem)) (x1 : Int32) (x2 : Int32) (m : Mem) : Option (Int32 × Mem) :=
  if x2 = 0 then
    (some (1, m))
  else
    (if x1 = 0 then
      (some (0, m))
    else
      (bnd (J6_numberOfTrailingZeros_0f7a4 x1 m) fun r_1 m_2 =>
      lt (x1 &&& (((1 : Int32) <<< (r_1 &&& 31)) ^^^ (-1))) fun x_3 =>
      bnd (f_X6_tally x_3 x2 m_2) fun r_4 m_5 =>
      lt (r_1 + 1) fun x_6 =>
      X6_tally_b40 f_X6_tally FU x2 r_1 x_3 r_4 x_6 m_5))
def g_X6_tally : Nat → (Int32 → Int32 → Mem → Option (Int32 × Mem))
  | 0 => (fun _ _ _ => none)
  | d + 1 => (fun x1 x2 m => X6_tally (g_X6_tally d) x1 x2 m)
def X6_tally_top (x1 : Int32) (x2 : Int32) (m : Mem) : Option (Int32 × Mem) := g_X6_tally 64 x1 x2 m
def X11_matchings  (x1 : Int32) (m : Mem) : Option (Int32 × Mem) :=
  if x1 < 0 then
    (some ((-3), m))
  else
    (if x1 ≤ 4 then
      (bnd (X6_survey 25 m) fun _ m_2 =>
      bnd (X8_everybody 2 m_2) fun r_3 m_4 =>
      bnd (X6_tally_top r_3 x1 m_4) fun r_5 m_6 =>
      some (r_5, m_6))
    else
      (some ((-3), m)))
def X11_may  (x1 : Int32) (x2 : Int32) (m : Mem) : Option (Int32 × Mem) :=
  bnd (X10_areTwo 25 x1 x2 m) fun r_1 m_2 =>
  if r_1 = 0 then
    (some ((-2), m_2))
  else
    (bnd (X10_isAllowed 25 x1 x2 m_2) fun r_3 m_4 =>
    if r_3 = 0 then
      (some (0, m_4))
    else
      (some (1, m_4)))
def X11_most  (x1 : Int32) (m : Mem) : Option (Int32 × Mem) :=
  bnd (X11_isMatchingQuestion x1 m) fun r_1 m_2 =>
  if r_1 = 0 then
    (some ((-2), m_2))
  else
    (bnd (X6_survey 25 m_2) fun _ m_4 =>
    bnd (X6_solve  m_4) fun _ m_6 =>
    bnd (X8_everybody 2 m_6) fun r_7 m_8 =>
    bnd (X6_follow r_7 m_8) fun _ m_10 =>
    bnd (X6_answer x1 m_10) fun r_11 m_12 =>
    some (r_11, m_12))
def X9_lay_b17 (a : Nat) : Nat → Int32 → Mem → Option (Unit × Mem)
  | 0, _, _ => none
  | n + 1, y3, m =>
    if 40 ≤ y3 then
      (some ((), m))
    else
      (chk (inb y3 40) <|
      lt (sl m (a + 1) (ix y3) 0) fun m_4 =>
      X9_lay_b17 a n (y3 + 1) m_4)
def X9_lay (a : Nat) (x1 : Int32) (x2 : Int32) (m : Mem) : Option (Unit × Mem) :=
  lt (si m a 0 1) fun m_1 =>
  lt (si m_1 a 2 x1) fun m_2 =>
  lt (si m_2 a 1 x2) fun m_3 =>
  X9_lay_b17 a FU 0 m_3
def X11_numbers  (x1 : Int32) (x2 : Int32) (x3 : Int32) (m : Mem) : Option (Int32 × Mem) :=
  bnd (X11_isTray x1 m) fun r_1 m_2 =>
  if r_1 = 0 then
    (some ((-2), m_2))
  else
    (if x2 < 0 then
      (some ((-2), m_2))
    else
      (if x2 ≤ 3 then
        (if x3 < 0 then
          (some ((-3), m_2))
        else
          (if x3 ≤ 40 then
            (chk (inb x1 4) <|
            lt (100 + 2 * ix x1) fun b_3 =>
            bnd (X9_lay b_3 x2 x3 m_2) fun _ m_6 =>
            some (0, m_6))
          else
            (some ((-3), m_2))))
      else
        (some ((-2), m_2))))
def X11_pair  (x1 : Int32) (x2 : Int32) (x3 : Int32) (m : Mem) : Option (Int32 × Mem) :=
  bnd (X10_areTwo 25 x1 x2 m) fun r_1 m_2 =>
  if r_1 = 0 then
    (some ((-8), m_2))
  else
    (if x3 < 0 then
      (some ((-8), m_2))
    else
      (if x3 ≤ 5 then
        (if x3 = 5 then
          (chk (inb x1 8) <|
          chk (inb x2 8) <|
          some (((gi m_2 29 (ix x1)) &&& (gi m_2 29 (ix x2))), m_2))
        else
          (chk (inb x1 8) <|
          chk (inb x2 8) <|
          bnd (X10_measure 25 x1 x2 (gi m_2 29 (ix x1)) (gi m_2 29 (ix x2)) m_2) fun _ m_4 =>
          chk (inb x3 7) <|
          some ((gi m_4 23 (ix x3)), m_4)))
      else
        (some ((-8), m_2))))
def X11_part  (x1 : Int32) (m : Mem) : Option (Int32 × Mem) :=
  bnd (X10_isPerson 25 x1 m) fun r_1 m_2 =>
  if r_1 = 0 then
    (some ((-2), m_2))
  else
    (chk (inb x1 8) <|
    if (gi m_2 28 (ix x1)) = (-1) then
      (some ((-5), m_2))
    else
      (bnd (X2_keep 26 m_2) fun _ m_4 =>
      bnd (X5_split 26 x1 m_4) fun _ m_6 =>
      some (0, m_6)))
def X11_peace_b4  : Nat → Int32 → Int32 → Mem → Option (Int32 × Mem)
  | 0, _, _, _ => none
  | n + 1, y1, y2, m =>
    if (gi m 2 1) ≤ y2 then
      (some (y1, m))
    else
      (chk (inb y2 8) <|
      bnd (X8_traitsBut 2 y2 m) fun r_1 m_2 =>
      lt (y1 ||| ((gi m 29 (ix y2)) &&& r_1)) fun x_3 =>
      X11_peace_b4  n x_3 (y2 + 1) m_2)
def X11_peace  (m : Mem) : Option (Int32 × Mem) :=
  X11_peace_b4  FU 0 0 m
def X11_perform  (x1 : Int32) (m : Mem) : Option (Int32 × Mem) :=
  bnd (X11_isTray x1 m) fun r_1 m_2 =>
  if r_1 = 0 then
    (some ((-2), m_2))
  else
    (chk (inb x1 4) <|
    lt (100 + 2 * ix x1) fun b_3 =>
    if (gi m_2 b_3 0) = 0 then
      (some ((-6), m_2))
    else
      (chk (inb x1 4) <|
      lt (100 + 2 * ix x1) fun b_5 =>
      bnd (X11_rehearse b_5 m_2) fun r_7 m_8 =>
      bnd (X11_acceptTrial r_7 m_8) fun _ m_10 =>
      some (r_7, m_10)))
def X11_person  (x1 : Int32) (x2 : Int32) (m : Mem) : Option (Int32 × Mem) :=
  bnd (X10_isPerson 25 x1 m) fun r_1 m_2 =>
  if r_1 = 0 then
    (some ((-2), m_2))
  else
    (if x2 = 0 then
      (chk (inb x1 8) <|
      some ((gi m_2 27 (ix x1)), m_2))
    else if x2 = 1 then
      (chk (inb x1 8) <|
      some ((gi m_2 4 (ix x1)), m_2))
    else if x2 = 2 then
      (chk (inb x1 8) <|
      some ((gi m_2 29 (ix x1)), m_2))
    else if x2 = 3 then
      (chk (inb x1 8) <|
      some ((gi m_2 28 (ix x1)), m_2))
    else (
      some ((-2), m_2)))
def X11_pieced_b65 (k38 : Int32 → Int32 → Int32 → Int32 → Int32 → Int32 → Mem → Option (Int32 × Mem)) (y1 : Int32) (y2 : Int32) (y3 : Int32) (y4 : Int32) (y5 : Int32) (y6 : Int32) (z0 : Int32) (m : Mem) : Option (Int32 × Mem) :=
  if z0 = 0 then
    (k38 y1 y2 y3 y4 y5 (y6 + 1) m)
  else
    (if (y6 &&& ((1 : Int32) <<< (y1 &&& 31))) = 0 then
      (bnd (X10_anyOf 25 y6 m) fun r_7 m_8 =>
      chk (inb y1 8) <|
      if r_7 = (gi m_8 29 (ix y1)) then
        (bnd (J6_bitCount_0f7a4 y6 m_8) fun r_9 m_10 =>
        k38 y1 y2 y3 r_9 y6 (y6 + 1) m_10)
      else
        (k38 y1 y2 y3 y4 y5 (y6 + 1) m_8))
    else
      (k38 y1 y2 y3 y4 y5 (y6 + 1) m))
def X11_pieced_b38  : Nat → Int32 → Int32 → Int32 → Int32 → Int32 → Int32 → Mem → Option (Int32 × Mem)
  | 0, _, _, _, _, _, _, _ => none
  | n + 1, y1, y2, y3, y4, y5, y6, m =>
    if y3 < y6 then
      (if y4 = (-1) then
        (some (y4, m))
      else
        (if y2 = 0 then
          (some (y4, m))
        else
          (some (y5, m))))
    else
      (if y4 = (-1) then
        (X11_pieced_b65 (X11_pieced_b38 n) y1 y2 y3 y4 y5 y6 1 m)
      else
        (bnd (J6_bitCount_0f7a4 y6 m) fun r_11 m_12 =>
        if y4 ≤ r_11 then
          (X11_pieced_b65 (X11_pieced_b38 n) y1 y2 y3 y4 y5 y6 0 m_12)
        else
          (X11_pieced_b65 (X11_pieced_b38 n) y1 y2 y3 y4 y5 y6 1 m_12)))
def X11_pieced  (x1 : Int32) (x2 : Int32) (m : Mem) : Option (Int32 × Mem) :=
  bnd (X10_isPerson 25 x1 m) fun r_1 m_2 =>
  if r_1 = 0 then
    (some ((-2), m_2))
  else
    (bnd (X11_isEither x2 m_2) fun r_3 m_4 =>
    if r_3 = 0 then
      (some ((-2), m_4))
    else
      (bnd (X8_everybody 2 m_4) fun r_5 m_6 =>
      X11_pieced_b38  FU x1 x2 r_5 (-1) 0 0 m_6))
def X11_season_b64  : Nat → Int32 → Int32 → Int32 → Mem → Option (Int32 × Mem)
  | 0, _, _, _, _ => none
  | n + 1, y2, y3, y4, m =>
    if y2 ≤ y4 then
      (bnd (X11_acceptTrial y3 m) fun _ m_5 =>
      some (y3, m_5))
    else
      (bnd (X11_drawDeed  m) fun r_6 m_7 =>
      bnd (X10_attempt 32 (Int32.toInt64 r_6) m_7) fun r_8 m_9 =>
      if r_8 = 0 then
        (X11_season_b64  n y2 (y3 + 1) (y4 + 1) m_9)
      else
        (X11_season_b64  n y2 y3 (y4 + 1) m_9))
def X11_season  (x1 : Int32) (x2 : Int32) (m : Mem) : Option (Int32 × Mem) :=
  if x2 < 1 then
    (some ((-3), m))
  else
    (if x2 ≤ 40 then
      (if (gi m 2 0) = 0 then
        (some ((-5), m))
      else
        (if (gi m 2 1) = 0 then
          (some ((-5), m))
        else
          (bnd (X5_become 33 26 m) fun _ m_2 =>
          lt (si m_2 0 2 x1) fun m_3 =>
          X11_season_b64  FU x2 0 0 m_3)))
    else
      (some ((-3), m)))
def X11_sharer_b21  : Nat → Int32 → Int32 → Int32 → Int32 → Mem → Option (Int32 × Mem)
  | 0, _, _, _, _, _ => none
  | n + 1, y1, y2, y3, y4, m =>
    if (gi m 2 1) ≤ y4 then
      (some (y2, m))
    else
      (if y4 = y1 then
        (X11_sharer_b21  n y1 y2 y3 (y4 + 1) m)
      else
        (chk (inb y1 8) <|
        chk (inb y4 8) <|
        bnd (X10_measure 25 y1 y4 (gi m 29 (ix y1)) (gi m 29 (ix y4)) m) fun _ m_4 =>
        chk (inb 1 7) <|
        lt (gi m_4 23 (ix 1)) fun x_5 =>
        if x_5 ≤ y3 then
          (X11_sharer_b21  n y1 y2 y3 (y4 + 1) m_4)
        else
          (X11_sharer_b21  n y1 y4 x_5 (y4 + 1) m_4)))
def X11_sharer  (x1 : Int32) (m : Mem) : Option (Int32 × Mem) :=
  bnd (X10_isPerson 25 x1 m) fun r_1 m_2 =>
  if r_1 = 0 then
    (some ((-2), m_2))
  else
    (X11_sharer_b21  FU x1 (-1) 0 0 m_2)
def X11_since  (x1 : Int32) (x2 : Int32) (m : Mem) : Option (Int32 × Mem) :=
  bnd (X10_isPerson 25 x1 m) fun r_1 m_2 =>
  if r_1 = 0 then
    (some ((-2), m_2))
  else
    (bnd (X10_isThing 25 x2 m_2) fun r_3 m_4 =>
    if r_3 = 0 then
      (some ((-2), m_4))
    else
      (bnd (X5_has 26 x1 x2 m_4) fun r_5 m_6 =>
      if r_5 = 0 then
        (some ((-1), m_6))
      else
        (chk (inb ((x1 * 14) + x2) 112) <|
        some ((gi m_6 31 (ix ((x1 * 14) + x2))), m_6))))
def X6_settle_b44 (f_X6_settle : Int32 → Mem → Option (Int32 × Mem)) : Nat → Int32 → Int32 → Mem → Option (Int32 × Mem)
  | 0, _, _, _ => none
  | n + 1, y1, y2, m =>
    if (gi m 90 0) ≤ y2 then
      (bnd (f_X6_settle (y1 + 1) m) fun r_2 m_3 =>
      chk (decide (r_2 = 0 ∨ r_2 = 1)) (some (r_2, m_3)))
    else
      (chk (inb y2 8) <|
      if (gi m 95 (ix y2)) = (-1) then
        (bnd (X6_isOpen y1 y2 m) fun r_4 m_5 =>
        if r_4 = 0 then
          (X6_settle_b44 f_X6_settle n y1 (y2 + 1) m_5)
        else
          (chk (inb y1 8) <|
          lt (si m_5 95 (ix y1) y2) fun m_6 =>
          chk (inb y2 8) <|
          lt (si m_6 95 (ix y2) y1) fun m_7 =>
          bnd (f_X6_settle (y1 + 1) m_7) fun r_8 m_9 =>
          if r_8 = 0 then
            (chk (inb y1 8) <|
            lt (si m_9 95 (ix y1) (-1)) fun m_10 =>
            chk (inb y2 8) <|
            lt (si m_10 95 (ix y2) (-1)) fun m_11 =>
            X6_settle_b44 f_X6_settle n y1 (y2 + 1) m_11)
          else
            (some (1, m_9))))
      else
        (X6_settle_b44 f_X6_settle n y1 (y2 + 1) m))
def X6_settle (f_X6_settle : Int32 → Mem → Option (Int32 × Mem)) (x1 : Int32) (m : Mem) : Option (Int32 × Mem) :=
  if x1 < (gi m 90 0) then
    (chk (inb x1 8) <|
    if (gi m 95 (ix x1)) = (-1) then
      (lt (x1 + 1) fun x_1 =>
      X6_settle_b44 f_X6_settle FU x1 x_1 m)
    else
      (bnd (f_X6_settle (x1 + 1) m) fun r_12 m_13 =>
      chk (decide (r_12 = 0 ∨ r_12 = 1)) (some (r_12, m_13))))
  else
    (bnd (X6_firstBreak  m) fun r_14 m_15 =>
    if r_14 = (-1) then
      (some (1, m_15))
    else
      (some (0, m_15)))
def g_X6_settle : Nat → (Int32 → Mem → Option (Int32 × Mem))
  | 0 => (fun _ _ => none)
  | d + 1 => (fun x1 m => X6_settle (g_X6_settle d) x1 m)
def X6_settle_top (x1 : Int32) (m : Mem) : Option (Int32 × Mem) := g_X6_settle 64 x1 m
def X11_stable  (x1 : Int32) (m : Mem) : Option (Int32 × Mem) :=
  bnd (X11_isMatchingQuestion x1 m) fun r_1 m_2 =>
  if r_1 = 0 then
    (some ((-2), m_2))
  else
    (bnd (X6_survey 25 m_2) fun _ m_4 =>
    bnd (X6_leaveAlone  m_4) fun _ m_6 =>
    bnd (X6_settle_top 0 m_6) fun r_7 m_8 =>
    bnd (X6_answer x1 m_8) fun r_9 m_10 =>
    some (r_9, m_10))
def X11_strikes  (x1 : Int32) (x2 : Int32) (x3 : Int32) (m : Mem) : Option (Int32 × Mem) :=
  bnd (X10_areTwo 25 x1 x2 m) fun r_1 m_2 =>
  if r_1 = 0 then
    (some ((-2000000), m_2))
  else
    (bnd (X10_isThing 25 x3 m_2) fun r_3 m_4 =>
    if r_3 = 0 then
      (some ((-2000000), m_4))
    else
      (lt (((1 : Int32) <<< (x3 &&& 31)) ^^^ (-1)) fun x_5 =>
      chk (inb x1 8) <|
      chk (inb x2 8) <|
      bnd (X10_goodnessWith 25 x1 x2 ((gi m_4 29 (ix x1)) &&& x_5) ((gi m_4 29 (ix x2)) &&& x_5) m_4) fun r_6 m_7 =>
      bnd (X10_goodness 25 x1 x2 m_7) fun r_8 m_9 =>
      some ((r_8 - r_6), m_9)))
def X11_takes  (x1 : Int32) (x2 : Int32) (m : Mem) : Option (Int32 × Mem) :=
  bnd (X10_whyNotTake 25 x1 x2 m) fun r_1 m_2 =>
  if r_1 = 0 then
    (bnd (X2_keep 26 m_2) fun _ m_4 =>
    bnd (X10_takeOrGive 25 x1 x2 m_4) fun _ m_6 =>
    chk (inb x1 8) <|
    bnd (J6_bitCount_0f7a4 (gi m_6 29 (ix x1)) m_6) fun r_7 m_8 =>
    some (r_7, m_8))
  else
    (some (((-10) - r_1), m_2))
def X8_whoAre_b4 (a : Nat) : Nat → Int32 → Int32 → Int32 → Mem → Option (Int32 × Mem)
  | 0, _, _, _, _ => none
  | n + 1, y1, y2, y3, m =>
    if (gi m a 1) ≤ y3 then
      (some (y2, m))
    else
      (chk (inb y3 8) <|
      if ((gi m (a + 2) (ix y3)) &&& ((1 : Int32) <<< (y1 &&& 31))) = 0 then
        (X8_whoAre_b4 a n y1 y2 (y3 + 1) m)
      else
        (lt (y2 ||| ((1 : Int32) <<< (y3 &&& 31))) fun x_1 =>
        X8_whoAre_b4 a n y1 x_1 (y3 + 1) m))
def X8_whoAre (a : Nat) (x1 : Int32) (m : Mem) : Option (Int32 × Mem) :=
  X8_whoAre_b4 a FU x1 0 0 m
def X11_thing  (x1 : Int32) (x2 : Int32) (m : Mem) : Option (Int32 × Mem) :=
  bnd (X10_isThing 25 x1 m) fun r_1 m_2 =>
  if r_1 = 0 then
    (some ((-2), m_2))
  else
    (if x2 = 0 then
      (chk (inb x1 14) <|
      some ((gi m_2 3 (ix x1)), m_2))
    else if x2 = 1 then
      (chk (inb x1 14) <|
      some ((gi m_2 30 (ix x1)), m_2))
    else if x2 = 2 then
      (bnd (X10_rarity 25 x1 m_2) fun r_5 m_6 =>
      some (r_5, m_6))
    else if x2 = 3 then
      (bnd (X8_whoAre 2 x1 m_2) fun r_8 m_9 =>
      some (r_8, m_9))
    else (
      some ((-2), m_2)))
def X2_bringBack (b2 : Nat) (x1 : Int32) (m : Mem) : Option (Unit × Mem) :=
  if x1 ≤ 0 then
    (some ((), m))
  else
    (if (gi m 40 2) < x1 then
      (some ((), m))
    else
      (lt (si m 40 2 ((gi m 40 2) - x1)) fun m_1 =>
      chk (inb (((gi m_1 40 1) + (gi m_1 40 2)) - ((gi m_1 40 1) + (gi m_1 40 2)) / 8 * 8) 8) <|
      lt (42 + 6 * ix (((gi m_1 40 1) + (gi m_1 40 2)) - ((gi m_1 40 1) + (gi m_1 40 2)) / 8 * 8)) fun b_2 =>
      bnd (X5_become b2 b_2 m_1) fun _ m_5 =>
      some ((), m_5)))
def X11_undo  (x1 : Int32) (m : Mem) : Option (Int32 × Mem) :=
  if x1 < 1 then
    (some ((-3), m))
  else
    (if x1 ≤ (gi m 40 2) then
      (bnd (X2_bringBack 26 x1 m) fun _ m_2 =>
      some ((gi m_2 40 2), m_2))
    else
      (some ((-3), m)))
def X11_wed  (x1 : Int32) (x2 : Int32) (m : Mem) : Option (Int32 × Mem) :=
  bnd (X10_whyNotMarry 25 x1 x2 m) fun r_1 m_2 =>
  if r_1 = 0 then
    (bnd (X2_keep 26 m_2) fun _ m_4 =>
    bnd (X5_marry 26 x1 x2 m_4) fun _ m_6 =>
    bnd (X10_goodness 25 x1 x2 m_6) fun r_7 m_8 =>
    some (r_7, m_8))
  else
    (some (((-10) - r_1), m_2))
def X11_write  (x1 : Int32) (x2 : Int32) (x3 : Int64) (m : Mem) : Option (Int64 × Mem) :=
  bnd (X11_isTray x1 m) fun r_1 m_2 =>
  if r_1 = 0 then
    (some ((-2), m_2))
  else
    (chk (inb x1 4) <|
    lt (100 + 2 * ix x1) fun b_3 =>
    if (gi m_2 b_3 0) = 0 then
      (some ((-6), m_2))
    else
      (if x2 < 0 then
        (some ((-7), m_2))
      else
        (if x2 < (gi m_2 b_3 1) then
          (bnd (X9_cut b_3 x3 m_2) fun r_5 m_6 =>
          chk (inb x2 40) <|
          lt (sl m_6 (b_3 + 1) (ix x2) r_5) fun m_7 =>
          chk (inb x2 40) <|
          some ((gl m_7 (b_3 + 1) (ix x2)), m_7))
        else
          (some ((-7), m_2)))))
def X11_years_b32  : Nat → Int32 → Int32 → Int32 → Mem → Option (Int32 × Mem)
  | 0, _, _, _, _ => none
  | n + 1, y1, y2, y3, m =>
    if y1 ≤ y3 then
      (some (y2, m))
    else
      (bnd (X10_passYear 25 m) fun r_3 m_4 =>
      lt (y2 + r_3) fun x_5 =>
      X11_years_b32  n y1 x_5 (y3 + 1) m_4)
def X11_years  (x1 : Int32) (m : Mem) : Option (Int32 × Mem) :=
  if x1 < 1 then
    (some ((-3), m))
  else
    (if x1 ≤ 60 then
      (bnd (X2_keep 26 m) fun _ m_2 =>
      X11_years_b32  FU x1 0 0 m_2)
    else
      (some ((-3), m)))
def X12_listOf_b4  : Nat → Int32 → Int32 → Int32 → Mem → Option (Int32 × Mem)
  | 0, _, _, _, _ => none
  | n + 1, y1, y2, y3, m =>
    chk (inb 1 6288) <|
    if (gi m 1 (ix 1)) ≤ y3 then
      (some (y2, m))
    else
      (chk (inb ((41 + (14 * y1)) + y3) 6288) <|
      if (gi m 1 (ix ((41 + (14 * y1)) + y3))) = (-1) then
        (X12_listOf_b4  n y1 y2 (y3 + 1) m)
      else
        (lt (y2 ||| ((1 : Int32) <<< (y3 &&& 31))) fun x_1 =>
        X12_listOf_b4  n y1 x_1 (y3 + 1) m))
def X12_listOf  (x1 : Int32) (m : Mem) : Option (Int32 × Mem) :=
  X12_listOf_b4  FU x1 0 0 m
def X12_angersOf_b4  : Nat → Int32 → Int32 → Int32 → Mem → Option (Int32 × Mem)
  | 0, _, _, _, _ => none
  | n + 1, y1, y2, y3, m =>
    chk (inb 2 6288) <|
    if (gi m 1 (ix 2)) ≤ y3 then
      (some (y2, m))
    else
      (if y3 = y1 then
        (X12_angersOf_b4  n y1 y2 (y3 + 1) m)
      else
        (bnd (X12_listOf y1 m) fun r_1 m_2 =>
        chk (inb (25 + y3) 6288) <|
        lt (y2 ||| (r_1 &&& (gi m_2 1 (ix (25 + y3))))) fun x_3 =>
        X12_angersOf_b4  n y1 x_3 (y3 + 1) m_2))
def X12_angersOf  (x1 : Int32) (m : Mem) : Option (Int32 × Mem) :=
  X12_angersOf_b4  FU x1 0 0 m
def X12_angry_b9  : Nat → Int32 → Int32 → Mem → Option (Int32 × Mem)
  | 0, _, _, _ => none
  | n + 1, y1, y2, m =>
    chk (inb 2 6288) <|
    if (gi m 1 (ix 2)) ≤ y2 then
      (some (y1, m))
    else
      (bnd (X12_angersOf y2 m) fun r_2 m_3 =>
      if r_2 = 0 then
        (X12_angry_b9  n y1 (y2 + 1) m_3)
      else
        (lt (y1 ||| ((1 : Int32) <<< (y2 &&& 31))) fun x_4 =>
        X12_angry_b9  n x_4 (y2 + 1) m_3))
def X12_angry  (m : Mem) : Option (Int32 × Mem) :=
  lt (si m 0 0 0) fun m_1 =>
  X12_angry_b9  FU 0 0 m_1
def X12_isIn  (x1 : Int64) (x2 : Int32) (m : Mem) : Option (Int32 × Mem) :=
  if (lg_cmp ((x1 >>> (Int32.toInt64 x2 &&& 63)) &&& 1) 1) = 0 then
    (some (1, m))
  else
    (some (0, m))
def X12_areIt_b4  : Nat → Int32 → Int32 → Int32 → Mem → Option (Int32 × Mem)
  | 0, _, _, _, _ => none
  | n + 1, y1, y2, y3, m =>
    chk (inb 2 6288) <|
    if (gi m 1 (ix 2)) ≤ y3 then
      (some (y2, m))
    else
      (chk (inb (25 + y3) 6288) <|
      bnd (X12_isIn (Int32.toInt64 (gi m 1 (ix (25 + y3)))) y1 m) fun r_1 m_2 =>
      if r_1 = 0 then
        (X12_areIt_b4  n y1 y2 (y3 + 1) m_2)
      else
        (lt (y2 ||| ((1 : Int32) <<< (y3 &&& 31))) fun x_3 =>
        X12_areIt_b4  n y1 x_3 (y3 + 1) m_2))
def X12_areIt  (x1 : Int32) (m : Mem) : Option (Int32 × Mem) :=
  X12_areIt_b4  FU x1 0 0 m
def X12_within  (x1 : Int64) (x2 : Int64) (x3 : Int64) (m : Mem) : Option (Int32 × Mem) :=
  if (lg_cmp x1 x2) < 0 then
    (some (0, m))
  else
    (if 0 < (lg_cmp x1 x3) then
      (some (0, m))
    else
      (some (1, m)))
def X12_isPerson  (x1 : Int64) (m : Mem) : Option (Int32 × Mem) :=
  chk (inb 2 6288) <|
  bnd (X12_within x1 0 (Int32.toInt64 ((gi m 1 (ix 2)) - 1)) m) fun r_1 m_2 =>
  chk (decide (r_1 = 0 ∨ r_1 = 1)) (some (r_1, m_2))
def X12_areTwo  (x1 : Int64) (x2 : Int64) (m : Mem) : Option (Int32 × Mem) :=
  bnd (X12_isPerson x1 m) fun r_1 m_2 =>
  if r_1 = 0 then
    (some (0, m_2))
  else
    (bnd (X12_isPerson x2 m_2) fun r_3 m_4 =>
    if r_3 = 0 then
      (some (0, m_4))
    else
      (if (lg_cmp x1 x2) = 0 then
        (some (0, m_4))
      else
        (some (1, m_4))))
def X12_asksPerson  (x1 : Int32) (m : Mem) : Option (Int32 × Mem) :=
  bnd (X12_within (Int32.toInt64 x1) 0 1 m) fun r_1 m_2 =>
  if r_1 = 0 then
    (chk (inb 2 6288) <|
    bnd (X12_within (Int32.toInt64 x1) 10 (Int32.toInt64 (9 + (gi m_2 1 (ix 2)))) m_2) fun r_3 m_4 =>
    if r_3 = 0 then
      (some (0, m_4))
    else
      (some (1, m_4)))
  else
    (some (1, m_2))
def X12_goodAs  (x1 : Int32) (m : Mem) : Option (Int32 × Mem) :=
  chk (inb x1 8) <|
  if (gi m 10 (ix x1)) = (-1) then
    (some ((-2000000), m))
  else
    (chk (inb x1 8) <|
    chk (inb ((8 * x1) + (gi m 10 (ix x1))) 64) <|
    some ((gi m 9 (ix ((8 * x1) + (gi m 10 (ix x1))))), m))
def X12_breaksOf_b16 (k2 : Int32 → Mem → Option (Int32 × Mem)) : Nat → Int32 → Int32 → Mem → Option (Int32 × Mem)
  | 0, _, _, _ => none
  | n + 1, y2, y3, m =>
    chk (inb 2 6288) <|
    if (gi m 1 (ix 2)) ≤ y3 then
      (k2 (y2 + 1) m)
    else
      (chk (inb ((8 * y2) + y3) 64) <|
      if (gi m 12 (ix ((8 * y2) + y3))) = 0 then
        (X12_breaksOf_b16 k2 n y2 (y3 + 1) m)
      else
        (chk (inb ((8 * y2) + y3) 64) <|
        bnd (X12_goodAs y2 m) fun r_2 m_3 =>
        if (gi m 9 (ix ((8 * y2) + y3))) ≤ r_2 then
          (X12_breaksOf_b16 k2 n y2 (y3 + 1) m_3)
        else
          (chk (inb ((8 * y2) + y3) 64) <|
          bnd (X12_goodAs y3 m_3) fun r_4 m_5 =>
          if (gi m_3 9 (ix ((8 * y2) + y3))) ≤ r_4 then
            (X12_breaksOf_b16 k2 n y2 (y3 + 1) m_5)
          else
            (some (((10 * y2) + y3), m_5)))))
def X12_breaksOf_b2  : Nat → Int32 → Mem → Option (Int32 × Mem)
  | 0, _, _ => none
  | n + 1, y2, m =>
    chk (inb 2 6288) <|
    if (gi m 1 (ix 2)) ≤ y2 then
      (some ((-1), m))
    else
      (lt (y2 + 1) fun x_1 =>
      X12_breaksOf_b16 (X12_breaksOf_b2 n) FU y2 x_1 m)
def X12_breaksOf  (m : Mem) : Option (Int32 × Mem) :=
  X12_breaksOf_b2  FU 0 m
def X12_goesMatch_b170 (f_X12_goesMatch : Int32 → Int32 → Int32 → Int32 → Mem → Option (Unit × Mem)) : Nat → Int32 → Int32 → Int32 → Int32 → Int32 → Mem → Option (Unit × Mem)
  | 0, _, _, _, _, _, _ => none
  | n + 1, y1, y2, y3, y4, y5, m =>
    chk (inb 2 6288) <|
    if (gi m 1 (ix 2)) ≤ y5 then
      (bnd (f_X12_goesMatch (y1 + 1) y2 y3 y4 m) fun _ m_3 =>
      some ((), m_3))
    else
      (chk (inb y5 8) <|
      if (gi m 10 (ix y5)) = (-1) then
        (chk (inb ((8 * y1) + y5) 64) <|
        if (gi m 12 (ix ((8 * y1) + y5))) = 0 then
          (X12_goesMatch_b170 f_X12_goesMatch n y1 y2 y3 y4 (y5 + 1) m)
        else
          (chk (inb y1 8) <|
          lt (si m 10 (ix y1) y5) fun m_4 =>
          chk (inb y5 8) <|
          lt (si m_4 10 (ix y5) y1) fun m_5 =>
          chk (inb ((8 * y1) + y5) 64) <|
          bnd (f_X12_goesMatch (y1 + 1) (y2 + 1) (y3 + (gi m_5 9 (ix ((8 * y1) + y5)))) y4 m_5) fun _ m_7 =>
          chk (inb y1 8) <|
          lt (si m_7 10 (ix y1) (-1)) fun m_8 =>
          chk (inb y5 8) <|
          lt (si m_8 10 (ix y5) (-1)) fun m_9 =>
          X12_goesMatch_b170 f_X12_goesMatch n y1 y2 y3 y4 (y5 + 1) m_9))
      else
        (X12_goesMatch_b170 f_X12_goesMatch n y1 y2 y3 y4 (y5 + 1) m))
def X12_goesMatch_b115 (f_X12_goesMatch : Int32 → Int32 → Int32 → Int32 → Mem → Option (Unit × Mem)) : Nat → Int32 → Mem → Option (Unit × Mem)
  | 0, _, _ => none
  | n + 1, y6, m =>
    if 8 ≤ y6 then
      (some ((), m))
    else
      (chk (inb y6 8) <|
      chk (inb y6 8) <|
      lt (si m 11 (ix y6) (gi m 10 (ix y6))) fun m_15 =>
      X12_goesMatch_b115 f_X12_goesMatch n (y6 + 1) m_15)
def X12_goesMatch_b94 (f_X12_goesMatch : Int32 → Int32 → Int32 → Int32 → Mem → Option (Unit × Mem)) (y2 : Int32) (y3 : Int32) (z0 : Int32) (m : Mem) : Option (Unit × Mem) :=
  if z0 = 0 then
    (some ((), m))
  else
    (lt (si m 0 25 y2) fun m_13 =>
    lt (si m_13 0 26 y3) fun m_14 =>
    X12_goesMatch_b115 f_X12_goesMatch FU 0 m_14)
def X12_goesMatch_b26 (f_X12_goesMatch : Int32 → Int32 → Int32 → Int32 → Mem → Option (Unit × Mem)) (y2 : Int32) (y3 : Int32) (z0 : Int32) (z1 : Int32) (m : Mem) : Option (Unit × Mem) :=
  lt (si m 0 27 (z1 + z0)) fun m_12 =>
  if (gi m_12 0 28) = 0 then
    (if (gi m_12 0 25) < y2 then
      (X12_goesMatch_b94 f_X12_goesMatch y2 y3 1 m_12)
    else
      (if y2 = (gi m_12 0 25) then
        (if y3 ≤ (gi m_12 0 26) then
          (X12_goesMatch_b94 f_X12_goesMatch y2 y3 0 m_12)
        else
          (X12_goesMatch_b94 f_X12_goesMatch y2 y3 1 m_12))
      else
        (X12_goesMatch_b94 f_X12_goesMatch y2 y3 0 m_12)))
  else
    (if (gi m_12 0 25) = (-1) then
      (bnd (X12_breaksOf  m_12) fun r_16 m_17 =>
      if r_16 = (-1) then
        (X12_goesMatch_b94 f_X12_goesMatch y2 y3 1 m_17)
      else
        (X12_goesMatch_b94 f_X12_goesMatch y2 y3 0 m_17))
    else
      (X12_goesMatch_b94 f_X12_goesMatch y2 y3 0 m_12))
def X12_goesMatch (f_X12_goesMatch : Int32 → Int32 → Int32 → Int32 → Mem → Option (Unit × Mem)) (x1 : Int32) (x2 : Int32) (x3 : Int32) (x4 : Int32) (m : Mem) : Option (Unit × Mem) :=
  chk (inb 2 6288) <|
  if x1 = (gi m 1 (ix 2)) then
    (if x2 = x4 then
      (X12_goesMatch_b26 f_X12_goesMatch x2 x3 1 (gi m 0 27) m)
    else
      (X12_goesMatch_b26 f_X12_goesMatch x2 x3 0 (gi m 0 27) m))
  else
    (chk (inb x1 8) <|
    if (gi m 10 (ix x1)) = (-1) then
      (lt (x1 + 1) fun x_1 =>
      X12_goesMatch_b170 f_X12_goesMatch FU x1 x2 x3 x4 x_1 m)
    else
      (bnd (f_X12_goesMatch (x1 + 1) x2 x3 x4 m) fun _ m_11 =>
      some ((), m_11)))
def g_X12_goesMatch : Nat → (Int32 → Int32 → Int32 → Int32 → Mem → Option (Unit × Mem))
  | 0 => (fun _ _ _ _ _ => none)
  | d + 1 => (fun x1 x2 x3 x4 m => X12_goesMatch (g_X12_goesMatch d) x1 x2 x3 x4 m)
def X12_goesMatch_top (x1 : Int32) (x2 : Int32) (x3 : Int32) (x4 : Int32) (m : Mem) : Option (Unit × Mem) := g_X12_goesMatch 64 x1 x2 x3 x4 m
def X12_begins_b2  : Nat → Int32 → Int32 → Int32 → Mem → Option (Unit × Mem)
  | 0, _, _, _, _ => none
  | n + 1, y1, y2, y3, m =>
    if 8 ≤ y3 then
      (chk (decide (y1 = 0 ∨ y1 = 1)) <|
      lt (si m 0 28 y1) fun m_2 =>
      lt (si m_2 0 25 (-1)) fun m_3 =>
      lt (si m_3 0 27 0) fun m_4 =>
      bnd (X12_goesMatch_top 0 0 0 y2 m_4) fun _ m_6 =>
      some ((), m_6))
    else
      (chk (inb y3 8) <|
      lt (si m 10 (ix y3) (-1)) fun m_7 =>
      X12_begins_b2  n y1 y2 (y3 + 1) m_7)
def X12_begins  (x1 : Int32) (x2 : Int32) (m : Mem) : Option (Unit × Mem) :=
  X12_begins_b2  FU x1 x2 0 m
def X12_between_b167  (z0 : Int32) (m : Mem) : Option (Int32 × Mem) :=
  if z0 = 0 then
    (some (0, m))
  else
    (some (1, m))
def X12_between_b42  (z0 : Int64) (m : Mem) : Option (Int32 × Mem) :=
  if (lg_cmp z0 1000000) ≤ 0 then
    (if 0 ≤ (lg_cmp z0 (-1000000)) then
      (some ((Int64.toInt32 z0), m))
    else
      (some ((Int64.toInt32 (-1000000)), m)))
  else
    (some ((Int64.toInt32 1000000), m))
def X12_between  (x1 : Int32) (x2 : Int32) (x3 : Int32) (m : Mem) : Option (Int32 × Mem) :=
  if 3002 < x1 then
    (if x1 = 3003 then
      (if x2 = x3 then
        (X12_between_b167  1 m)
      else
        (X12_between_b167  0 m))
    else
      (if x1 = 3004 then
        (if x3 ≤ x2 then
          (X12_between_b167  0 m)
        else
          (X12_between_b167  1 m))
      else
        (if x1 = 3005 then
          (if x2 ≤ x3 then
            (X12_between_b167  0 m)
          else
            (X12_between_b167  1 m))
        else
          (if x1 = 3006 then
            (if (x2 + x3) = 2 then
              (X12_between_b167  1 m)
            else
              (X12_between_b167  0 m))
          else
            (if (x2 + x3) ≤ 0 then
              (X12_between_b167  0 m)
            else
              (X12_between_b167  1 m))))))
  else
    (if x1 = 3000 then
      (X12_between_b42  ((Int32.toInt64 x2) + (Int32.toInt64 x3)) m)
    else
      (if x1 = 3001 then
        (X12_between_b42  ((Int32.toInt64 x2) - (Int32.toInt64 x3)) m)
      else
        (X12_between_b42  ((Int32.toInt64 x2) * (Int32.toInt64 x3)) m)))
def X12_bitsOf_b4  : Nat → Int32 → Int32 → Int32 → Mem → Option (Int32 × Mem)
  | 0, _, _, _, _ => none
  | n + 1, y0, y1, y2, m =>
    if 14 ≤ y2 then
      (some (y1, m))
    else
      (lt (y1 + ((y0 >>> (y2 &&& 31)) &&& 1)) fun x_1 =>
      X12_bitsOf_b4  n y0 x_1 (y2 + 1) m)
def X12_bitsOf  (x1 : Int32) (m : Mem) : Option (Int32 × Mem) :=
  X12_bitsOf_b4  FU x1 0 0 m
def X12_sharedBy_b13  : Nat → Int32 → Int32 → Int32 → Mem → Option (Int32 × Mem)
  | 0, _, _, _, _ => none
  | n + 1, y1, y2, y3, m =>
    chk (inb 2 6288) <|
    if (gi m 1 (ix 2)) ≤ y3 then
      (bnd (X12_bitsOf y2 m) fun r_2 m_3 =>
      some (r_2, m_3))
    else
      (bnd (X12_isIn (Int32.toInt64 y1) y3 m) fun r_4 m_5 =>
      if r_4 = 0 then
        (lt (y2 &&& (-1)) fun x_6 =>
        X12_sharedBy_b13  n y1 x_6 (y3 + 1) m_5)
      else
        (bnd (X12_listOf y3 m_5) fun r_7 m_8 =>
        lt (y2 &&& r_7) fun x_9 =>
        X12_sharedBy_b13  n y1 x_9 (y3 + 1) m_8))
def X12_sharedBy  (x1 : Int32) (m : Mem) : Option (Int32 × Mem) :=
  chk (inb 1 6288) <|
  lt (((1 : Int32) <<< ((gi m 1 (ix 1)) &&& 31)) - 1) fun x_1 =>
  X12_sharedBy_b13  FU x1 x_1 0 m
def X12_biggest_b38  : Nat → Int32 → Int32 → Int32 → Int32 → Mem → Option (Int32 × Mem)
  | 0, _, _, _, _, _ => none
  | n + 1, y1, y2, y3, y4, m =>
    chk (inb 2 6288) <|
    if ((1 : Int32) <<< ((gi m 1 (ix 2)) &&& 31)) ≤ y4 then
      (if y2 = 0 then
        (bnd (X12_bitsOf y3 m) fun r_6 m_7 =>
        some (r_6, m_7))
      else
        (some (y3, m)))
    else
      (bnd (X12_bitsOf y4 m) fun r_8 m_9 =>
      bnd (X12_bitsOf y3 m_9) fun r_10 m_11 =>
      if r_8 ≤ r_10 then
        (X12_biggest_b38  n y1 y2 y3 (y4 + 1) m_11)
      else
        (bnd (X12_sharedBy y4 m_11) fun r_12 m_13 =>
        if r_12 < y1 then
          (X12_biggest_b38  n y1 y2 y3 (y4 + 1) m_13)
        else
          (X12_biggest_b38  n y1 y2 y4 (y4 + 1) m_13)))
def X12_biggest  (x1 : Int32) (x2 : Int32) (m : Mem) : Option (Int32 × Mem) :=
  lt (si m 0 0 0) fun m_1 =>
  bnd (X12_within (Int32.toInt64 x2) 0 1 m_1) fun r_2 m_3 =>
  if r_2 = 0 then
    (some ((-2), m_3))
  else
    (bnd (X12_within (Int32.toInt64 x1) 0 14 m_3) fun r_4 m_5 =>
    if r_4 = 0 then
      (some ((-3), m_5))
    else
      (X12_biggest_b38  FU x1 x2 0 1 m_5))
def X12_loathers_b4  : Nat → Int32 → Int32 → Int32 → Mem → Option (Int32 × Mem)
  | 0, _, _, _, _ => none
  | n + 1, y1, y2, y3, m =>
    chk (inb 2 6288) <|
    if (gi m 1 (ix 2)) ≤ y3 then
      (some (y2, m))
    else
      (chk (inb ((41 + (14 * y3)) + y1) 6288) <|
      if (gi m 1 (ix ((41 + (14 * y3)) + y1))) = (-1) then
        (X12_loathers_b4  n y1 y2 (y3 + 1) m)
      else
        (lt (y2 ||| ((1 : Int32) <<< (y3 &&& 31))) fun x_1 =>
        X12_loathers_b4  n y1 x_1 (y3 + 1) m))
def X12_loathers  (x1 : Int32) (m : Mem) : Option (Int32 × Mem) :=
  X12_loathers_b4  FU x1 0 0 m
def X12_rareOf  (x1 : Int32) (m : Mem) : Option (Int32 × Mem) :=
  chk (inb 2 6288) <|
  bnd (X12_loathers x1 m) fun r_1 m_2 =>
  bnd (X12_bitsOf r_1 m_2) fun r_3 m_4 =>
  some ((((gi m 1 (ix 2)) - r_3) + 1), m_4)
def X12_rareOfAll_b4  : Nat → Int32 → Int32 → Int32 → Mem → Option (Int32 × Mem)
  | 0, _, _, _, _ => none
  | n + 1, y1, y2, y3, m =>
    chk (inb 1 6288) <|
    if (gi m 1 (ix 1)) ≤ y3 then
      (some (y2, m))
    else
      (bnd (X12_isIn (Int32.toInt64 y1) y3 m) fun r_1 m_2 =>
      if r_1 = 0 then
        (lt (y2 + 0) fun x_3 =>
        X12_rareOfAll_b4  n y1 x_3 (y3 + 1) m_2)
      else
        (bnd (X12_rareOf y3 m_2) fun r_4 m_5 =>
        lt (y2 + r_4) fun x_6 =>
        X12_rareOfAll_b4  n y1 x_6 (y3 + 1) m_5))
def X12_rareOfAll  (x1 : Int32) (m : Mem) : Option (Int32 × Mem) :=
  X12_rareOfAll_b4  FU x1 0 0 m
def X12_laysTwo_b159  (z0 : Int32) (z1 : Int32) (m : Mem) : Option (Unit × Mem) :=
  chk (inb z1 7) <|
  lt (si m 5 (ix z1) z0) fun m_24 =>
  chk (inb 161 6288) <|
  chk (inb 6 7) <|
  lt (si m_24 5 (ix 6) (gi m_24 1 (ix 161))) fun m_25 =>
  some ((), m_25)
def X12_laysTwo_b139  (y5 : Int32) (y6 : Int32) (z0 : Int32) (z1 : Int32) (m : Mem) : Option (Unit × Mem) :=
  chk (inb z1 7) <|
  lt (si m 5 (ix z1) z0) fun m_23 =>
  if y5 ≤ y6 then
    (X12_laysTwo_b159  y6 5 m_23)
  else
    (X12_laysTwo_b159  y5 5 m_23)
def X12_laysTwo  (x1 : Int32) (x2 : Int32) (m : Mem) : Option (Unit × Mem) :=
  bnd (X12_listOf x1 m) fun r_1 m_2 =>
  bnd (X12_listOf x2 m_2) fun r_3 m_4 =>
  chk (inb (33 + x1) 6288) <|
  lt (gi m_4 1 (ix (33 + x1))) fun x_5 =>
  chk (inb (33 + x2) 6288) <|
  lt (gi m_4 1 (ix (33 + x2))) fun x_6 =>
  bnd (X12_bitsOf (r_1 &&& r_3) m_4) fun r_7 m_8 =>
  chk (inb 0 7) <|
  lt (si m_8 5 (ix 0) r_7) fun m_9 =>
  bnd (X12_rareOfAll (r_1 &&& r_3) m_9) fun r_10 m_11 =>
  chk (inb 1 7) <|
  lt (si m_11 5 (ix 1) r_10) fun m_12 =>
  chk (inb (25 + x2) 6288) <|
  bnd (X12_bitsOf (r_1 &&& (gi m_12 1 (ix (25 + x2)))) m_12) fun r_13 m_14 =>
  chk (inb (25 + x1) 6288) <|
  bnd (X12_bitsOf (r_3 &&& (gi m_14 1 (ix (25 + x1)))) m_14) fun r_15 m_16 =>
  chk (inb 2 7) <|
  lt (si m_16 5 (ix 2) (r_13 + r_15)) fun m_17 =>
  bnd (X12_bitsOf r_1 m_17) fun r_18 m_19 =>
  bnd (X12_bitsOf r_3 m_19) fun r_20 m_21 =>
  chk (inb 3 7) <|
  lt (si m_21 5 (ix 3) (r_18 + r_20)) fun m_22 =>
  if x_5 ≤ x_6 then
    (X12_laysTwo_b139  x_5 x_6 (x_6 - x_5) 4 m_22)
  else
    (X12_laysTwo_b139  x_5 x_6 (x_5 - x_6) 4 m_22)
def X12_reckons_b76 (k4 : Int32 → Int32 → Int32 → Mem → Option (Int32 × Mem)) (y1 : Int32) (y2 : Int32) (y3 : Int32) (z0 : Int32) (z1 : Int32) (m : Mem) : Option (Int32 × Mem) :=
  chk (inb z1 900) <|
  lt (si m 6 (ix z1) z0) fun m_6 =>
  k4 y1 (y2 + 1) (y3 + 1) m_6
def X12_reckons_b4  : Nat → Int32 → Int32 → Int32 → Mem → Option (Int32 × Mem)
  | 0, _, _, _, _ => none
  | n + 1, y1, y2, y3, m =>
    chk (inb (9 + y1) 6288) <|
    if (gi m 1 (ix (9 + y1))) ≤ y3 then
      (chk (inb 0 900) <|
      some ((gi m 6 (ix 0)), m))
    else
      (chk (inb (7 + y1) 6288) <|
      chk (inb ((1196 + (gi m 1 (ix (7 + y1)))) + y3) 6288) <|
      lt (gi m 1 (ix ((1196 + (gi m 1 (ix (7 + y1)))) + y3))) fun x_1 =>
      if 3000 ≤ x_1 then
        (if x_1 = 3008 then
          (chk (inb (y2 - 1) 900) <|
          chk (inb (y2 - 1) 900) <|
          lt (si m 6 (ix (y2 - 1)) (1 - (gi m 6 (ix (y2 - 1))))) fun m_5 =>
          X12_reckons_b4  n y1 y2 (y3 + 1) m_5)
        else
          (chk (inb ((y2 + (-1)) - 1) 900) <|
          chk (inb (y2 + (-1)) 900) <|
          bnd (X12_between x_1 (gi m 6 (ix ((y2 + (-1)) - 1))) (gi m 6 (ix (y2 + (-1)))) m) fun r_2 m_3 =>
          chk (inb ((y2 + (-1)) - 1) 900) <|
          lt (si m_3 6 (ix ((y2 + (-1)) - 1)) r_2) fun m_4 =>
          X12_reckons_b4  n y1 (y2 + (-1)) (y3 + 1) m_4))
      else
        (if 1000 ≤ x_1 then
          (chk (inb (x_1 - 1000) 7) <|
          X12_reckons_b76 (X12_reckons_b4 n) y1 y2 y3 (gi m 5 (ix (x_1 - 1000))) y2 m)
        else
          (X12_reckons_b76 (X12_reckons_b4 n) y1 y2 y3 x_1 y2 m)))
def X12_reckons  (x1 : Int32) (m : Mem) : Option (Int32 × Mem) :=
  X12_reckons_b4  FU x1 0 0 m
def X12_goodOf  (x1 : Int32) (x2 : Int32) (m : Mem) : Option (Int32 × Mem) :=
  bnd (X12_laysTwo x1 x2 m) fun _ m_2 =>
  chk (inb 5 6288) <|
  if (gi m_2 1 (ix 5)) = 0 then
    (chk (inb 1 7) <|
    chk (inb 2 7) <|
    some (((gi m_2 5 (ix 1)) - (2 * (gi m_2 5 (ix 2)))), m_2))
  else
    (bnd (X12_reckons 0 m_2) fun r_3 m_4 =>
    some (r_3, m_4))
def X12_mayWed  (x1 : Int32) (x2 : Int32) (m : Mem) : Option (Int32 × Mem) :=
  bnd (X12_laysTwo x1 x2 m) fun _ m_2 =>
  chk (inb 6 6288) <|
  if (gi m_2 1 (ix 6)) = 0 then
    (some (1, m_2))
  else
    (bnd (X12_reckons 1 m_2) fun r_3 m_4 =>
    if r_3 = 1 then
      (some (1, m_4))
    else
      (some (0, m_4)))
def X12_keepsAhead_b2  : Nat → Int32 → Mem → Option (Unit × Mem)
  | 0, _, _ => none
  | n + 1, y1, m =>
    if 129 ≤ y1 then
      (some ((), m))
    else
      (chk (inb (33 + y1) 6288) <|
      chk (inb y1 129) <|
      lt (si m 13 (ix y1) (gi m 1 (ix (33 + y1)))) fun m_1 =>
      X12_keepsAhead_b2  n (y1 + 1) m_1)
def X12_keepsAhead  (m : Mem) : Option (Unit × Mem) :=
  X12_keepsAhead_b2  FU 0 m
def X12_copiesFrom_b25  : Nat → Int32 → Int32 → Int32 → Mem → Option (Unit × Mem)
  | 0, _, _, _, _ => none
  | n + 1, y1, y2, y3, m =>
    bnd (X12_isIn (Int32.toInt64 y2) y3 m) fun r_3 m_4 =>
    if r_3 = 0 then
      (X12_copiesFrom_b25  n y1 y2 (y3 + 1) m_4)
    else
      (chk (inb ((41 + (14 * y1)) + y3) 6288) <|
      lt (si m_4 1 (ix ((41 + (14 * y1)) + y3)) 0) fun m_5 =>
      some ((), m_5))
def X12_copiesFrom  (x1 : Int32) (x2 : Int32) (m : Mem) : Option (Unit × Mem) :=
  if x2 = 0 then
    (some ((), m))
  else
    (chk (inb x1 8) <|
    bnd (X12_bitsOf (gi m 8 (ix x1)) m) fun r_1 m_2 =>
    chk (inb 4 6288) <|
    if r_1 < (gi m_2 1 (ix 4)) then
      (X12_copiesFrom_b25  FU x1 x2 0 m_2)
    else
      (some ((), m_2)))
def X12_year_b245 (k194 : Int32 → Int32 → Int32 → Int32 → Mem → Option (Int32 × Mem)) (y1 : Int32) (y2 : Int32) (y3 : Int32) (y4 : Int32) (z0 : Int32) (m : Mem) : Option (Int32 × Mem) :=
  if z0 = (-1) then
    (k194 y1 y2 y3 (y4 + 1) m)
  else
    (chk (inb z0 8) <|
    chk (inb y4 8) <|
    bnd (X12_copiesFrom y4 ((gi m 8 (ix z0)) &&& ((gi m 8 (ix y4)) ^^^ (-1))) m) fun _ m_3 =>
    k194 y1 y2 y3 (y4 + 1) m_3)
def X12_year_b194  : Nat → Int32 → Int32 → Int32 → Int32 → Mem → Option (Int32 × Mem)
  | 0, _, _, _, _, _ => none
  | n + 1, y1, y2, y3, y4, m =>
    chk (inb 2 6288) <|
    if (gi m 1 (ix 2)) ≤ y4 then
      (chk (inb 161 6288) <|
      chk (inb 161 6288) <|
      lt (si m 1 (ix 161) ((gi m 1 (ix 161)) + 1)) fun m_1 =>
      some (y3, m_1))
    else
      (if y1 = (-1) then
        (chk (inb (153 + y4) 6288) <|
        X12_year_b245 (X12_year_b194 n) y1 y2 y3 y4 (gi m 1 (ix (153 + y4))) m)
      else
        (if y4 = y1 then
          (X12_year_b245 (X12_year_b194 n) y1 y2 y3 y4 y2 m)
        else
          (if y4 = y2 then
            (X12_year_b245 (X12_year_b194 n) y1 y2 y3 y4 y1 m)
          else
            (X12_year_b245 (X12_year_b194 n) y1 y2 y3 y4 (-1) m))))
def X12_year_b161  : Nat → Int32 → Int32 → Int32 → Int32 → Mem → Option (Int32 × Mem)
  | 0, _, _, _, _, _ => none
  | n + 1, y1, y2, y3, y4, m =>
    chk (inb 2 6288) <|
    if (gi m 1 (ix 2)) ≤ y4 then
      (X12_year_b194  FU y1 y2 y3 0 m)
    else
      (bnd (X12_listOf y4 m) fun r_4 m_5 =>
      chk (inb y4 8) <|
      lt (si m_5 8 (ix y4) r_4) fun m_6 =>
      X12_year_b161  n y1 y2 y3 (y4 + 1) m_6)
def X12_year_b61 (k5 : Int32 → Int32 → Int32 → Int32 → Mem → Option (Int32 × Mem)) (k33 : Int32 → Int32 → Int32 → Int32 → Int32 → Mem → Option (Int32 × Mem)) (y1 : Int32) (y2 : Int32) (y3 : Int32) (y4 : Int32) (y5 : Int32) (m : Mem) : Option (Int32 × Mem) :=
  lt ((41 + (14 * y4)) + y5) fun x_9 =>
  chk (inb x_9 6288) <|
  if (gi m 1 (ix x_9)) = (-1) then
    (k33 y1 y2 y3 y4 (y5 + 1) m)
  else
    (chk (inb x_9 6288) <|
    chk (inb x_9 6288) <|
    lt (si m 1 (ix x_9) ((gi m 1 (ix x_9)) + 1)) fun m_10 =>
    chk (inb (11 + y5) 6288) <|
    if (gi m_10 1 (ix (11 + y5))) = 0 then
      (k33 y1 y2 y3 y4 (y5 + 1) m_10)
    else
      (chk (inb x_9 6288) <|
      chk (inb (11 + y5) 6288) <|
      if (gi m_10 1 (ix (11 + y5))) ≤ (gi m_10 1 (ix x_9)) then
        (chk (inb x_9 6288) <|
        lt (si m_10 1 (ix x_9) (-1)) fun m_11 =>
        k33 y1 y2 (y3 + 1) y4 (y5 + 1) m_11)
      else
        (k33 y1 y2 y3 y4 (y5 + 1) m_10)))
def X12_year_b33 (k5 : Int32 → Int32 → Int32 → Int32 → Mem → Option (Int32 × Mem)) : Nat → Int32 → Int32 → Int32 → Int32 → Int32 → Mem → Option (Int32 × Mem)
  | 0, _, _, _, _, _, _ => none
  | n + 1, y1, y2, y3, y4, y5, m =>
    chk (inb 1 6288) <|
    if (gi m 1 (ix 1)) ≤ y5 then
      (k5 y1 y2 y3 (y4 + 1) m)
    else
      (if y1 = (-1) then
        (X12_year_b61 k5 (X12_year_b33 k5 n) y1 y2 y3 y4 y5 m)
      else
        (if y4 = y1 then
          (X12_year_b61 k5 (X12_year_b33 k5 n) y1 y2 y3 y4 y5 m)
        else
          (if y4 = y2 then
            (X12_year_b61 k5 (X12_year_b33 k5 n) y1 y2 y3 y4 y5 m)
          else
            (k5 y1 y2 y3 (y4 + 1) m))))
def X12_year_b5  : Nat → Int32 → Int32 → Int32 → Int32 → Mem → Option (Int32 × Mem)
  | 0, _, _, _, _, _ => none
  | n + 1, y1, y2, y3, y4, m =>
    chk (inb 2 6288) <|
    if (gi m 1 (ix 2)) ≤ y4 then
      (X12_year_b161  FU y1 y2 y3 0 m)
    else
      (lt (33 + y4) fun x_7 =>
      chk (inb x_7 6288) <|
      chk (inb x_7 6288) <|
      lt (si m 1 (ix x_7) ((gi m 1 (ix x_7)) + 1)) fun m_8 =>
      X12_year_b33 (X12_year_b5 n) FU y1 y2 y3 y4 0 m_8)
def X12_year  (x1 : Int32) (x2 : Int32) (m : Mem) : Option (Int32 × Mem) :=
  X12_year_b5  FU x1 x2 0 0 m
def X12_isAhead_b2  : Nat → Int32 → Mem → Option (Unit × Mem)
  | 0, _, _ => none
  | n + 1, y1, m =>
    if 129 ≤ y1 then
      (some ((), m))
    else
      (chk (inb y1 129) <|
      chk (inb (33 + y1) 6288) <|
      lt (si m 1 (ix (33 + y1)) (gi m 13 (ix y1))) fun m_1 =>
      X12_isAhead_b2  n (y1 + 1) m_1)
def X12_isAhead  (m : Mem) : Option (Unit × Mem) :=
  X12_isAhead_b2  FU 0 m
def X12_holdsFor_b6  : Nat → Int32 → Int32 → Int32 → Mem → Option (Int32 × Mem)
  | 0, _, _, _, _ => none
  | n + 1, y1, y2, y3, m =>
    if 40 ≤ y3 then
      (bnd (X12_isAhead  m) fun _ m_4 =>
      some (y3, m_4))
    else
      (bnd (X12_goodOf y1 y2 m) fun r_5 m_6 =>
      chk (inb 3 6288) <|
      if r_5 < (gi m_6 1 (ix 3)) then
        (bnd (X12_isAhead  m_6) fun _ m_8 =>
        some (y3, m_8))
      else
        (bnd (X12_year y1 y2 m_6) fun r_9 m_10 =>
        X12_holdsFor_b6  n y1 y2 (y3 + 1) m_10))
def X12_holdsFor  (x1 : Int32) (x2 : Int32) (m : Mem) : Option (Int32 × Mem) :=
  bnd (X12_keepsAhead  m) fun _ m_2 =>
  X12_holdsFor_b6  FU x1 x2 0 m_2
def X12_laysPairs_b109 (k2 : Int32 → Int32 → Int32 → Mem → Option (Unit × Mem)) (k15 : Int32 → Int32 → Int32 → Int32 → Mem → Option (Unit × Mem)) (y1 : Int32) (y2 : Int32) (y3 : Int32) (y4 : Int32) (z0 : Int32) (m : Mem) : Option (Unit × Mem) :=
  chk (inb z0 64) <|
  lt (si m 12 (ix z0) (vp_nar .boolean 1)) fun m_13 =>
  k15 y1 y2 y3 (y4 + 1) m_13
def X12_laysPairs_b15 (k2 : Int32 → Int32 → Int32 → Mem → Option (Unit × Mem)) : Nat → Int32 → Int32 → Int32 → Int32 → Mem → Option (Unit × Mem)
  | 0, _, _, _, _, _ => none
  | n + 1, y1, y2, y3, y4, m =>
    chk (inb 2 6288) <|
    if (gi m 1 (ix 2)) ≤ y4 then
      (k2 y1 y2 (y3 + 1) m)
    else
      (if y3 = y4 then
        (X12_laysPairs_b15 k2 n y1 y2 y3 (y4 + 1) m)
      else
        (bnd (X12_goodOf y3 y4 m) fun r_1 m_2 =>
        chk (inb ((8 * y3) + y4) 64) <|
        lt (si m_2 9 (ix ((8 * y3) + y4)) r_1) fun m_3 =>
        bnd (X12_isIn (Int32.toInt64 y1) y3 m_3) fun r_4 m_5 =>
        if r_4 = 0 then
          (bnd (X12_isIn (Int32.toInt64 y1) y4 m_5) fun r_7 m_8 =>
          if r_7 = 0 then
            (bnd (X12_mayWed y3 y4 m_8) fun r_10 m_11 =>
            if r_10 = 0 then
              (chk (inb ((8 * y3) + y4) 64) <|
              lt (si m_11 12 (ix ((8 * y3) + y4)) (vp_nar .boolean 0)) fun m_12 =>
              X12_laysPairs_b15 k2 n y1 y2 y3 (y4 + 1) m_12)
            else
              (if y2 = 0 then
                (X12_laysPairs_b109 k2 (X12_laysPairs_b15 k2 n) y1 y2 y3 y4 ((8 * y3) + y4) m_11)
              else
                (bnd (X12_holdsFor y3 y4 m_11) fun r_14 m_15 =>
                if r_14 < y2 then
                  (chk (inb ((8 * y3) + y4) 64) <|
                  lt (si m_15 12 (ix ((8 * y3) + y4)) (vp_nar .boolean 0)) fun m_16 =>
                  X12_laysPairs_b15 k2 n y1 y2 y3 (y4 + 1) m_16)
                else
                  (X12_laysPairs_b109 k2 (X12_laysPairs_b15 k2 n) y1 y2 y3 y4 ((8 * y3) + y4) m_15))))
          else
            (chk (inb ((8 * y3) + y4) 64) <|
            lt (si m_8 12 (ix ((8 * y3) + y4)) (vp_nar .boolean 0)) fun m_9 =>
            X12_laysPairs_b15 k2 n y1 y2 y3 (y4 + 1) m_9))
        else
          (chk (inb ((8 * y3) + y4) 64) <|
          lt (si m_5 12 (ix ((8 * y3) + y4)) (vp_nar .boolean 0)) fun m_6 =>
          X12_laysPairs_b15 k2 n y1 y2 y3 (y4 + 1) m_6)))
def X12_laysPairs_b2  : Nat → Int32 → Int32 → Int32 → Mem → Option (Unit × Mem)
  | 0, _, _, _, _ => none
  | n + 1, y1, y2, y3, m =>
    chk (inb 2 6288) <|
    if (gi m 1 (ix 2)) ≤ y3 then
      (some ((), m))
    else
      (X12_laysPairs_b15 (X12_laysPairs_b2 n) FU y1 y2 y3 0 m)
def X12_laysPairs  (x1 : Int32) (x2 : Int32) (m : Mem) : Option (Unit × Mem) :=
  X12_laysPairs_b2  FU x1 x2 0 m
def X12_breaks_b13  : Nat → Int32 → Mem → Option (Int32 × Mem)
  | 0, _, _ => none
  | n + 1, y1, m =>
    if 8 ≤ y1 then
      (bnd (X12_breaksOf  m) fun r_4 m_5 =>
      some (r_4, m_5))
    else
      (chk (inb (153 + y1) 6288) <|
      chk (inb y1 8) <|
      lt (si m 10 (ix y1) (gi m 1 (ix (153 + y1)))) fun m_6 =>
      X12_breaks_b13  n (y1 + 1) m_6)
def X12_breaks  (m : Mem) : Option (Int32 × Mem) :=
  lt (si m 0 0 0) fun m_1 =>
  bnd (X12_laysPairs 0 0 m_1) fun _ m_3 =>
  X12_breaks_b13  FU 0 m_3
def X12_plain_b52 (w1 : Nat) (b1 : Nat) : Nat → Int32 → Mem → Option (Unit × Mem)
  | 0, _, _ => none
  | n + 1, y1, m =>
    if 8 ≤ y1 then
      (some ((), m))
    else
      (chk (inb (153 + y1) w1) <|
      lt (si m b1 (ix (153 + y1)) (-1)) fun m_3 =>
      X12_plain_b52 w1 b1 n (y1 + 1) m_3)
def X12_plain_b31 (w1 : Nat) (b1 : Nat) : Nat → Int32 → Mem → Option (Unit × Mem)
  | 0, _, _ => none
  | n + 1, y1, m =>
    if 112 ≤ y1 then
      (X12_plain_b52 w1 b1 FU 0 m)
    else
      (chk (inb (41 + y1) w1) <|
      lt (si m b1 (ix (41 + y1)) (-1)) fun m_4 =>
      X12_plain_b31 w1 b1 n (y1 + 1) m_4)
def X12_plain_b2 (w1 : Nat) (b1 : Nat) : Nat → Int32 → Mem → Option (Unit × Mem)
  | 0, _, _ => none
  | n + 1, y1, m =>
    if 2096 ≤ y1 then
      (chk (inb 3 w1) <|
      lt (si m b1 (ix 3) 10) fun m_1 =>
      chk (inb 4 w1) <|
      lt (si m_1 b1 (ix 4) 14) fun m_2 =>
      X12_plain_b31 w1 b1 FU 0 m_2)
    else
      (chk (inb y1 w1) <|
      lt (si m b1 (ix y1) 0) fun m_5 =>
      X12_plain_b2 w1 b1 n (y1 + 1) m_5)
def X12_plain (w1 : Nat) (b1 : Nat) (m : Mem) : Option (Unit × Mem) :=
  X12_plain_b2 w1 b1 FU 0 m
def X12_see  (x1 : Int32) (m : Mem) : Option (Int32 × Mem) :=
  if (gi m 0 8) ≤ x1 then
    (some ((-1), m))
  else
    (chk (inb x1 900) <|
    some ((gi m 3 (ix x1)), m))
def X12_isSmall  (x1 : Int32) (m : Mem) : Option (Int32 × Mem) :=
  if x1 < 97 then
    (some (0, m))
  else
    (if 122 < x1 then
      (some (0, m))
    else
      (some (1, m)))
def X12_keyAt_b97 (k4 : Int32 → Int32 → Mem → Option (Int32 × Mem)) : Nat → Int32 → Int32 → Mem → Option (Int32 × Mem)
  | 0, _, _, _ => none
  | n + 1, y1, y2, m =>
    bnd (J0_charAt_5068e 21 y2 m) fun r_7 m_8 =>
    if r_7 = 32 then
      (k4 (y1 + 1) (y2 + 1) m_8)
    else
      (X12_keyAt_b97 k4 n y1 (y2 + 1) m_8)
def X12_keyAt_b69 (k4 : Int32 → Int32 → Mem → Option (Int32 × Mem)) (y1 : Int32) (y2 : Int32) (y3 : Int32) (m : Mem) : Option (Int32 × Mem) :=
  bnd (J0_charAt_5068e 21 (y2 + y3) m) fun r_5 m_6 =>
  if r_5 = 32 then
    (if ((gi m_6 0 6) + y3) = (gi m_6 0 7) then
      (some (y1, m_6))
    else
      (X12_keyAt_b97 k4 FU y1 y2 m_6))
  else
    (X12_keyAt_b97 k4 FU y1 y2 m_6)
def X12_keyAt_b15 (k4 : Int32 → Int32 → Mem → Option (Int32 × Mem)) : Nat → Int32 → Int32 → Int32 → Mem → Option (Int32 × Mem)
  | 0, _, _, _, _ => none
  | n + 1, y1, y2, y3, m =>
    bnd (J0_charAt_5068e 21 (y2 + y3) m) fun r_3 m_4 =>
    if r_3 = 32 then
      (X12_keyAt_b69 k4 y1 y2 y3 m_4)
    else
      (if (gi m_4 0 7) ≤ ((gi m_4 0 6) + y3) then
        (X12_keyAt_b69 k4 y1 y2 y3 m_4)
      else
        (chk (inb ((gi m_4 0 6) + y3) 900) <|
        bnd (J0_charAt_5068e 21 (y2 + y3) m_4) fun r_9 m_10 =>
        if (gi m_4 3 (ix ((gi m_4 0 6) + y3))) = r_9 then
          (X12_keyAt_b15 k4 n y1 y2 (y3 + 1) m_10)
        else
          (X12_keyAt_b69 k4 y1 y2 y3 m_10)))
def X12_keyAt_b4  : Nat → Int32 → Int32 → Mem → Option (Int32 × Mem)
  | 0, _, _, _ => none
  | n + 1, y1, y2, m =>
    bnd (J0_length_8abf5 21 m) fun r_1 m_2 =>
    if r_1 ≤ y2 then
      (some (22, m_2))
    else
      (X12_keyAt_b15 (X12_keyAt_b4 n) FU y1 y2 0 m_2)
def X12_keyAt  (m : Mem) : Option (Int32 × Mem) :=
  X12_keyAt_b4  FU 0 1 m
def X12_isDigit  (x1 : Int32) (m : Mem) : Option (Int32 × Mem) :=
  if x1 < 48 then
    (some (0, m))
  else
    (if 57 < x1 then
      (some (0, m))
    else
      (some (1, m)))
def X12_next_b34 (k8 : Mem → Option (Unit × Mem)) (m : Mem) : Option (Unit × Mem) :=
  lt (si m 0 6 ((gi m 0 6) + 1)) fun m_4 =>
  k8  m_4
def X12_next_b254  : Nat → Int32 → Mem → Option (Unit × Mem)
  | 0, _, _ => none
  | n + 1, y1, m =>
    bnd (J0_length_8abf5 0 m) fun r_18 m_19 =>
    if r_18 ≤ y1 then
      (some ((), m_19))
    else
      (bnd (X12_see (gi m_19 0 6) m_19) fun r_20 m_21 =>
      bnd (J0_charAt_5068e 0 y1 m_21) fun r_22 m_23 =>
      if r_20 = r_22 then
        (lt (si m_23 0 9 (30 + y1)) fun m_24 =>
        X12_next_b254  n (y1 + 1) m_24)
      else
        (X12_next_b254  n (y1 + 1) m_23))
def X12_next_b196 (k146 : Mem → Option (Unit × Mem)) (m : Mem) : Option (Unit × Mem) :=
  lt (si m 0 7 ((gi m 0 7) + 1)) fun m_32 =>
  k146  m_32
def X12_next_b146  : Nat → Mem → Option (Unit × Mem)
  | 0, _ => none
  | n + 1, m =>
    bnd (X12_see (gi m 0 7) m) fun r_26 m_27 =>
    bnd (X12_isDigit r_26 m_27) fun r_28 m_29 =>
    if r_28 = 0 then
      (if ((gi m_29 0 7) - (gi m_29 0 6)) ≤ 3 then
        (lt (si m_29 0 9 23) fun m_30 =>
        some ((), m_30))
      else
        (lt (si m_29 0 9 25) fun m_31 =>
        some ((), m_31)))
    else
      (if 3 ≤ ((gi m_29 0 7) - (gi m_29 0 6)) then
        (X12_next_b196 (X12_next_b146 n)  m_29)
      else
        (bnd (X12_see (gi m_29 0 7) m_29) fun r_33 m_34 =>
        lt (si m_34 0 10 (((10 * (gi m_29 0 10)) + r_33) - 48)) fun m_35 =>
        X12_next_b196 (X12_next_b146 n)  m_35))
def X12_next_b89  : Nat → Mem → Option (Unit × Mem)
  | 0, _ => none
  | n + 1, m =>
    bnd (X12_see (gi m 0 7) m) fun r_36 m_37 =>
    bnd (X12_isSmall r_36 m_37) fun r_38 m_39 =>
    if r_38 = 0 then
      (bnd (X12_keyAt  m_39) fun r_40 m_41 =>
      lt (si m_41 0 9 r_40) fun m_42 =>
      some ((), m_42))
    else
      (lt (si m_39 0 7 ((gi m_39 0 7) + 1)) fun m_43 =>
      X12_next_b89  n  m_43)
def X12_next_b8  : Nat → Mem → Option (Unit × Mem)
  | 0, _ => none
  | n + 1, m =>
    bnd (X12_see (gi m 0 6) m) fun r_2 m_3 =>
    if r_2 = 10 then
      (X12_next_b34 (X12_next_b8 n)  m_3)
    else
      (bnd (X12_see (gi m_3 0 6) m_3) fun r_5 m_6 =>
      if r_5 = 32 then
        (X12_next_b34 (X12_next_b8 n)  m_6)
      else
        (lt (si m_6 0 7 (gi m_6 0 6)) fun m_7 =>
        if (gi m_7 0 6) < (gi m_7 0 8) then
          (bnd (X12_see (gi m_7 0 6) m_7) fun r_8 m_9 =>
          bnd (X12_isSmall r_8 m_9) fun r_10 m_11 =>
          if r_10 = 0 then
            (bnd (X12_see (gi m_11 0 6) m_11) fun r_12 m_13 =>
            bnd (X12_isDigit r_12 m_13) fun r_14 m_15 =>
            if r_14 = 0 then
              (lt (si m_15 0 7 ((gi m_15 0 7) + 1)) fun m_16 =>
              lt (si m_16 0 9 25) fun m_17 =>
              X12_next_b254  FU 0 m_17)
            else
              (lt (si m_15 0 10 0) fun m_25 =>
              X12_next_b146  FU  m_25))
          else
            (X12_next_b89  FU  m_11))
        else
          (lt (si m_7 0 9 24) fun m_44 =>
          some ((), m_44))))
def X12_next  (m : Mem) : Option (Unit × Mem) :=
  lt (si m 0 6 (gi m 0 7)) fun m_1 =>
  X12_next_b8  FU  m_1
def X12_is  (x1 : Int32) (m : Mem) : Option (Int32 × Mem) :=
  if (gi m 0 11) = 0 then
    (if (gi m 0 9) = x1 then
      (some (1, m))
    else
      (some (0, m)))
  else
    (some (0, m))
def X12_fails_b23  (z0 : Int32) (m : Mem) : Option (Unit × Mem) :=
  lt (si m 0 11 z0) fun m_1 =>
  lt (si m_1 0 12 (gi m_1 0 6)) fun m_2 =>
  some ((), m_2)
def X12_fails  (x1 : Int32) (m : Mem) : Option (Unit × Mem) :=
  if (gi m 0 11) = 0 then
    (if (gi m 0 9) = 25 then
      (X12_fails_b23  1 m)
    else
      (X12_fails_b23  x1 m))
  else
    (some ((), m))
def X12_eats  (x1 : Int32) (m : Mem) : Option (Int32 × Mem) :=
  bnd (X12_is x1 m) fun r_1 m_2 =>
  if r_1 = 0 then
    (some (0, m_2))
  else
    (bnd (X12_next  m_2) fun _ m_4 =>
    some (1, m_4))
def X12_takesOne_b37  (m : Mem) : Option (Int32 × Mem) :=
  lt (gi m 0 10) fun x_5 =>
  if (gi m 0 11) = 0 then
    (bnd (X12_next  m) fun _ m_7 =>
    some (x_5, m_7))
  else
    (some (x_5, m))
def X12_takesOne  (x1 : Int32) (x2 : Int32) (m : Mem) : Option (Int32 × Mem) :=
  bnd (X12_is 23 m) fun r_1 m_2 =>
  if r_1 = 0 then
    (bnd (X12_fails 2 m_2) fun _ m_11 =>
    X12_takesOne_b37   m_11)
  else
    (bnd (X12_within (Int32.toInt64 (gi m_2 0 10)) (Int32.toInt64 x1) (Int32.toInt64 x2) m_2) fun r_3 m_4 =>
    if r_3 = 0 then
      (bnd (X12_fails 3 m_4) fun _ m_9 =>
      X12_takesOne_b37   m_9)
    else
      (X12_takesOne_b37   m_4))
def X12_readThing_b49  (y1 : Int32) (z0 : Int32) (m : Mem) : Option (Unit × Mem) :=
  if (gi m 0 11) = 0 then
    (chk (inb (11 + y1) 2096) <|
    lt (si m 4 (ix (11 + y1)) z0) fun m_6 =>
    chk (inb 1 2096) <|
    chk (inb 1 2096) <|
    lt (si m_6 4 (ix 1) ((gi m_6 4 (ix 1)) + 1)) fun m_7 =>
    some ((), m_7))
  else
    (some ((), m))
def X12_readThing_b18  (y1 : Int32) (m : Mem) : Option (Unit × Mem) :=
  if (gi m 0 11) = 0 then
    (bnd (X12_next  m) fun _ m_3 =>
    bnd (X12_eats 1 m_3) fun r_4 m_5 =>
    if r_4 = 0 then
      (X12_readThing_b49  y1 0 m_5)
    else
      (bnd (X12_takesOne 1 99 m_5) fun r_8 m_9 =>
      X12_readThing_b49  y1 r_8 m_9))
  else
    (some ((), m))
def X12_readThing  (m : Mem) : Option (Unit × Mem) :=
  chk (inb 1 2096) <|
  lt (gi m 4 (ix 1)) fun x_1 =>
  if x_1 = 14 then
    (bnd (X12_fails 4 m) fun _ m_11 =>
    X12_readThing_b18  x_1 m_11)
  else
    (X12_readThing_b18  x_1 m)
def X12_takesThings_b24 (k4 : Int32 → Int32 → Mem → Option (Int32 × Mem)) (y1 : Int32) (m : Mem) : Option (Int32 × Mem) :=
  chk (inb 1 2096) <|
  bnd (X12_takesOne 0 ((gi m 4 (ix 1)) - 1) m) fun r_1 m_2 =>
  if (gi m_2 0 11) = 0 then
    (lt (y1 ||| ((1 : Int32) <<< (r_1 &&& 31))) fun x_3 =>
    k4 x_3 1 m_2)
  else
    (k4 y1 1 m_2)
def X12_takesThings_b4  : Nat → Int32 → Int32 → Mem → Option (Int32 × Mem)
  | 0, _, _, _ => none
  | n + 1, y1, y2, m =>
    if (gi m 0 11) = 0 then
      (if y2 = 0 then
        (X12_takesThings_b24 (X12_takesThings_b4 n) y1 m)
      else
        (bnd (X12_is 23 m) fun r_4 m_5 =>
        if r_4 = 0 then
          (some (y1, m_5))
        else
          (X12_takesThings_b24 (X12_takesThings_b4 n) y1 m_5)))
    else
      (some (y1, m))
def X12_takesThings  (m : Mem) : Option (Int32 × Mem) :=
  X12_takesThings_b4  FU 0 0 m
def X12_readPerson_b117  : Nat → Int32 → Int32 → Int32 → Mem → Option (Unit × Mem)
  | 0, _, _, _, _ => none
  | n + 1, y1, y4, y5, m =>
    if 14 ≤ y5 then
      (chk (inb 2 2096) <|
      chk (inb 2 2096) <|
      lt (si m 4 (ix 2) ((gi m 4 (ix 2)) + 1)) fun m_14 =>
      some ((), m_14))
    else
      (bnd (X12_isIn (Int32.toInt64 y4) y5 m) fun r_15 m_16 =>
      if r_15 = 0 then
        (X12_readPerson_b117  n y1 y4 (y5 + 1) m_16)
      else
        (chk (inb ((41 + (14 * y1)) + y5) 2096) <|
        lt (si m_16 4 (ix ((41 + (14 * y1)) + y5)) 0) fun m_17 =>
        X12_readPerson_b117  n y1 y4 (y5 + 1) m_17))
def X12_readPerson_b84  (y1 : Int32) (y2 : Int32) (y3 : Int32) (z0 : Int32) (m : Mem) : Option (Unit × Mem) :=
  if (gi m 0 11) = 0 then
    (chk (inb (33 + y1) 2096) <|
    lt (si m 4 (ix (33 + y1)) y2) fun m_12 =>
    chk (inb (25 + y1) 2096) <|
    lt (si m_12 4 (ix (25 + y1)) y3) fun m_13 =>
    X12_readPerson_b117  FU y1 z0 0 m_13)
  else
    (some ((), m))
def X12_readPerson_b67  (y1 : Int32) (y2 : Int32) (z0 : Int32) (m : Mem) : Option (Unit × Mem) :=
  bnd (X12_eats 5 m) fun r_10 m_11 =>
  if r_10 = 0 then
    (X12_readPerson_b84  y1 y2 z0 0 m_11)
  else
    (bnd (X12_takesThings  m_11) fun r_18 m_19 =>
    X12_readPerson_b84  y1 y2 z0 r_18 m_19)
def X12_readPerson_b43  (y1 : Int32) (m : Mem) : Option (Unit × Mem) :=
  bnd (X12_takesOne 0 99 m) fun r_6 m_7 =>
  bnd (X12_eats 4 m_7) fun r_8 m_9 =>
  if r_8 = 0 then
    (X12_readPerson_b67  y1 r_6 0 m_9)
  else
    (bnd (X12_takesThings  m_9) fun r_20 m_21 =>
    X12_readPerson_b67  y1 r_6 r_20 m_21)
def X12_readPerson_b18  (y1 : Int32) (m : Mem) : Option (Unit × Mem) :=
  if (gi m 0 11) = 0 then
    (bnd (X12_next  m) fun _ m_3 =>
    bnd (X12_eats 3 m_3) fun r_4 m_5 =>
    if r_4 = 0 then
      (bnd (X12_fails 2 m_5) fun _ m_23 =>
      X12_readPerson_b43  y1 m_23)
    else
      (X12_readPerson_b43  y1 m_5))
  else
    (some ((), m))
def X12_readPerson  (m : Mem) : Option (Unit × Mem) :=
  chk (inb 2 2096) <|
  lt (gi m 4 (ix 2)) fun x_1 =>
  if x_1 = 8 then
    (bnd (X12_fails 4 m) fun _ m_25 =>
    X12_readPerson_b18  x_1 m_25)
  else
    (X12_readPerson_b18  x_1 m)
def X12_codes  (x1 : Int32) (m : Mem) : Option (Unit × Mem) :=
  if (gi m 0 11) = 0 then
    (chk (inb 1195 2096) <|
    chk (inb (1196 + (gi m 4 (ix 1195))) 2096) <|
    lt (si m 4 (ix (1196 + (gi m 4 (ix 1195)))) x1) fun m_1 =>
    chk (inb 1195 2096) <|
    chk (inb 1195 2096) <|
    lt (si m_1 4 (ix 1195) ((gi m_1 4 (ix 1195)) + 1)) fun m_2 =>
    some ((), m_2))
  else
    (some ((), m))
def X12_goesIn_b22  (m : Mem) : Option (Int32 × Mem) :=
  if (gi m 0 11) = 0 then
    (some (1, m))
  else
    (some (0, m))
def X12_goesIn_b11  (m : Mem) : Option (Int32 × Mem) :=
  if (gi m 0 11) = 0 then
    (bnd (X12_next  m) fun _ m_2 =>
    X12_goesIn_b22   m_2)
  else
    (X12_goesIn_b22   m)
def X12_goesIn  (x1 : Int32) (m : Mem) : Option (Int32 × Mem) :=
  if x1 = 6 then
    (bnd (X12_fails 4 m) fun _ m_4 =>
    X12_goesIn_b11   m_4)
  else
    (X12_goesIn_b11   m)
def X12_readTruth_b5 (f_X12_readBoth : Int32 → Mem → Option (Unit × Mem)) : Nat → Int32 → Mem → Option (Unit × Mem)
  | 0, _, _ => none
  | n + 1, y1, m =>
    bnd (X12_eats 10 m) fun r_3 m_4 =>
    if r_3 = 0 then
      (some ((), m_4))
    else
      (bnd (f_X12_readBoth y1 m_4) fun _ m_6 =>
      bnd (X12_codes 3007 m_6) fun _ m_8 =>
      X12_readTruth_b5 f_X12_readBoth n y1 m_8)
def X12_readTruth (f_X12_readBoth : Int32 → Mem → Option (Unit × Mem)) (x1 : Int32) (m : Mem) : Option (Unit × Mem) :=
  bnd (f_X12_readBoth x1 m) fun _ m_2 =>
  X12_readTruth_b5 f_X12_readBoth FU x1 m_2
def X12_readBoth_b5 (f_X12_readUnit : Int32 → Mem → Option (Unit × Mem)) : Nat → Int32 → Mem → Option (Unit × Mem)
  | 0, _, _ => none
  | n + 1, y1, m =>
    bnd (X12_eats 11 m) fun r_3 m_4 =>
    if r_3 = 0 then
      (some ((), m_4))
    else
      (bnd (f_X12_readUnit y1 m_4) fun _ m_6 =>
      bnd (X12_codes 3006 m_6) fun _ m_8 =>
      X12_readBoth_b5 f_X12_readUnit n y1 m_8)
def X12_readBoth (f_X12_readUnit : Int32 → Mem → Option (Unit × Mem)) (x1 : Int32) (m : Mem) : Option (Unit × Mem) :=
  bnd (f_X12_readUnit x1 m) fun _ m_2 =>
  X12_readBoth_b5 f_X12_readUnit FU x1 m_2
def X12_readUnit_b151 (f_X12_readTruth : Int32 → Mem → Option (Unit × Mem)) (f_X12_readUnit : Int32 → Mem → Option (Unit × Mem)) (f_X12_readSum : Int32 → Mem → Option (Unit × Mem)) (y1 : Int32) (y2 : Int32) (m : Mem) : Option (Unit × Mem) :=
  bnd (f_X12_readSum y1 m) fun _ m_16 =>
  bnd (X12_codes y2 m_16) fun _ m_18 =>
  some ((), m_18)
def X12_readUnit_b111 (f_X12_readTruth : Int32 → Mem → Option (Unit × Mem)) (f_X12_readUnit : Int32 → Mem → Option (Unit × Mem)) (f_X12_readSum : Int32 → Mem → Option (Unit × Mem)) (y1 : Int32) (z0 : Int32) (m : Mem) : Option (Unit × Mem) :=
  bnd (X12_is 39 m) fun r_11 m_12 =>
  if r_11 = 0 then
    (bnd (X12_is 40 m_12) fun r_19 m_20 =>
    if r_19 = 0 then
      (bnd (X12_is 41 m_20) fun r_23 m_24 =>
      if r_23 = 0 then
        (bnd (X12_fails 2 m_24) fun _ m_26 =>
        X12_readUnit_b151 f_X12_readTruth f_X12_readUnit f_X12_readSum y1 z0 m_26)
      else
        (bnd (X12_next  m_24) fun _ m_28 =>
        X12_readUnit_b151 f_X12_readTruth f_X12_readUnit f_X12_readSum y1 z0 m_28))
    else
      (bnd (X12_next  m_20) fun _ m_22 =>
      X12_readUnit_b151 f_X12_readTruth f_X12_readUnit f_X12_readSum y1 z0 m_22))
  else
    (bnd (X12_next  m_12) fun _ m_14 =>
    X12_readUnit_b151 f_X12_readTruth f_X12_readUnit f_X12_readSum y1 z0 m_14)
def X12_readUnit (f_X12_readTruth : Int32 → Mem → Option (Unit × Mem)) (f_X12_readUnit : Int32 → Mem → Option (Unit × Mem)) (f_X12_readSum : Int32 → Mem → Option (Unit × Mem)) (x1 : Int32) (m : Mem) : Option (Unit × Mem) :=
  bnd (X12_is 12 m) fun r_1 m_2 =>
  if r_1 = 0 then
    (bnd (X12_is 37 m_2) fun r_3 m_4 =>
    if r_3 = 0 then
      (bnd (f_X12_readSum x1 m_4) fun _ m_6 =>
      bnd (X12_is 39 m_6) fun r_7 m_8 =>
      if r_7 = 0 then
        (bnd (X12_is 40 m_8) fun r_9 m_10 =>
        if r_9 = 0 then
          (X12_readUnit_b111 f_X12_readTruth f_X12_readUnit f_X12_readSum x1 3005 m_10)
        else
          (X12_readUnit_b111 f_X12_readTruth f_X12_readUnit f_X12_readSum x1 3004 m_10))
      else
        (X12_readUnit_b111 f_X12_readTruth f_X12_readUnit f_X12_readSum x1 3003 m_8))
    else
      (bnd (X12_goesIn x1 m_4) fun r_29 m_30 =>
      if r_29 = 0 then
        (some ((), m_30))
      else
        (bnd (f_X12_readTruth (x1 + 1) m_30) fun _ m_32 =>
        bnd (X12_eats 38 m_32) fun r_33 m_34 =>
        if r_33 = 0 then
          (bnd (X12_fails 2 m_34) fun _ m_36 =>
          some ((), m_36))
        else
          (some ((), m_34)))))
  else
    (bnd (X12_goesIn x1 m_2) fun r_37 m_38 =>
    if r_37 = 0 then
      (some ((), m_38))
    else
      (bnd (f_X12_readUnit (x1 + 1) m_38) fun _ m_40 =>
      bnd (X12_codes 3008 m_40) fun _ m_42 =>
      some ((), m_42)))
def X12_readSum_b41 (f_X12_readTerm : Int32 → Mem → Option (Unit × Mem)) (k5 : Int32 → Mem → Option (Unit × Mem)) (y1 : Int32) (z0 : Int32) (m : Mem) : Option (Unit × Mem) :=
  bnd (X12_next  m) fun _ m_6 =>
  bnd (f_X12_readTerm y1 m_6) fun _ m_8 =>
  bnd (X12_codes z0 m_8) fun _ m_10 =>
  k5 y1 m_10
def X12_readSum_b23 (f_X12_readTerm : Int32 → Mem → Option (Unit × Mem)) (k5 : Int32 → Mem → Option (Unit × Mem)) (y1 : Int32) (m : Mem) : Option (Unit × Mem) :=
  if (gi m 0 9) = 32 then
    (X12_readSum_b41 f_X12_readTerm k5 y1 3000 m)
  else
    (X12_readSum_b41 f_X12_readTerm k5 y1 3001 m)
def X12_readSum_b5 (f_X12_readTerm : Int32 → Mem → Option (Unit × Mem)) : Nat → Int32 → Mem → Option (Unit × Mem)
  | 0, _, _ => none
  | n + 1, y1, m =>
    bnd (X12_is 32 m) fun r_3 m_4 =>
    if r_3 = 0 then
      (bnd (X12_is 33 m_4) fun r_11 m_12 =>
      if r_11 = 0 then
        (some ((), m_12))
      else
        (X12_readSum_b23 f_X12_readTerm (X12_readSum_b5 f_X12_readTerm n) y1 m_12))
    else
      (X12_readSum_b23 f_X12_readTerm (X12_readSum_b5 f_X12_readTerm n) y1 m_4)
def X12_readSum (f_X12_readTerm : Int32 → Mem → Option (Unit × Mem)) (x1 : Int32) (m : Mem) : Option (Unit × Mem) :=
  bnd (f_X12_readTerm x1 m) fun _ m_2 =>
  X12_readSum_b5 f_X12_readTerm FU x1 m_2
def X12_readTerm_b5 (f_X12_readAtom : Int32 → Mem → Option (Unit × Mem)) : Nat → Int32 → Mem → Option (Unit × Mem)
  | 0, _, _ => none
  | n + 1, y1, m =>
    bnd (X12_eats 34 m) fun r_3 m_4 =>
    if r_3 = 0 then
      (some ((), m_4))
    else
      (bnd (f_X12_readAtom y1 m_4) fun _ m_6 =>
      bnd (X12_codes 3002 m_6) fun _ m_8 =>
      X12_readTerm_b5 f_X12_readAtom n y1 m_8)
def X12_readTerm (f_X12_readAtom : Int32 → Mem → Option (Unit × Mem)) (x1 : Int32) (m : Mem) : Option (Unit × Mem) :=
  bnd (f_X12_readAtom x1 m) fun _ m_2 =>
  X12_readTerm_b5 f_X12_readAtom FU x1 m_2
def X12_readAtom_b70 (f_X12_readSum : Int32 → Mem → Option (Unit × Mem)) (y1 : Int32) (m : Mem) : Option (Unit × Mem) :=
  bnd (X12_is 35 m) fun r_3 m_4 =>
  if r_3 = 0 then
    (bnd (X12_fails 2 m_4) fun _ m_6 =>
    some ((), m_6))
  else
    (bnd (X12_goesIn y1 m_4) fun r_7 m_8 =>
    if r_7 = 0 then
      (some ((), m_8))
    else
      (bnd (f_X12_readSum (y1 + 1) m_8) fun _ m_10 =>
      bnd (X12_eats 36 m_10) fun r_11 m_12 =>
      if r_11 = 0 then
        (bnd (X12_fails 2 m_12) fun _ m_14 =>
        some ((), m_14))
      else
        (some ((), m_12))))
def X12_readAtom (f_X12_readSum : Int32 → Mem → Option (Unit × Mem)) (x1 : Int32) (m : Mem) : Option (Unit × Mem) :=
  bnd (X12_is 23 m) fun r_1 m_2 =>
  if r_1 = 0 then
    (if (gi m_2 0 11) = 0 then
      (bnd (X12_within (Int32.toInt64 (gi m_2 0 9)) 13 19 m_2) fun r_15 m_16 =>
      if r_15 = 0 then
        (X12_readAtom_b70 f_X12_readSum x1 m_16)
      else
        (bnd (X12_codes ((1000 + (gi m_16 0 9)) - 13) m_16) fun _ m_18 =>
        bnd (X12_next  m_18) fun _ m_20 =>
        some ((), m_20)))
    else
      (X12_readAtom_b70 f_X12_readSum x1 m_2))
  else
    (bnd (X12_codes (gi m_2 0 10) m_2) fun _ m_22 =>
    bnd (X12_next  m_22) fun _ m_24 =>
    some ((), m_24))
def g_X12_readTruth : Nat → (Int32 → Mem → Option (Unit × Mem)) × (Int32 → Mem → Option (Unit × Mem)) × (Int32 → Mem → Option (Unit × Mem)) × (Int32 → Mem → Option (Unit × Mem)) × (Int32 → Mem → Option (Unit × Mem)) × (Int32 → Mem → Option (Unit × Mem))
  | 0 => ((fun _ _ => none), (fun _ _ => none), (fun _ _ => none), (fun _ _ => none), (fun _ _ => none), (fun _ _ => none))
  | d + 1 => ((fun x1 m => X12_readTruth (g_X12_readTruth d).2.1 x1 m), (fun x1 m => X12_readBoth (g_X12_readTruth d).2.2.1 x1 m), (fun x1 m => X12_readUnit (g_X12_readTruth d).1 (g_X12_readTruth d).2.2.1 (g_X12_readTruth d).2.2.2.1 x1 m), (fun x1 m => X12_readSum (g_X12_readTruth d).2.2.2.2.1 x1 m), (fun x1 m => X12_readTerm (g_X12_readTruth d).2.2.2.2.2 x1 m), (fun x1 m => X12_readAtom (g_X12_readTruth d).2.2.2.1 x1 m))
def X12_readTruth_top (x1 : Int32) (m : Mem) : Option (Unit × Mem) := (g_X12_readTruth 64).1 x1 m
def X12_readBoth_top (x1 : Int32) (m : Mem) : Option (Unit × Mem) := (g_X12_readTruth 64).2.1 x1 m
def X12_readUnit_top (x1 : Int32) (m : Mem) : Option (Unit × Mem) := (g_X12_readTruth 64).2.2.1 x1 m
def X12_readSum_top (x1 : Int32) (m : Mem) : Option (Unit × Mem) := (g_X12_readTruth 64).2.2.2.1 x1 m
def X12_readTerm_top (x1 : Int32) (m : Mem) : Option (Unit × Mem) := (g_X12_readTruth 64).2.2.2.2.1 x1 m
def X12_readAtom_top (x1 : Int32) (m : Mem) : Option (Unit × Mem) := (g_X12_readTruth 64).2.2.2.2.2 x1 m
def X12_readLaw_b44  (y1 : Int32) (y2 : Int32) (m : Mem) : Option (Unit × Mem) :=
  if (gi m 0 11) = 0 then
    (chk (inb (5 + y1) 2096) <|
    lt (si m 4 (ix (5 + y1)) 1) fun m_8 =>
    chk (inb (7 + y1) 2096) <|
    lt (si m_8 4 (ix (7 + y1)) y2) fun m_9 =>
    chk (inb 1195 2096) <|
    chk (inb (9 + y1) 2096) <|
    lt (si m_9 4 (ix (9 + y1)) ((gi m_9 4 (ix 1195)) - y2)) fun m_10 =>
    some ((), m_10))
  else
    (some ((), m))
def X12_readLaw_b18  (y1 : Int32) (m : Mem) : Option (Unit × Mem) :=
  chk (inb 1195 2096) <|
  lt (gi m 4 (ix 1195)) fun x_5 =>
  if y1 = 0 then
    (bnd (X12_readSum_top 0 m) fun _ m_12 =>
    X12_readLaw_b44  y1 x_5 m_12)
  else
    (bnd (X12_readTruth_top 0 m) fun _ m_7 =>
    X12_readLaw_b44  y1 x_5 m_7)
def X12_readLaw  (x1 : Int32) (m : Mem) : Option (Unit × Mem) :=
  bnd (X12_next  m) fun _ m_2 =>
  bnd (X12_eats 31 m_2) fun r_3 m_4 =>
  if r_3 = 0 then
    (bnd (X12_fails 2 m_4) fun _ m_14 =>
    X12_readLaw_b18  x1 m_14)
  else
    (X12_readLaw_b18  x1 m_4)
def X12_readLine_b48  (m : Mem) : Option (Unit × Mem) :=
  bnd (X12_readLaw ((gi m 0 9) - 6) m) fun _ m_8 =>
  some ((), m_8)
def X12_readLine  (m : Mem) : Option (Unit × Mem) :=
  bnd (X12_is 0 m) fun r_1 m_2 =>
  if r_1 = 0 then
    (bnd (X12_is 2 m_2) fun r_3 m_4 =>
    if r_3 = 0 then
      (bnd (X12_is 6 m_4) fun r_5 m_6 =>
      if r_5 = 0 then
        (bnd (X12_is 7 m_6) fun r_9 m_10 =>
        if r_9 = 0 then
          (bnd (X12_eats 8 m_10) fun r_11 m_12 =>
          if r_11 = 0 then
            (bnd (X12_eats 9 m_12) fun r_13 m_14 =>
            if r_13 = 0 then
              (bnd (X12_fails 2 m_14) fun _ m_16 =>
              some ((), m_16))
            else
              (bnd (X12_takesOne 1 14 m_14) fun r_17 m_18 =>
              chk (inb 4 2096) <|
              lt (si m_18 4 (ix 4) r_17) fun m_19 =>
              some ((), m_19)))
          else
            (bnd (X12_takesOne 0 999 m_12) fun r_20 m_21 =>
            chk (inb 3 2096) <|
            lt (si m_21 4 (ix 3) r_20) fun m_22 =>
            some ((), m_22)))
        else
          (X12_readLine_b48   m_10))
      else
        (X12_readLine_b48   m_6))
    else
      (bnd (X12_readPerson  m_4) fun _ m_24 =>
      some ((), m_24)))
  else
    (bnd (X12_readThing  m_2) fun _ m_26 =>
    some ((), m_26))
def X12_bureau_b144  : Nat → Int32 → Mem → Option (Int32 × Mem)
  | 0, _, _ => none
  | n + 1, y2, m =>
    if 2096 ≤ y2 then
      (chk (inb 0 6288) <|
      some ((gi m 1 (ix 0)), m))
    else
      (chk (inb y2 2096) <|
      chk (inb y2 6288) <|
      lt (si m 1 (ix y2) (gi m 4 (ix y2))) fun m_14 =>
      X12_bureau_b144  n (y2 + 1) m_14)
def X12_bureau_b124  (z0 : Int32) (m : Mem) : Option (Int32 × Mem) :=
  lt (si m 0 14 z0) fun m_13 =>
  if (gi m_13 0 11) = 0 then
    (X12_bureau_b144  FU 0 m_13)
  else
    (some (((-30) - (gi m_13 0 11)), m_13))
def X12_bureau_b100  (m : Mem) : Option (Int32 × Mem) :=
  lt (si m 0 13 (gi m 0 11)) fun m_12 =>
  if (gi m_12 0 11) = 0 then
    (X12_bureau_b124  (-1) m_12)
  else
    (X12_bureau_b124  (gi m_12 0 12) m_12)
def X12_bureau_b87 (k53 : Mem → Option (Int32 × Mem)) (m : Mem) : Option (Int32 × Mem) :=
  chk (inb 0 2096) <|
  chk (inb 0 2096) <|
  lt (si m 4 (ix 0) ((gi m 4 (ix 0)) + 1)) fun m_19 =>
  k53  m_19
def X12_bureau_b53  : Nat → Mem → Option (Int32 × Mem)
  | 0, _ => none
  | n + 1, m =>
    if (gi m 0 11) = 0 then
      (if (gi m 0 9) = 24 then
        (X12_bureau_b100   m)
      else
        (bnd (X12_readLine  m) fun _ m_16 =>
        bnd (X12_eats 30 m_16) fun r_17 m_18 =>
        if r_17 = 0 then
          (bnd (X12_fails 2 m_18) fun _ m_21 =>
          X12_bureau_b87 (X12_bureau_b53 n)  m_21)
        else
          (X12_bureau_b87 (X12_bureau_b53 n)  m_18)))
    else
      (X12_bureau_b100   m)
def X12_bureau  (x1 : Int32) (m : Mem) : Option (Int32 × Mem) :=
  lt (si m 0 0 0) fun m_1 =>
  bnd (X12_within (Int32.toInt64 x1) 0 (Int32.toInt64 (gi m_1 0 5)) m_1) fun r_2 m_3 =>
  if r_2 = 0 then
    (some ((-3), m_3))
  else
    (lt (si m_3 0 8 x1) fun m_4 =>
    lt (si m_4 0 5 0) fun m_5 =>
    lt (si m_5 0 7 0) fun m_6 =>
    lt (si m_6 0 11 0) fun m_7 =>
    bnd (X12_plain 2096 4 m_7) fun _ m_9 =>
    bnd (X12_next  m_9) fun _ m_11 =>
    X12_bureau_b53  FU  m_11)
def X12_isThing  (x1 : Int64) (m : Mem) : Option (Int32 × Mem) :=
  chk (inb 1 6288) <|
  bnd (X12_within x1 0 (Int32.toInt64 ((gi m 1 (ix 1)) - 1)) m) fun r_1 m_2 =>
  chk (decide (r_1 = 0 ∨ r_1 = 1)) (some (r_1, m_2))
def X12_byWhen_b68 (k35 : Int32 → Int32 → Int32 → Int32 → Mem → Option (Int32 × Mem)) (y1 : Int32) (y2 : Int32) (y3 : Int32) (y4 : Int32) (m : Mem) : Option (Int32 × Mem) :=
  bnd (X12_year (-1) (-1) m) fun r_12 m_13 =>
  k35 y1 y2 y3 (y4 + 1) m_13
def X12_byWhen_b35  : Nat → Int32 → Int32 → Int32 → Int32 → Mem → Option (Int32 × Mem)
  | 0, _, _, _, _, _ => none
  | n + 1, y1, y2, y3, y4, m =>
    if 60 < y4 then
      (bnd (X12_isAhead  m) fun _ m_9 =>
      some (y3, m_9))
    else
      (if y3 = (-1) then
        (chk (inb ((41 + (14 * y1)) + y2) 6288) <|
        if (gi m 1 (ix ((41 + (14 * y1)) + y2))) = (-1) then
          (X12_byWhen_b68 (X12_byWhen_b35 n) y1 y2 y3 y4 m)
        else
          (X12_byWhen_b68 (X12_byWhen_b35 n) y1 y2 y4 y4 m))
      else
        (bnd (X12_isAhead  m) fun _ m_11 =>
        some (y3, m_11)))
def X12_byWhen  (x1 : Int32) (x2 : Int32) (m : Mem) : Option (Int32 × Mem) :=
  lt (si m 0 0 0) fun m_1 =>
  bnd (X12_isPerson (Int32.toInt64 x1) m_1) fun r_2 m_3 =>
  if r_2 = 0 then
    (some ((-2), m_3))
  else
    (bnd (X12_isThing (Int32.toInt64 x2) m_3) fun r_4 m_5 =>
    if r_4 = 0 then
      (some ((-2), m_5))
    else
      (bnd (X12_keepsAhead  m_5) fun _ m_7 =>
      X12_byWhen_b35  FU x1 x2 (-1) 0 m_7))
def X12_child_b37  : Nat → Int32 → Int32 → Int32 → Mem → Option (Int32 × Mem)
  | 0, _, _, _, _ => none
  | n + 1, y3, y4, y5, m =>
    chk (inb 1 6288) <|
    if (gi m 1 (ix 1)) ≤ y5 then
      (if y4 = (-1) then
        (some (0, m))
      else
        (some ((y3 &&& (((1 : Int32) <<< (y4 &&& 31)) ^^^ (-1))), m)))
    else
      (bnd (X12_isIn (Int32.toInt64 y3) y5 m) fun r_9 m_10 =>
      if r_9 = 0 then
        (X12_child_b37  n y3 y4 (y5 + 1) m_10)
      else
        (if y4 = (-1) then
          (X12_child_b37  n y3 y5 (y5 + 1) m_10)
        else
          (bnd (X12_rareOf y5 m_10) fun r_11 m_12 =>
          bnd (X12_rareOf y4 m_12) fun r_13 m_14 =>
          if r_13 < r_11 then
            (X12_child_b37  n y3 y4 (y5 + 1) m_14)
          else
            (X12_child_b37  n y3 y5 (y5 + 1) m_14))))
def X12_child  (x1 : Int32) (x2 : Int32) (m : Mem) : Option (Int32 × Mem) :=
  lt (si m 0 0 0) fun m_1 =>
  bnd (X12_areTwo (Int32.toInt64 x1) (Int32.toInt64 x2) m_1) fun r_2 m_3 =>
  if r_2 = 0 then
    (some ((-2), m_3))
  else
    (bnd (X12_listOf x1 m_3) fun r_4 m_5 =>
    bnd (X12_listOf x2 m_5) fun r_6 m_7 =>
    lt (r_4 ||| r_6) fun x_8 =>
    X12_child_b37  FU x_8 (-1) 0 m_7)
def X12_keeps_b2  : Nat → Int32 → Mem → Option (Unit × Mem)
  | 0, _, _ => none
  | n + 1, y1, m =>
    if 129 ≤ y1 then
      (some ((), m))
    else
      (chk (inb (33 + y1) 6288) <|
      chk (inb y1 129) <|
      lt (si m 7 (ix y1) (gi m 1 (ix (33 + y1)))) fun m_1 =>
      X12_keeps_b2  n (y1 + 1) m_1)
def X12_keeps  (m : Mem) : Option (Unit × Mem) :=
  X12_keeps_b2  FU 0 m
def X12_parts  (x1 : Int32) (m : Mem) : Option (Unit × Mem) :=
  chk (inb (153 + x1) 6288) <|
  chk (inb (153 + (gi m 1 (ix (153 + x1)))) 6288) <|
  lt (si m 1 (ix (153 + (gi m 1 (ix (153 + x1))))) (-1)) fun m_1 =>
  chk (inb (153 + x1) 6288) <|
  lt (si m_1 1 (ix (153 + x1)) (-1)) fun m_2 =>
  some ((), m_2)
def X12_weds  (x1 : Int32) (x2 : Int32) (m : Mem) : Option (Unit × Mem) :=
  chk (inb (153 + x1) 6288) <|
  lt (si m 1 (ix (153 + x1)) x2) fun m_1 =>
  chk (inb (153 + x2) 6288) <|
  lt (si m_1 1 (ix (153 + x2)) x1) fun m_2 =>
  some ((), m_2)
def X12_does_b38  : Nat → Int32 → Int32 → Int32 → Mem → Option (Unit × Mem)
  | 0, _, _, _, _ => none
  | n + 1, y2, y3, y4, m =>
    if 14 ≤ y4 then
      (some ((), m))
    else
      (chk (inb ((41 + (14 * y3)) + y4) 6288) <|
      chk (inb ((41 + (14 * y2)) + y4) 6288) <|
      lt (si m 1 (ix ((41 + (14 * y2)) + y4)) (gi m 1 (ix ((41 + (14 * y3)) + y4)))) fun m_9 =>
      X12_does_b38  n y2 y3 (y4 + 1) m_9)
def X12_does  (x1 : Int32) (m : Mem) : Option (Unit × Mem) :=
  lt ((x1 / 100) - (x1 / 100) / 10 * 10) fun x_1 =>
  lt (x1 - x1 / 100 * 100) fun x_2 =>
  if x1 = (-1) then
    (bnd (X12_year (-1) (-1) m) fun r_10 m_11 =>
    some ((), m_11))
  else
    (if x1 < 2000 then
      (if x1 < 1000 then
        (chk (inb (153 + x_1) 6288) <|
        if (gi m 1 (ix (153 + x_1))) = x_2 then
          (bnd (X12_parts x_1 m) fun _ m_6 =>
          some ((), m_6))
        else
          (bnd (X12_weds x_1 x_2 m) fun _ m_4 =>
          some ((), m_4)))
      else
        (chk (inb ((41 + (14 * x_1)) + x_2) 6288) <|
        if (gi m 1 (ix ((41 + (14 * x_1)) + x_2))) = (-1) then
          (chk (inb ((41 + (14 * x_1)) + x_2) 6288) <|
          lt (si m 1 (ix ((41 + (14 * x_1)) + x_2)) 0) fun m_8 =>
          some ((), m_8))
        else
          (chk (inb ((41 + (14 * x_1)) + x_2) 6288) <|
          lt (si m 1 (ix ((41 + (14 * x_1)) + x_2)) (-1)) fun m_7 =>
          some ((), m_7))))
    else
      (X12_does_b38  FU x_1 x_2 0 m))
def X12_notes_b62  : Nat → Int32 → Mem → Option (Unit × Mem)
  | 0, _, _ => none
  | n + 1, y1, m =>
    if 129 ≤ y1 then
      (chk (inb 162 6288) <|
      chk (inb 162 6288) <|
      lt (si m 1 (ix 162) ((gi m 1 (ix 162)) + 1)) fun m_1 =>
      some ((), m_1))
    else
      (chk (inb 162 6288) <|
      chk (inb y1 129) <|
      chk (inb ((163 + (129 * (gi m 1 (ix 162)))) + y1) 6288) <|
      lt (si m 1 (ix ((163 + (129 * (gi m 1 (ix 162)))) + y1)) (gi m 7 (ix y1))) fun m_2 =>
      X12_notes_b62  n (y1 + 1) m_2)
def X12_notes_b15  : Nat → Int32 → Mem → Option (Unit × Mem)
  | 0, _, _ => none
  | n + 1, y1, m =>
    if 903 ≤ y1 then
      (chk (inb 162 6288) <|
      chk (inb 162 6288) <|
      lt (si m 1 (ix 162) ((gi m 1 (ix 162)) - 1)) fun m_3 =>
      X12_notes_b62  FU 0 m_3)
    else
      (chk (inb (292 + y1) 6288) <|
      chk (inb (163 + y1) 6288) <|
      lt (si m 1 (ix (163 + y1)) (gi m 1 (ix (292 + y1)))) fun m_4 =>
      X12_notes_b15  n (y1 + 1) m_4)
def X12_notes  (m : Mem) : Option (Unit × Mem) :=
  chk (inb 162 6288) <|
  if (gi m 1 (ix 162)) = 8 then
    (X12_notes_b15  FU 0 m)
  else
    (X12_notes_b62  FU 0 m)
def X12_copies  (x1 : Int32) (x2 : Int32) (m : Mem) : Option (Int32 × Mem) :=
  lt (si m 0 0 0) fun m_1 =>
  bnd (X12_areTwo (Int32.toInt64 x1) (Int32.toInt64 x2) m_1) fun r_2 m_3 =>
  if r_2 = 0 then
    (some ((-11), m_3))
  else
    (bnd (X12_keeps  m_3) fun _ m_5 =>
    bnd (X12_does ((2000 + (100 * x1)) + x2) m_5) fun _ m_7 =>
    bnd (X12_notes  m_7) fun _ m_9 =>
    bnd (X12_listOf x1 m_9) fun r_10 m_11 =>
    bnd (X12_bitsOf r_10 m_11) fun r_12 m_13 =>
    some (r_12, m_13))
def X12_wedMany_b4  : Nat → Int32 → Int32 → Mem → Option (Int32 × Mem)
  | 0, _, _, _ => none
  | n + 1, y1, y2, m =>
    chk (inb 2 6288) <|
    if (gi m 1 (ix 2)) ≤ y2 then
      (some (y1, m))
    else
      (chk (inb (153 + y2) 6288) <|
      if (gi m 1 (ix (153 + y2))) ≤ y2 then
        (lt (y1 + 0) fun x_1 =>
        X12_wedMany_b4  n x_1 (y2 + 1) m)
      else
        (lt (y1 + 1) fun x_2 =>
        X12_wedMany_b4  n x_2 (y2 + 1) m))
def X12_wedMany  (m : Mem) : Option (Int32 × Mem) :=
  X12_wedMany_b4  FU 0 0 m
def X12_listedMany_b4  : Nat → Int32 → Int32 → Mem → Option (Int32 × Mem)
  | 0, _, _, _ => none
  | n + 1, y1, y2, m =>
    chk (inb 2 6288) <|
    if (gi m 1 (ix 2)) ≤ y2 then
      (some (y1, m))
    else
      (bnd (X12_listOf y2 m) fun r_1 m_2 =>
      bnd (X12_bitsOf r_1 m_2) fun r_3 m_4 =>
      lt (y1 + r_3) fun x_5 =>
      X12_listedMany_b4  n x_5 (y2 + 1) m_4)
def X12_listedMany  (m : Mem) : Option (Int32 × Mem) :=
  X12_listedMany_b4  FU 0 0 m
def X12_count  (x1 : Int32) (m : Mem) : Option (Int32 × Mem) :=
  lt (si m 0 0 0) fun m_1 =>
  if x1 = 0 then
    (chk (inb 1 6288) <|
    some ((gi m_1 1 (ix 1)), m_1))
  else if x1 = 1 then
    (chk (inb 2 6288) <|
    some ((gi m_1 1 (ix 2)), m_1))
  else if x1 = 2 then
    (chk (inb 161 6288) <|
    some ((gi m_1 1 (ix 161)), m_1))
  else if x1 = 3 then
    (bnd (X12_wedMany  m_1) fun r_5 m_6 =>
    some (r_5, m_6))
  else if x1 = 4 then
    (chk (inb 3 6288) <|
    some ((gi m_1 1 (ix 3)), m_1))
  else if x1 = 5 then
    (chk (inb 4 6288) <|
    some ((gi m_1 1 (ix 4)), m_1))
  else if x1 = 6 then
    (chk (inb 162 6288) <|
    some ((gi m_1 1 (ix 162)), m_1))
  else if x1 = 7 then
    (some ((gi m_1 0 5), m_1))
  else if x1 = 8 then
    (chk (inb 0 6288) <|
    some ((gi m_1 1 (ix 0)), m_1))
  else if x1 = 9 then
    (bnd (X12_listedMany  m_1) fun r_13 m_14 =>
    some (r_13, m_14))
  else (
    some ((-1), m_1))
def X12_cut  (x1 : Int64) (x2 : Int32) (m : Mem) : Option (Int64 × Mem) :=
  if x2 = 0 then
    (some ((Int32.toInt64 (((Int64.toInt32 x1) : Int32).toInt8.toInt32)), m))
  else
    (if x2 = 1 then
      (some ((Int32.toInt64 (((Int64.toInt32 x1) : Int32).toInt16.toInt32)), m))
    else
      (if x2 = 2 then
        (some ((Int32.toInt64 (Int64.toInt32 x1)), m))
      else
        (some (x1, m))))
def X12_dearest_b27  : Nat → Int32 → Int32 → Int32 → Mem → Option (Int32 × Mem)
  | 0, _, _, _, _ => none
  | n + 1, y1, y2, y3, m =>
    chk (inb 2 6288) <|
    if (gi m 1 (ix 2)) ≤ y3 then
      (some (y2, m))
    else
      (if y3 = y1 then
        (X12_dearest_b27  n y1 y2 (y3 + 1) m)
      else
        (chk (inb ((8 * y1) + y3) 64) <|
        if (gi m 12 (ix ((8 * y1) + y3))) = 0 then
          (X12_dearest_b27  n y1 y2 (y3 + 1) m)
        else
          (if y2 = (-1) then
            (X12_dearest_b27  n y1 y3 (y3 + 1) m)
          else
            (chk (inb ((8 * y1) + y3) 64) <|
            chk (inb ((8 * y1) + y2) 64) <|
            if (gi m 9 (ix ((8 * y1) + y3))) ≤ (gi m 9 (ix ((8 * y1) + y2))) then
              (X12_dearest_b27  n y1 y2 (y3 + 1) m)
            else
              (X12_dearest_b27  n y1 y3 (y3 + 1) m)))))
def X12_dearest  (x1 : Int32) (m : Mem) : Option (Int32 × Mem) :=
  lt (si m 0 0 0) fun m_1 =>
  bnd (X12_isPerson (Int32.toInt64 x1) m_1) fun r_2 m_3 =>
  if r_2 = 0 then
    (some ((-2), m_3))
  else
    (bnd (X12_laysPairs 0 0 m_3) fun _ m_5 =>
    X12_dearest_b27  FU x1 (-1) 0 m_5)
def X12_draw  (x1 : Int32) (m : Mem) : Option (Int32 × Mem) :=
  lt (si m 0 20 ((1103515245 * (gi m 0 20)) + 12345)) fun m_1 =>
  chk (decide (¬ x1 = 0)) <|
  some ((((((gi m_1 0 20) : Int32).toUInt32 >>> ((16 : Int32).toUInt32 &&& Int32.toUInt32 31)).toInt32) - ((((gi m_1 0 20) : Int32).toUInt32 >>> ((16 : Int32).toUInt32 &&& Int32.toUInt32 31)).toInt32) / x1 * x1), m_1)
def X12_drawn_b44  (y1 : Int32) (y2 : Int32) (z0 : Int32) (m : Mem) : Option (Int32 × Mem) :=
  bnd (X12_draw z0 m) fun r_5 m_6 =>
  some (((((y1 - 1) * 1000) + (100 * y2)) + r_5), m_6)
def X12_drawn  (m : Mem) : Option (Int32 × Mem) :=
  bnd (X12_draw 4 m) fun r_1 m_2 =>
  if r_1 = 0 then
    (some ((-1), m_2))
  else
    (chk (inb 2 6288) <|
    bnd (X12_draw (gi m_2 1 (ix 2)) m_2) fun r_3 m_4 =>
    if r_1 = 2 then
      (chk (inb 1 6288) <|
      X12_drawn_b44  r_1 r_3 (gi m_4 1 (ix 1)) m_4)
    else
      (chk (inb 2 6288) <|
      X12_drawn_b44  r_1 r_3 (gi m_4 1 (ix 2)) m_4))
def X12_fault  (x1 : Int32) (m : Mem) : Option (Int32 × Mem) :=
  lt (si m 0 0 0) fun m_1 =>
  if x1 = 0 then
    (some ((gi m_1 0 13), m_1))
  else
    (if x1 = 1 then
      (some ((gi m_1 0 14), m_1))
    else
      (some ((-1), m_1)))
def X12_feed_b77 (k24 : Int32 → Int32 → Int32 → Int32 → Int32 → Int32 → Mem → Option (Int32 × Mem)) (y1 : Int32) (y2 : Int32) (y3 : Int32) (y4 : Int32) (y5 : Int32) (y6 : Int32) (z0 : Int32) (m : Mem) : Option (Int32 × Mem) :=
  chk (inb (gi m 0 5) 900) <|
  lt (si m 3 (ix (gi m 0 5)) ((z0 >>> ((24 - (8 * (y6 - y6 / 4 * 4))) &&& 31)) &&& 255)) fun m_2 =>
  lt (si m_2 0 5 ((gi m_2 0 5) + 1)) fun m_3 =>
  k24 y1 y2 y3 y4 y5 (y6 + 1) m_3
def X12_feed_b24  : Nat → Int32 → Int32 → Int32 → Int32 → Int32 → Int32 → Mem → Option (Int32 × Mem)
  | 0, _, _, _, _, _, _, _ => none
  | n + 1, y1, y2, y3, y4, y5, y6, m =>
    if 20 ≤ y6 then
      (some ((gi m 0 5), m))
    else
      (if 4 ≤ y6 then
        (if 8 ≤ y6 then
          (if 12 ≤ y6 then
            (if 16 ≤ y6 then
              (X12_feed_b77 (X12_feed_b24 n) y1 y2 y3 y4 y5 y6 y5 m)
            else
              (X12_feed_b77 (X12_feed_b24 n) y1 y2 y3 y4 y5 y6 y4 m))
          else
            (X12_feed_b77 (X12_feed_b24 n) y1 y2 y3 y4 y5 y6 y3 m))
        else
          (X12_feed_b77 (X12_feed_b24 n) y1 y2 y3 y4 y5 y6 y2 m))
      else
        (X12_feed_b77 (X12_feed_b24 n) y1 y2 y3 y4 y5 y6 y1 m))
def X12_feed  (x1 : Int32) (x2 : Int32) (x3 : Int32) (x4 : Int32) (x5 : Int32) (m : Mem) : Option (Int32 × Mem) :=
  lt (si m 0 0 0) fun m_1 =>
  if ((gi m_1 0 5) + 20) ≤ 900 then
    (X12_feed_b24  FU x1 x2 x3 x4 x5 0 m_1)
  else
    (some ((-5), m_1))
def X12_fib_b92 (k46 : Int32 → Int32 → Int32 → Int32 → Int32 → Int32 → Mem → Option (Int32 × Mem)) : Nat → Int32 → Int32 → Int32 → Int32 → Int32 → Int32 → Int32 → Mem → Option (Int32 × Mem)
  | 0, _, _, _, _, _, _, _, _ => none
  | n + 1, y1, y2, y3, y4, y5, y6, y7, m =>
    chk (inb 1 6288) <|
    if (gi m 1 (ix 1)) ≤ y7 then
      (bnd (X12_goodOf y1 y2 m) fun r_12 m_13 =>
      chk (inb 3 6288) <|
      if r_12 < (gi m_13 1 (ix 3)) then
        (bnd (X12_isAhead  m_13) fun _ m_15 =>
        k46 y1 y2 y3 y4 y5 (y6 + 1) m_15)
      else
        (bnd (X12_isAhead  m_13) fun _ m_17 =>
        k46 y1 y2 y3 y4 y6 (y6 + 1) m_17))
    else
      (bnd (X12_isIn (Int32.toInt64 y6) y7 m) fun r_18 m_19 =>
      if r_18 = 0 then
        (X12_fib_b92 k46 n y1 y2 y3 y4 y5 y6 (y7 + 1) m_19)
      else
        (chk (inb ((41 + (14 * y1)) + y7) 6288) <|
        lt (si m_19 1 (ix ((41 + (14 * y1)) + y7)) 0) fun m_20 =>
        X12_fib_b92 k46 n y1 y2 y3 y4 y5 y6 (y7 + 1) m_20))
def X12_fib_b46  : Nat → Int32 → Int32 → Int32 → Int32 → Int32 → Int32 → Mem → Option (Int32 × Mem)
  | 0, _, _, _, _, _, _, _ => none
  | n + 1, y1, y2, y3, y4, y5, y6, m =>
    chk (inb 1 6288) <|
    if ((1 : Int32) <<< ((gi m 1 (ix 1)) &&& 31)) ≤ y6 then
      (if y5 = (-1) then
        (some (y5, m))
      else
        (if y3 = 1 then
          (some (y5, m))
        else
          (bnd (X12_bitsOf y5 m) fun r_10 m_11 =>
          some (r_10, m_11))))
    else
      (if (y6 &&& y4) = 0 then
        (if y5 = (-1) then
          (X12_fib_b92 (X12_fib_b46 n) FU y1 y2 y3 y4 y5 y6 0 m)
        else
          (bnd (X12_bitsOf y6 m) fun r_21 m_22 =>
          bnd (X12_bitsOf y5 m_22) fun r_23 m_24 =>
          if r_21 < r_23 then
            (X12_fib_b92 (X12_fib_b46 n) FU y1 y2 y3 y4 y5 y6 0 m_24)
          else
            (X12_fib_b46  n y1 y2 y3 y4 y5 (y6 + 1) m_24)))
      else
        (X12_fib_b46  n y1 y2 y3 y4 y5 (y6 + 1) m))
def X12_fib  (x1 : Int32) (x2 : Int32) (x3 : Int32) (m : Mem) : Option (Int32 × Mem) :=
  lt (si m 0 0 0) fun m_1 =>
  bnd (X12_areTwo (Int32.toInt64 x1) (Int32.toInt64 x2) m_1) fun r_2 m_3 =>
  if r_2 = 0 then
    (some ((-2), m_3))
  else
    (bnd (X12_within (Int32.toInt64 x3) 0 1 m_3) fun r_4 m_5 =>
    if r_4 = 0 then
      (some ((-2), m_5))
    else
      (bnd (X12_listOf x1 m_5) fun r_6 m_7 =>
      bnd (X12_keepsAhead  m_7) fun _ m_9 =>
      X12_fib_b46  FU x1 x2 x3 r_6 (-1) 0 m_9))
def X12_found  (x1 : Int32) (m : Mem) : Option (Int32 × Mem) :=
  if x1 = 0 then
    (some ((gi m 0 25), m))
  else
    (if x1 = 1 then
      (some ((gi m 0 26), m))
    else
      (chk (inb (x1 - 10) 8) <|
      some ((gi m 11 (ix (x1 - 10))), m)))
def X12_good  (x1 : Int32) (x2 : Int32) (m : Mem) : Option (Int32 × Mem) :=
  lt (si m 0 0 0) fun m_1 =>
  bnd (X12_areTwo (Int32.toInt64 x1) (Int32.toInt64 x2) m_1) fun r_2 m_3 =>
  if r_2 = 0 then
    (some ((-2000000), m_3))
  else
    (bnd (X12_goodOf x1 x2 m_3) fun r_4 m_5 =>
    some (r_4, m_5))
def X12_goodIn_b38  : Nat → Int32 → Int32 → Int32 → Int32 → Mem → Option (Int32 × Mem)
  | 0, _, _, _, _, _ => none
  | n + 1, y1, y2, y3, y4, m =>
    if y3 ≤ y4 then
      (bnd (X12_goodOf y1 y2 m) fun r_8 m_9 =>
      bnd (X12_isAhead  m_9) fun _ m_11 =>
      some (r_8, m_11))
    else
      (bnd (X12_year y1 y2 m) fun r_12 m_13 =>
      X12_goodIn_b38  n y1 y2 y3 (y4 + 1) m_13)
def X12_goodIn  (x1 : Int32) (x2 : Int32) (x3 : Int32) (m : Mem) : Option (Int32 × Mem) :=
  lt (si m 0 0 0) fun m_1 =>
  bnd (X12_areTwo (Int32.toInt64 x1) (Int32.toInt64 x2) m_1) fun r_2 m_3 =>
  if r_2 = 0 then
    (some ((-2000000), m_3))
  else
    (bnd (X12_within (Int32.toInt64 x3) 0 60 m_3) fun r_4 m_5 =>
    if r_4 = 0 then
      (some ((-2000000), m_5))
    else
      (bnd (X12_keepsAhead  m_5) fun _ m_7 =>
      X12_goodIn_b38  FU x1 x2 x3 0 m_7))
def X12_goodOfWed_b4  : Nat → Int32 → Int32 → Mem → Option (Int32 × Mem)
  | 0, _, _, _ => none
  | n + 1, y1, y2, m =>
    chk (inb 2 6288) <|
    if (gi m 1 (ix 2)) ≤ y2 then
      (some (y1, m))
    else
      (chk (inb (153 + y2) 6288) <|
      if (gi m 1 (ix (153 + y2))) ≤ y2 then
        (lt (y1 + 0) fun x_1 =>
        X12_goodOfWed_b4  n x_1 (y2 + 1) m)
      else
        (chk (inb (153 + y2) 6288) <|
        bnd (X12_goodOf y2 (gi m 1 (ix (153 + y2))) m) fun r_2 m_3 =>
        lt (y1 + r_2) fun x_4 =>
        X12_goodOfWed_b4  n x_4 (y2 + 1) m_3))
def X12_goodOfWed  (m : Mem) : Option (Int32 × Mem) :=
  X12_goodOfWed_b4  FU 0 0 m
def X12_hasRoom  (x1 : Int32) (m : Mem) : Option (Int32 × Mem) :=
  bnd (X12_listOf x1 m) fun r_1 m_2 =>
  bnd (X12_bitsOf r_1 m_2) fun r_3 m_4 =>
  chk (inb 4 6288) <|
  if (gi m_4 1 (ix 4)) ≤ r_3 then
    (some (0, m_4))
  else
    (some (1, m_4))
def X12_holds  (x1 : Int32) (x2 : Int32) (m : Mem) : Option (Int32 × Mem) :=
  lt (si m 0 0 0) fun m_1 =>
  bnd (X12_areTwo (Int32.toInt64 x1) (Int32.toInt64 x2) m_1) fun r_2 m_3 =>
  if r_2 = 0 then
    (some ((-2), m_3))
  else
    (bnd (X12_holdsFor x1 x2 m_3) fun r_4 m_5 =>
    some (r_4, m_5))
def X12_houses_b37  : Nat → Int32 → Int32 → Int32 → Int32 → Mem → Option (Int32 × Mem)
  | 0, _, _, _, _, _ => none
  | n + 1, y1, y2, y3, y4, m =>
    chk (inb 2 6288) <|
    if ((1 : Int32) <<< ((gi m 1 (ix 2)) &&& 31)) ≤ y4 then
      (some (y3, m))
    else
      (bnd (X12_bitsOf y4 m) fun r_6 m_7 =>
      if r_6 = y1 then
        (bnd (X12_sharedBy y4 m_7) fun r_9 m_10 =>
        if r_9 < y2 then
          (lt (y3 + 0) fun x_11 =>
          X12_houses_b37  n y1 y2 x_11 (y4 + 1) m_10)
        else
          (lt (y3 + 1) fun x_12 =>
          X12_houses_b37  n y1 y2 x_12 (y4 + 1) m_10))
      else
        (lt (y3 + 0) fun x_8 =>
        X12_houses_b37  n y1 y2 x_8 (y4 + 1) m_7))
def X12_houses  (x1 : Int32) (x2 : Int32) (m : Mem) : Option (Int32 × Mem) :=
  lt (si m 0 0 0) fun m_1 =>
  bnd (X12_within (Int32.toInt64 x1) 1 8 m_1) fun r_2 m_3 =>
  if r_2 = 0 then
    (some ((-3), m_3))
  else
    (bnd (X12_within (Int32.toInt64 x2) 0 14 m_3) fun r_4 m_5 =>
    if r_4 = 0 then
      (some ((-3), m_5))
    else
      (X12_houses_b37  FU x1 x2 0 0 m_5))
def X12_image_b20  : Nat → Int32 → Int32 → Mem → Option (Int32 × Mem)
  | 0, _, _, _ => none
  | n + 1, y1, y2, m =>
    if 2096 ≤ y2 then
      (chk (inb y1 2) <|
      lt (si m 2 (ix y1) (vp_nar .boolean 1)) fun m_4 =>
      some (0, m_4))
    else
      (chk (inb y2 6288) <|
      chk (inb ((2096 * (y1 + 1)) + y2) 6288) <|
      lt (si m 1 (ix ((2096 * (y1 + 1)) + y2)) (gi m 1 (ix y2))) fun m_5 =>
      X12_image_b20  n y1 (y2 + 1) m_5)
def X12_image  (x1 : Int32) (m : Mem) : Option (Int32 × Mem) :=
  lt (si m 0 0 0) fun m_1 =>
  bnd (X12_within (Int32.toInt64 x1) 0 1 m_1) fun r_2 m_3 =>
  if r_2 = 0 then
    (some ((-2), m_3))
  else
    (X12_image_b20  FU x1 0 m_3)
def X12_isAgain_b2  : Nat → Int32 → Mem → Option (Unit × Mem)
  | 0, _, _ => none
  | n + 1, y1, m =>
    if 129 ≤ y1 then
      (some ((), m))
    else
      (chk (inb y1 129) <|
      chk (inb (33 + y1) 6288) <|
      lt (si m 1 (ix (33 + y1)) (gi m 7 (ix y1))) fun m_1 =>
      X12_isAgain_b2  n (y1 + 1) m_1)
def X12_isAgain  (m : Mem) : Option (Unit × Mem) :=
  X12_isAgain_b2  FU 0 m
def X12_noTray  (x1 : Int32) (m : Mem) : Option (Int32 × Mem) :=
  bnd (X12_within (Int32.toInt64 x1) 0 3 m) fun r_1 m_2 =>
  if r_1 = 0 then
    (some ((-2), m_2))
  else
    (chk (inb x1 4) <|
    if (gi m_2 14 (ix x1)) = (-1) then
      (some ((-6), m_2))
    else
      (some (0, m_2)))
def X12_whyNot_b112  (y3 : Int32) (y4 : Int32) (y5 : Int32) (m : Mem) : Option (Int32 × Mem) :=
  bnd (X12_areTwo (Int32.toInt64 y4) (Int32.toInt64 y5) m) fun r_6 m_7 =>
  if r_6 = 0 then
    (some (1, m_7))
  else
    (if 2000 ≤ y3 then
      (some (0, m_7))
    else
      (chk (inb (153 + y4) 6288) <|
      if (gi m_7 1 (ix (153 + y4))) = y5 then
        (some (0, m_7))
      else
        (chk (inb (153 + y4) 6288) <|
        if (gi m_7 1 (ix (153 + y4))) = (-1) then
          (chk (inb (153 + y5) 6288) <|
          if (gi m_7 1 (ix (153 + y5))) = (-1) then
            (bnd (X12_mayWed y4 y5 m_7) fun r_8 m_9 =>
            if r_8 = 0 then
              (some (3, m_9))
            else
              (some (0, m_9)))
          else
            (some (2, m_7)))
        else
          (some (2, m_7)))))
def X12_whyNot  (x1 : Int64) (m : Mem) : Option (Int32 × Mem) :=
  if (lg_cmp x1 (-1)) = 0 then
    (some (0, m))
  else
    (bnd (X12_within x1 0 2999 m) fun r_1 m_2 =>
    if r_1 = 0 then
      (some (1, m_2))
    else
      (lt (Int64.toInt32 x1) fun x_3 =>
      lt ((x_3 / 100) - (x_3 / 100) / 10 * 10) fun x_4 =>
      lt (x_3 - x_3 / 100 * 100) fun x_5 =>
      if x_3 < 1000 then
        (X12_whyNot_b112  x_3 x_4 x_5 m_2)
      else
        (if 2000 ≤ x_3 then
          (X12_whyNot_b112  x_3 x_4 x_5 m_2)
        else
          (bnd (X12_isPerson (Int32.toInt64 x_4) m_2) fun r_10 m_11 =>
          if r_10 = 0 then
            (some (1, m_11))
          else
            (bnd (X12_isThing (Int32.toInt64 x_5) m_11) fun r_12 m_13 =>
            if r_12 = 0 then
              (some (1, m_13))
            else
              (chk (inb ((41 + (14 * x_4)) + x_5) 6288) <|
              if (gi m_13 1 (ix ((41 + (14 * x_4)) + x_5))) = (-1) then
                (bnd (X12_hasRoom x_4 m_13) fun r_14 m_15 =>
                if r_14 = 0 then
                  (some (4, m_15))
                else
                  (some (0, m_15)))
              else
                (some (0, m_13))))))))
def X12_tells_b7  : Nat → Int32 → Int32 → Mem → Option (Int32 × Mem)
  | 0, _, _, _ => none
  | n + 1, y1, y2, m =>
    chk (inb y1 4) <|
    if (gi m 15 (ix y1)) ≤ y2 then
      (chk (inb y1 4) <|
      some ((gi m 15 (ix y1)), m))
    else
      (chk (inb ((40 * y1) + y2) 160) <|
      bnd (X12_whyNot (gl m 16 (ix ((40 * y1) + y2))) m) fun r_2 m_3 =>
      lt (si m_3 0 19 r_2) fun m_4 =>
      if (gi m_4 0 19) = 0 then
        (chk (inb ((40 * y1) + y2) 160) <|
        bnd (X12_does (Int64.toInt32 (gl m_4 16 (ix ((40 * y1) + y2)))) m_4) fun _ m_6 =>
        X12_tells_b7  n y1 (y2 + 1) m_6)
      else
        (some (y2, m_4)))
def X12_tells  (x1 : Int32) (m : Mem) : Option (Int32 × Mem) :=
  lt (si m 0 19 0) fun m_1 =>
  X12_tells_b7  FU x1 0 m_1
def X12_judge  (x1 : Int32) (x2 : Int32) (m : Mem) : Option (Int32 × Mem) :=
  lt (si m 0 0 0) fun m_1 =>
  bnd (X12_within (Int32.toInt64 x2) 0 3 m_1) fun r_2 m_3 =>
  if r_2 = 0 then
    (some ((-2), m_3))
  else
    (bnd (X12_noTray x1 m_3) fun r_4 m_5 =>
    if r_4 = 0 then
      (bnd (X12_keeps  m_5) fun _ m_7 =>
      bnd (X12_tells x1 m_7) fun r_8 m_9 =>
      bnd (X12_wedMany  m_9) fun r_10 m_11 =>
      lt (2 * r_10) fun x_12 =>
      bnd (X12_goodOfWed  m_11) fun r_13 m_14 =>
      bnd (X12_isAgain  m_14) fun _ m_16 =>
      if x2 = 0 then
        (if (gi m_16 0 19) = 0 then
          (some ((-1), m_16))
        else
          (some (r_8, m_16)))
      else
        (if x2 = 1 then
          (some ((gi m_16 0 19), m_16))
        else
          (if x2 = 2 then
            (some (x_12, m_16))
          else
            (some (r_13, m_16)))))
    else
      (some (r_4, m_5)))
def X12_lasting  (x1 : Int32) (x2 : Int32) (m : Mem) : Option (Int32 × Mem) :=
  lt (si m 0 0 0) fun m_1 =>
  bnd (X12_asksPerson x2 m_1) fun r_2 m_3 =>
  if r_2 = 0 then
    (some ((-2), m_3))
  else
    (bnd (X12_within (Int32.toInt64 x1) 0 40 m_3) fun r_4 m_5 =>
    if r_4 = 0 then
      (some ((-3), m_5))
    else
      (bnd (X12_laysPairs 0 x1 m_5) fun _ m_7 =>
      bnd (X12_begins 0 0 m_7) fun _ m_9 =>
      bnd (X12_found x2 m_9) fun r_10 m_11 =>
      some (r_10, m_11)))
def X12_later_b38  : Nat → Int32 → Int32 → Int32 → Mem → Option (Int32 × Mem)
  | 0, _, _, _, _ => none
  | n + 1, y1, y2, y3, m =>
    if y2 ≤ y3 then
      (bnd (X12_listOf y1 m) fun r_8 m_9 =>
      bnd (X12_isAhead  m_9) fun _ m_11 =>
      some (r_8, m_11))
    else
      (bnd (X12_year (-1) (-1) m) fun r_12 m_13 =>
      X12_later_b38  n y1 y2 (y3 + 1) m_13)
def X12_later  (x1 : Int32) (x2 : Int32) (m : Mem) : Option (Int32 × Mem) :=
  lt (si m 0 0 0) fun m_1 =>
  bnd (X12_isPerson (Int32.toInt64 x1) m_1) fun r_2 m_3 =>
  if r_2 = 0 then
    (some ((-2), m_3))
  else
    (bnd (X12_within (Int32.toInt64 x2) 0 60 m_3) fun r_4 m_5 =>
    if r_4 = 0 then
      (some ((-3), m_5))
    else
      (bnd (X12_keepsAhead  m_5) fun _ m_7 =>
      X12_later_b38  FU x1 x2 0 m_7))
def X12_leftFor_b90 (k35 : Int32 → Int32 → Int32 → Int32 → Int32 → Mem → Option (Int32 × Mem)) (y1 : Int32) (y2 : Int32) (y3 : Int32) (y4 : Int32) (y5 : Int32) (m : Mem) : Option (Int32 × Mem) :=
  bnd (X12_laysPairs y5 0 m) fun _ m_13 =>
  bnd (X12_begins 0 0 m_13) fun _ m_15 =>
  chk (inb y1 8) <|
  if (gi m_15 11 (ix y1)) = y2 then
    (k35 y1 y2 y3 y5 (y5 + 1) m_15)
  else
    (k35 y1 y2 y3 y4 (y5 + 1) m_15)
def X12_leftFor_b35  : Nat → Int32 → Int32 → Int32 → Int32 → Int32 → Mem → Option (Int32 × Mem)
  | 0, _, _, _, _, _, _ => none
  | n + 1, y1, y2, y3, y4, y5, m =>
    chk (inb 2 6288) <|
    if ((1 : Int32) <<< ((gi m 1 (ix 2)) &&& 31)) ≤ y5 then
      (if y4 = (-1) then
        (some (y4, m))
      else
        (if y3 = 1 then
          (some (y4, m))
        else
          (bnd (X12_bitsOf y4 m) fun r_6 m_7 =>
          some (r_6, m_7))))
    else
      (bnd (X12_isIn (Int32.toInt64 y5) y1 m) fun r_8 m_9 =>
      if r_8 = 0 then
        (bnd (X12_isIn (Int32.toInt64 y5) y2 m_9) fun r_10 m_11 =>
        if r_10 = 0 then
          (if y4 = (-1) then
            (X12_leftFor_b90 (X12_leftFor_b35 n) y1 y2 y3 y4 y5 m_11)
          else
            (bnd (X12_bitsOf y5 m_11) fun r_16 m_17 =>
            bnd (X12_bitsOf y4 m_17) fun r_18 m_19 =>
            if r_16 < r_18 then
              (X12_leftFor_b90 (X12_leftFor_b35 n) y1 y2 y3 y4 y5 m_19)
            else
              (X12_leftFor_b35  n y1 y2 y3 y4 (y5 + 1) m_19)))
        else
          (X12_leftFor_b35  n y1 y2 y3 y4 (y5 + 1) m_11))
      else
        (X12_leftFor_b35  n y1 y2 y3 y4 (y5 + 1) m_9))
def X12_leftFor  (x1 : Int32) (x2 : Int32) (x3 : Int32) (m : Mem) : Option (Int32 × Mem) :=
  lt (si m 0 0 0) fun m_1 =>
  bnd (X12_areTwo (Int32.toInt64 x1) (Int32.toInt64 x2) m_1) fun r_2 m_3 =>
  if r_2 = 0 then
    (some ((-2), m_3))
  else
    (bnd (X12_within (Int32.toInt64 x3) 0 1 m_3) fun r_4 m_5 =>
    if r_4 = 0 then
      (some ((-2), m_5))
    else
      (X12_leftFor_b35  FU x1 x2 x3 (-1) 0 m_5))
def X12_lists_b51  : Nat → Int32 → Int32 → Int32 → Mem → Option (Int32 × Mem)
  | 0, _, _, _, _ => none
  | n + 1, y1, y3, y4, m =>
    if y3 ≤ y4 then
      (some (y3, m))
    else
      (bnd (X12_listOf y4 m) fun r_5 m_6 =>
      chk (inb y1 4) <|
      bnd (X12_cut (Int32.toInt64 r_5) (gi m_6 14 (ix y1)) m_6) fun r_7 m_8 =>
      chk (inb ((40 * y1) + y4) 160) <|
      lt (sl m_8 16 (ix ((40 * y1) + y4)) r_7) fun m_9 =>
      X12_lists_b51  n y1 y3 (y4 + 1) m_9)
def X12_lists  (x1 : Int32) (m : Mem) : Option (Int32 × Mem) :=
  lt (si m 0 0 0) fun m_1 =>
  bnd (X12_noTray x1 m_1) fun r_2 m_3 =>
  if r_2 = 0 then
    (chk (inb 2 6288) <|
    chk (inb x1 4) <|
    if (gi m_3 15 (ix x1)) ≤ (gi m_3 1 (ix 2)) then
      (chk (inb x1 4) <|
      lt (gi m_3 15 (ix x1)) fun x_4 =>
      X12_lists_b51  FU x1 x_4 0 m_3)
    else
      (chk (inb 2 6288) <|
      lt (gi m_3 1 (ix 2)) fun x_10 =>
      X12_lists_b51  FU x1 x_10 0 m_3))
  else
    (some (r_2, m_3))
def X12_matchAll_b23  : Nat → Int32 → Mem → Option (Int32 × Mem)
  | 0, _, _ => none
  | n + 1, y1, m =>
    chk (inb 2 6288) <|
    if (gi m 1 (ix 2)) ≤ y1 then
      (bnd (X12_notes  m) fun _ m_9 =>
      some ((gi m_9 0 25), m_9))
    else
      (chk (inb y1 8) <|
      chk (inb (153 + y1) 6288) <|
      lt (si m 1 (ix (153 + y1)) (gi m 11 (ix y1))) fun m_10 =>
      X12_matchAll_b23  n (y1 + 1) m_10)
def X12_matchAll  (m : Mem) : Option (Int32 × Mem) :=
  lt (si m 0 0 0) fun m_1 =>
  bnd (X12_laysPairs 0 0 m_1) fun _ m_3 =>
  bnd (X12_begins 0 0 m_3) fun _ m_5 =>
  bnd (X12_keeps  m_5) fun _ m_7 =>
  X12_matchAll_b23  FU 0 m_7
def X12_matchings  (x1 : Int32) (m : Mem) : Option (Int32 × Mem) :=
  lt (si m 0 0 0) fun m_1 =>
  bnd (X12_within (Int32.toInt64 x1) 0 4 m_1) fun r_2 m_3 =>
  if r_2 = 0 then
    (some ((-3), m_3))
  else
    (bnd (X12_laysPairs 0 0 m_3) fun _ m_5 =>
    bnd (X12_begins 0 x1 m_5) fun _ m_7 =>
    some ((gi m_7 0 27), m_7))
def X12_may  (x1 : Int32) (x2 : Int32) (m : Mem) : Option (Int32 × Mem) :=
  lt (si m 0 0 0) fun m_1 =>
  bnd (X12_areTwo (Int32.toInt64 x1) (Int32.toInt64 x2) m_1) fun r_2 m_3 =>
  if r_2 = 0 then
    (some ((-2), m_3))
  else
    (bnd (X12_mayWed x1 x2 m_3) fun r_4 m_5 =>
    if r_4 = 0 then
      (some (0, m_5))
    else
      (some (1, m_5)))
def X12_most  (x1 : Int32) (m : Mem) : Option (Int32 × Mem) :=
  lt (si m 0 0 0) fun m_1 =>
  bnd (X12_asksPerson x1 m_1) fun r_2 m_3 =>
  if r_2 = 0 then
    (some ((-2), m_3))
  else
    (bnd (X12_laysPairs 0 0 m_3) fun _ m_5 =>
    bnd (X12_begins 0 0 m_5) fun _ m_7 =>
    bnd (X12_found x1 m_7) fun r_8 m_9 =>
    some (r_8, m_9))
def X12_numbers_b64  : Nat → Int32 → Int32 → Int32 → Mem → Option (Int32 × Mem)
  | 0, _, _, _, _ => none
  | n + 1, y1, y3, y4, m =>
    if y3 ≤ y4 then
      (some (0, m))
    else
      (chk (inb ((40 * y1) + y4) 160) <|
      lt (sl m 16 (ix ((40 * y1) + y4)) 0) fun m_10 =>
      X12_numbers_b64  n y1 y3 (y4 + 1) m_10)
def X12_numbers  (x1 : Int32) (x2 : Int32) (x3 : Int32) (m : Mem) : Option (Int32 × Mem) :=
  lt (si m 0 0 0) fun m_1 =>
  bnd (X12_within (Int32.toInt64 x1) 0 3 m_1) fun r_2 m_3 =>
  if r_2 = 0 then
    (some ((-2), m_3))
  else
    (bnd (X12_within (Int32.toInt64 x2) 0 3 m_3) fun r_4 m_5 =>
    if r_4 = 0 then
      (some ((-2), m_5))
    else
      (bnd (X12_within (Int32.toInt64 x3) 0 40 m_5) fun r_6 m_7 =>
      if r_6 = 0 then
        (some ((-3), m_7))
      else
        (chk (inb x1 4) <|
        lt (si m_7 14 (ix x1) x2) fun m_8 =>
        chk (inb x1 4) <|
        lt (si m_8 15 (ix x1) x3) fun m_9 =>
        X12_numbers_b64  FU x1 x3 0 m_9)))
def X12_pair  (x1 : Int32) (x2 : Int32) (x3 : Int32) (m : Mem) : Option (Int32 × Mem) :=
  lt (si m 0 0 0) fun m_1 =>
  bnd (X12_areTwo (Int32.toInt64 x1) (Int32.toInt64 x2) m_1) fun r_2 m_3 =>
  if r_2 = 0 then
    (some ((-8), m_3))
  else
    (bnd (X12_within (Int32.toInt64 x3) 0 5 m_3) fun r_4 m_5 =>
    if r_4 = 0 then
      (some ((-8), m_5))
    else
      (if x3 = 5 then
        (bnd (X12_listOf x1 m_5) fun r_8 m_9 =>
        bnd (X12_listOf x2 m_9) fun r_10 m_11 =>
        some ((r_8 &&& r_10), m_11))
      else
        (bnd (X12_laysTwo x1 x2 m_5) fun _ m_7 =>
        chk (inb x3 7) <|
        some ((gi m_7 5 (ix x3)), m_7))))
def X12_part  (x1 : Int32) (m : Mem) : Option (Int32 × Mem) :=
  lt (si m 0 0 0) fun m_1 =>
  bnd (X12_isPerson (Int32.toInt64 x1) m_1) fun r_2 m_3 =>
  if r_2 = 0 then
    (some ((-2), m_3))
  else
    (chk (inb (153 + x1) 6288) <|
    if (gi m_3 1 (ix (153 + x1))) = (-1) then
      (some ((-5), m_3))
    else
      (bnd (X12_keeps  m_3) fun _ m_5 =>
      bnd (X12_parts x1 m_5) fun _ m_7 =>
      bnd (X12_notes  m_7) fun _ m_9 =>
      some (0, m_9)))
def X12_peace_b9  : Nat → Int32 → Int32 → Mem → Option (Int32 × Mem)
  | 0, _, _, _ => none
  | n + 1, y1, y2, m =>
    chk (inb 2 6288) <|
    if (gi m 1 (ix 2)) ≤ y2 then
      (some (y1, m))
    else
      (bnd (X12_angersOf y2 m) fun r_2 m_3 =>
      lt (y1 ||| r_2) fun x_4 =>
      X12_peace_b9  n x_4 (y2 + 1) m_3)
def X12_peace  (m : Mem) : Option (Int32 × Mem) :=
  lt (si m 0 0 0) fun m_1 =>
  X12_peace_b9  FU 0 0 m_1
def X12_perform  (x1 : Int32) (m : Mem) : Option (Int32 × Mem) :=
  lt (si m 0 0 0) fun m_1 =>
  bnd (X12_noTray x1 m_1) fun r_2 m_3 =>
  if r_2 = 0 then
    (bnd (X12_keeps  m_3) fun _ m_5 =>
    bnd (X12_tells x1 m_5) fun r_6 m_7 =>
    if r_6 ≤ 0 then
      (some (r_6, m_7))
    else
      (bnd (X12_notes  m_7) fun _ m_9 =>
      some (r_6, m_9)))
  else
    (some (r_2, m_3))
def X12_person  (x1 : Int32) (x2 : Int32) (m : Mem) : Option (Int32 × Mem) :=
  lt (si m 0 0 0) fun m_1 =>
  bnd (X12_isPerson (Int32.toInt64 x1) m_1) fun r_2 m_3 =>
  if r_2 = 0 then
    (some ((-2), m_3))
  else
    (if x2 = 0 then
      (chk (inb (33 + x1) 6288) <|
      some ((gi m_3 1 (ix (33 + x1))), m_3))
    else if x2 = 1 then
      (chk (inb (25 + x1) 6288) <|
      some ((gi m_3 1 (ix (25 + x1))), m_3))
    else if x2 = 2 then
      (bnd (X12_listOf x1 m_3) fun r_6 m_7 =>
      some (r_6, m_7))
    else if x2 = 3 then
      (chk (inb (153 + x1) 6288) <|
      some ((gi m_3 1 (ix (153 + x1))), m_3))
    else (
      some ((-2), m_3)))
def X12_pieced_b81 (k32 : Int32 → Int32 → Int32 → Int32 → Mem → Option (Int32 × Mem)) : Nat → Int32 → Int32 → Int32 → Int32 → Int32 → Int32 → Mem → Option (Int32 × Mem)
  | 0, _, _, _, _, _, _, _ => none
  | n + 1, y1, y2, y3, y4, y5, y6, m =>
    chk (inb 2 6288) <|
    if (gi m 1 (ix 2)) ≤ y6 then
      (bnd (X12_listOf y1 m) fun r_10 m_11 =>
      if y5 = r_10 then
        (k32 y1 y2 y4 (y4 + 1) m_11)
      else
        (k32 y1 y2 y3 (y4 + 1) m_11))
    else
      (bnd (X12_isIn (Int32.toInt64 y4) y6 m) fun r_12 m_13 =>
      if r_12 = 0 then
        (lt (y5 ||| 0) fun x_14 =>
        X12_pieced_b81 k32 n y1 y2 y3 y4 x_14 (y6 + 1) m_13)
      else
        (bnd (X12_listOf y6 m_13) fun r_15 m_16 =>
        lt (y5 ||| r_15) fun x_17 =>
        X12_pieced_b81 k32 n y1 y2 y3 y4 x_17 (y6 + 1) m_16))
def X12_pieced_b32  : Nat → Int32 → Int32 → Int32 → Int32 → Mem → Option (Int32 × Mem)
  | 0, _, _, _, _, _ => none
  | n + 1, y1, y2, y3, y4, m =>
    chk (inb 2 6288) <|
    if ((1 : Int32) <<< ((gi m 1 (ix 2)) &&& 31)) ≤ y4 then
      (if y3 = (-1) then
        (some (y3, m))
      else
        (if y2 = 1 then
          (some (y3, m))
        else
          (bnd (X12_bitsOf y3 m) fun r_6 m_7 =>
          some (r_6, m_7))))
    else
      (bnd (X12_isIn (Int32.toInt64 y4) y1 m) fun r_8 m_9 =>
      if r_8 = 0 then
        (if y3 = (-1) then
          (X12_pieced_b81 (X12_pieced_b32 n) FU y1 y2 y3 y4 0 0 m_9)
        else
          (bnd (X12_bitsOf y4 m_9) fun r_18 m_19 =>
          bnd (X12_bitsOf y3 m_19) fun r_20 m_21 =>
          if r_18 < r_20 then
            (X12_pieced_b81 (X12_pieced_b32 n) FU y1 y2 y3 y4 0 0 m_21)
          else
            (X12_pieced_b32  n y1 y2 y3 (y4 + 1) m_21)))
      else
        (X12_pieced_b32  n y1 y2 y3 (y4 + 1) m_9))
def X12_pieced  (x1 : Int32) (x2 : Int32) (m : Mem) : Option (Int32 × Mem) :=
  lt (si m 0 0 0) fun m_1 =>
  bnd (X12_isPerson (Int32.toInt64 x1) m_1) fun r_2 m_3 =>
  if r_2 = 0 then
    (some ((-2), m_3))
  else
    (bnd (X12_within (Int32.toInt64 x2) 0 1 m_3) fun r_4 m_5 =>
    if r_4 = 0 then
      (some ((-2), m_5))
    else
      (X12_pieced_b32  FU x1 x2 (-1) 0 m_5))
def X12_restore_b32  : Nat → Int32 → Int32 → Mem → Option (Int32 × Mem)
  | 0, _, _, _ => none
  | n + 1, y1, y2, m =>
    if 2096 ≤ y2 then
      (chk (inb 162 6288) <|
      lt (si m 1 (ix 162) 0) fun m_4 =>
      some (0, m_4))
    else
      (chk (inb ((2096 * (y1 + 1)) + y2) 6288) <|
      chk (inb y2 6288) <|
      lt (si m 1 (ix y2) (gi m 1 (ix ((2096 * (y1 + 1)) + y2)))) fun m_5 =>
      X12_restore_b32  n y1 (y2 + 1) m_5)
def X12_restore  (x1 : Int32) (m : Mem) : Option (Int32 × Mem) :=
  lt (si m 0 0 0) fun m_1 =>
  bnd (X12_within (Int32.toInt64 x1) 0 1 m_1) fun r_2 m_3 =>
  if r_2 = 0 then
    (some ((-2), m_3))
  else
    (chk (inb x1 2) <|
    if (gi m_3 2 (ix x1)) = 0 then
      (some ((-5), m_3))
    else
      (X12_restore_b32  FU x1 0 m_3))
def X12_season_b55  : Nat → Int32 → Int32 → Int32 → Mem → Option (Int32 × Mem)
  | 0, _, _, _, _ => none
  | n + 1, y2, y3, y4, m =>
    if y2 ≤ y4 then
      (if y3 ≤ 0 then
        (some (y3, m))
      else
        (bnd (X12_notes  m) fun _ m_8 =>
        some (y3, m_8)))
    else
      (bnd (X12_drawn  m) fun r_9 m_10 =>
      bnd (X12_whyNot (Int32.toInt64 r_9) m_10) fun r_11 m_12 =>
      if r_11 = 0 then
        (bnd (X12_does r_9 m_12) fun _ m_14 =>
        X12_season_b55  n y2 (y3 + 1) (y4 + 1) m_14)
      else
        (X12_season_b55  n y2 y3 (y4 + 1) m_12))
def X12_season  (x1 : Int32) (x2 : Int32) (m : Mem) : Option (Int32 × Mem) :=
  lt (si m 0 0 0) fun m_1 =>
  bnd (X12_within (Int32.toInt64 x2) 1 40 m_1) fun r_2 m_3 =>
  if r_2 = 0 then
    (some ((-3), m_3))
  else
    (chk (inb 1 6288) <|
    if (gi m_3 1 (ix 1)) = 0 then
      (some ((-5), m_3))
    else
      (chk (inb 2 6288) <|
      if (gi m_3 1 (ix 2)) = 0 then
        (some ((-5), m_3))
      else
        (bnd (X12_keeps  m_3) fun _ m_5 =>
        lt (si m_5 0 20 x1) fun m_6 =>
        X12_season_b55  FU x2 0 0 m_6)))
def X12_sharer_b24  : Nat → Int32 → Int32 → Int32 → Int32 → Mem → Option (Int32 × Mem)
  | 0, _, _, _, _, _ => none
  | n + 1, y1, y2, y3, y4, m =>
    chk (inb 2 6288) <|
    if (gi m 1 (ix 2)) ≤ y4 then
      (some (y2, m))
    else
      (if y4 = y1 then
        (X12_sharer_b24  n y1 y2 y3 (y4 + 1) m)
      else
        (bnd (X12_listOf y1 m) fun r_4 m_5 =>
        bnd (X12_listOf y4 m_5) fun r_6 m_7 =>
        bnd (X12_rareOfAll (r_4 &&& r_6) m_7) fun r_8 m_9 =>
        if y3 < r_8 then
          (X12_sharer_b24  n y1 y4 r_8 (y4 + 1) m_9)
        else
          (X12_sharer_b24  n y1 y2 y3 (y4 + 1) m_9)))
def X12_sharer  (x1 : Int32) (m : Mem) : Option (Int32 × Mem) :=
  lt (si m 0 0 0) fun m_1 =>
  bnd (X12_isPerson (Int32.toInt64 x1) m_1) fun r_2 m_3 =>
  if r_2 = 0 then
    (some ((-2), m_3))
  else
    (X12_sharer_b24  FU x1 (-1) 0 0 m_3)
def X12_since  (x1 : Int32) (x2 : Int32) (m : Mem) : Option (Int32 × Mem) :=
  lt (si m 0 0 0) fun m_1 =>
  bnd (X12_isPerson (Int32.toInt64 x1) m_1) fun r_2 m_3 =>
  if r_2 = 0 then
    (some ((-2), m_3))
  else
    (bnd (X12_isThing (Int32.toInt64 x2) m_3) fun r_4 m_5 =>
    if r_4 = 0 then
      (some ((-2), m_5))
    else
      (chk (inb ((41 + (14 * x1)) + x2) 6288) <|
      some ((gi m_5 1 (ix ((41 + (14 * x1)) + x2))), m_5)))
def X12_stable  (x1 : Int32) (m : Mem) : Option (Int32 × Mem) :=
  lt (si m 0 0 0) fun m_1 =>
  bnd (X12_asksPerson x1 m_1) fun r_2 m_3 =>
  if r_2 = 0 then
    (some ((-2), m_3))
  else
    (bnd (X12_laysPairs 0 0 m_3) fun _ m_5 =>
    bnd (X12_begins 1 0 m_5) fun _ m_7 =>
    bnd (X12_found x1 m_7) fun r_8 m_9 =>
    some (r_8, m_9))
def X12_strikes  (x1 : Int32) (x2 : Int32) (x3 : Int32) (m : Mem) : Option (Int32 × Mem) :=
  lt (si m 0 0 0) fun m_1 =>
  bnd (X12_areTwo (Int32.toInt64 x1) (Int32.toInt64 x2) m_1) fun r_2 m_3 =>
  if r_2 = 0 then
    (some ((-2000000), m_3))
  else
    (bnd (X12_isThing (Int32.toInt64 x3) m_3) fun r_4 m_5 =>
    if r_4 = 0 then
      (some ((-2000000), m_5))
    else
      (bnd (X12_goodOf x1 x2 m_5) fun r_6 m_7 =>
      bnd (X12_keepsAhead  m_7) fun _ m_9 =>
      chk (inb ((41 + (14 * x1)) + x3) 6288) <|
      lt (si m_9 1 (ix ((41 + (14 * x1)) + x3)) (-1)) fun m_10 =>
      chk (inb ((41 + (14 * x2)) + x3) 6288) <|
      lt (si m_10 1 (ix ((41 + (14 * x2)) + x3)) (-1)) fun m_11 =>
      bnd (X12_goodOf x1 x2 m_11) fun r_12 m_13 =>
      bnd (X12_isAhead  m_13) fun _ m_15 =>
      some ((r_6 - r_12), m_15)))
def X12_takes_b42  (y1 : Int32) (y2 : Int32) (z0 : Int32) (m : Mem) : Option (Int32 × Mem) :=
  if z0 = 0 then
    (bnd (X12_keeps  m) fun _ m_5 =>
    bnd (X12_does ((1000 + (100 * y1)) + y2) m_5) fun _ m_7 =>
    bnd (X12_notes  m_7) fun _ m_9 =>
    bnd (X12_listOf y1 m_9) fun r_10 m_11 =>
    bnd (X12_bitsOf r_10 m_11) fun r_12 m_13 =>
    some (r_12, m_13))
  else
    (some (((-10) - z0), m))
def X12_takes  (x1 : Int32) (x2 : Int32) (m : Mem) : Option (Int32 × Mem) :=
  lt (si m 0 0 0) fun m_1 =>
  bnd (X12_isPerson (Int32.toInt64 x1) m_1) fun r_2 m_3 =>
  if r_2 = 0 then
    (X12_takes_b42  x1 x2 1 m_3)
  else
    (bnd (X12_isThing (Int32.toInt64 x2) m_3) fun r_14 m_15 =>
    if r_14 = 0 then
      (X12_takes_b42  x1 x2 1 m_15)
    else
      (bnd (X12_whyNot (Int32.toInt64 ((1000 + (100 * x1)) + x2)) m_15) fun r_16 m_17 =>
      X12_takes_b42  x1 x2 r_16 m_17))
def X12_thing  (x1 : Int32) (x2 : Int32) (m : Mem) : Option (Int32 × Mem) :=
  lt (si m 0 0 0) fun m_1 =>
  bnd (X12_isThing (Int32.toInt64 x1) m_1) fun r_2 m_3 =>
  if r_2 = 0 then
    (some ((-2), m_3))
  else
    (if x2 = 0 then
      (chk (inb (11 + x1) 6288) <|
      some ((gi m_3 1 (ix (11 + x1))), m_3))
    else if x2 = 1 then
      (bnd (X12_loathers x1 m_3) fun r_5 m_6 =>
      some (r_5, m_6))
    else if x2 = 2 then
      (bnd (X12_rareOf x1 m_3) fun r_8 m_9 =>
      some (r_8, m_9))
    else if x2 = 3 then
      (bnd (X12_areIt x1 m_3) fun r_11 m_12 =>
      some (r_11, m_12))
    else (
      some ((-2), m_3)))
def X12_undo_b46  : Nat → Int32 → Mem → Option (Int32 × Mem)
  | 0, _, _ => none
  | n + 1, y2, m =>
    if 129 ≤ y2 then
      (chk (inb 162 6288) <|
      some ((gi m 1 (ix 162)), m))
    else
      (chk (inb 162 6288) <|
      chk (inb ((163 + (129 * (gi m 1 (ix 162)))) + y2) 6288) <|
      chk (inb (33 + y2) 6288) <|
      lt (si m 1 (ix (33 + y2)) (gi m 1 (ix ((163 + (129 * (gi m 1 (ix 162)))) + y2)))) fun m_5 =>
      X12_undo_b46  n (y2 + 1) m_5)
def X12_undo  (x1 : Int32) (m : Mem) : Option (Int32 × Mem) :=
  lt (si m 0 0 0) fun m_1 =>
  bnd (X12_within (Int32.toInt64 x1) 1 8 m_1) fun r_2 m_3 =>
  if r_2 = 0 then
    (some ((-3), m_3))
  else
    (chk (inb 162 6288) <|
    if x1 ≤ (gi m_3 1 (ix 162)) then
      (chk (inb 162 6288) <|
      chk (inb 162 6288) <|
      lt (si m_3 1 (ix 162) ((gi m_3 1 (ix 162)) - x1)) fun m_4 =>
      X12_undo_b46  FU 0 m_4)
    else
      (some ((-3), m_3)))
def X12_wed  (x1 : Int32) (x2 : Int32) (m : Mem) : Option (Int32 × Mem) :=
  lt (si m 0 0 0) fun m_1 =>
  bnd (X12_areTwo (Int32.toInt64 x1) (Int32.toInt64 x2) m_1) fun r_2 m_3 =>
  if r_2 = 0 then
    (some ((-11), m_3))
  else
    (chk (inb (153 + x1) 6288) <|
    if (gi m_3 1 (ix (153 + x1))) = (-1) then
      (chk (inb (153 + x2) 6288) <|
      if (gi m_3 1 (ix (153 + x2))) = (-1) then
        (bnd (X12_mayWed x1 x2 m_3) fun r_4 m_5 =>
        if r_4 = 0 then
          (some ((-13), m_5))
        else
          (bnd (X12_keeps  m_5) fun _ m_7 =>
          bnd (X12_weds x1 x2 m_7) fun _ m_9 =>
          bnd (X12_notes  m_9) fun _ m_11 =>
          bnd (X12_goodOf x1 x2 m_11) fun r_12 m_13 =>
          some (r_12, m_13)))
      else
        (some ((-12), m_3)))
    else
      (some ((-12), m_3)))
def X12_write  (x1 : Int32) (x2 : Int32) (x3 : Int64) (m : Mem) : Option (Int64 × Mem) :=
  lt (si m 0 0 0) fun m_1 =>
  bnd (X12_noTray x1 m_1) fun r_2 m_3 =>
  if r_2 = 0 then
    (chk (inb x1 4) <|
    bnd (X12_within (Int32.toInt64 x2) 0 (Int32.toInt64 ((gi m_3 15 (ix x1)) - 1)) m_3) fun r_4 m_5 =>
    if r_4 = 0 then
      (some ((-7), m_5))
    else
      (chk (inb x1 4) <|
      bnd (X12_cut x3 (gi m_5 14 (ix x1)) m_5) fun r_6 m_7 =>
      chk (inb ((40 * x1) + x2) 160) <|
      lt (sl m_7 16 (ix ((40 * x1) + x2)) r_6) fun m_8 =>
      chk (inb ((40 * x1) + x2) 160) <|
      some ((gl m_8 16 (ix ((40 * x1) + x2))), m_8)))
  else
    (some ((Int32.toInt64 r_2), m_3))
def X12_years_b28  : Nat → Int32 → Int32 → Int32 → Mem → Option (Int32 × Mem)
  | 0, _, _, _, _ => none
  | n + 1, y1, y2, y3, m =>
    if y1 ≤ y3 then
      (bnd (X12_notes  m) fun _ m_7 =>
      some (y2, m_7))
    else
      (bnd (X12_year (-1) (-1) m) fun r_8 m_9 =>
      lt (y2 + r_8) fun x_10 =>
      X12_years_b28  n y1 x_10 (y3 + 1) m_9)
def X12_years  (x1 : Int32) (m : Mem) : Option (Int32 × Mem) :=
  lt (si m 0 0 0) fun m_1 =>
  bnd (X12_within (Int32.toInt64 x1) 1 60 m_1) fun r_2 m_3 =>
  if r_2 = 0 then
    (some ((-3), m_3))
  else
    (bnd (X12_keeps  m_3) fun _ m_5 =>
    X12_years_b28  FU x1 0 0 m_5)
