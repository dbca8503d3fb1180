def fJ6_bitCount_0f7a4 (fuel : Nat) (p0 : Int32) : Option (Int32) :=
  zlet ((p0.toUInt32 >>> ((1 : Int32).toUInt32 &&& Int32.toUInt32 31)).toInt32) fun x_1 =>
  zlet ((p0 - (x_1 &&& 1431655765))) fun v0_2 =>
  zlet ((v0_2.toUInt32 >>> ((2 : Int32).toUInt32 &&& Int32.toUInt32 31)).toInt32) fun x_3 =>
  zlet (((v0_2 &&& 858993459) + (x_3 &&& 858993459))) fun v0_4 =>
  zlet ((v0_4.toUInt32 >>> ((4 : Int32).toUInt32 &&& Int32.toUInt32 31)).toInt32) fun x_5 =>
  zlet (((v0_4 + x_5) &&& 252645135)) fun v0_6 =>
  zlet ((v0_6.toUInt32 >>> ((8 : Int32).toUInt32 &&& Int32.toUInt32 31)).toInt32) fun x_7 =>
  zlet (v0_6 + x_7) fun v0_8 =>
  zlet ((v0_8.toUInt32 >>> ((16 : Int32).toUInt32 &&& Int32.toUInt32 31)).toInt32) fun x_9 =>
  zlet (v0_8 + x_9) fun v0_10 =>
  some ((v0_10 &&& 63))
def fX9_isShelf (fuel : Nat) (p0 : Int32) : Option (Int32) :=
  if p0 < 0 then (
    some (0))
  else (
    if 8 ≤ p0 then (
      some (0))
    else (
      some (1)))
def fX9_isHeap (fuel : Nat) (p0 : Int32) : Option (Int32) :=
  if p0 < 0 then (
    some (0))
  else (
    if 3 ≤ p0 then (
      some (0))
    else (
      some (1)))
def fX9_isMinute (fuel : Nat) (p0 : Int32) : Option (Int32) :=
  if p0 < 0 then (
    some (0))
  else (
    if 99 < p0 then (
      some (0))
    else (
      some (1)))
def fX9_isFirstOrSecond (fuel : Nat) (p0 : Int32) : Option (Int32) :=
  if p0 = 0 then (
    some (1))
  else (
    if p0 = 1 then (
      some (1))
    else (
      some (0)))
def fX1_isKind (fuel : Nat) (p0 : Int32) : Option (Int32) :=
  if p0 < 0 then (
    some (0))
  else (
    if 7 < p0 then (
      some (0))
    else (
      some (1)))
def fX1_minute (fuel : Nat) (p0 : Int32) (p1 : Int32) (p2 : Int32) : Option (Int32) :=
  if p0 = 5 then (
    zlet ((zmax 0 (p2 - p1))) fun x_2 =>
    some (x_2))
  else (
    if p0 = 7 then (
      some (99))
    else (
      some (p2)))
def fX1_weight (fuel : Nat) (p0 : Int32) (p1 : Int32) : Option (Int32) :=
  zlet ((1 + (p1 / 3))) fun v2_1 =>
  if p0 = 1 then (
    some (3))
  else (
    if p0 = 2 then (
      some (v2_1))
    else (
      if p0 = 3 then (
        some (1))
      else (
        if p0 = 4 then (
          some ((v2_1 + 1)))
        else (
          if p0 = 5 then (
            some (0))
          else (
            some (1))))))
def fX1_isBlack (fuel : Nat) (p0 : Int32) : Option (Int32) :=
  if p0 = 3 then (
    some (1))
  else (
    if p0 = 6 then (
      some (1))
    else (
      some (0)))
def fX1_spare (fuel : Nat) (p0 : Int32) (p1 : Int32) : Option (Int32) :=
  if p0 = 6 then (
    some (p1))
  else (
    some (99))
def fX1_price (fuel : Nat) (p0 : Int32) (p1 : Int32) : Option (Int32) :=
  zlet (4 + p1) fun v2_1 =>
  if p0 = 1 then (
    some (24))
  else (
    if p0 = 2 then (
      some (v2_1))
    else (
      if p0 = 3 then (
        some (7))
      else (
        if p0 = 4 then (
          some ((2 * v2_1)))
        else (
          if p0 = 5 then (
            some (2))
          else (
            if p0 = 6 then (
              some ((7 + p1)))
            else (
              if p0 = 7 then (
                some (3))
              else (
                some (4))))))))
def fX4_howMany_L4 (p0 : Int32) : Nat → Int32 → Int32 → Option (Int32)
  | 0, _, _ => none
  | n + 1, v1, v2 =>
    if p0 < v2 then (
      some (v1))
    else (
      zlet (v1 * v2) fun v1_2 =>
      zlet (v2 + 1) fun v2_3 =>
      fX4_howMany_L4 p0 n v1_2 v2_3)
def fX4_howMany (fuel : Nat) (p0 : Int32) : Option (Int32) :=
  fX4_howMany_L4 p0 fuel 1 2
def fX4_first_L2 (p1 : Int32) : Nat → Int32 → (Nat → Int32) → Option ((Nat → Int32))
  | 0, _, _ => none
  | n + 1, v2, a_row =>
    if p1 ≤ v2 then (
      some (a_row))
    else (
      zg (zin v2 10) <|
      zlet (upd a_row v2.toNatClampNeg v2) fun a_row_3 =>
      zlet (v2 + 1) fun v2_4 =>
      fX4_first_L2 p1 n v2_4 a_row_3)
def fX4_first (fuel : Nat) (a_row : Nat → Int32) (p1 : Int32) : Option ((Nat → Int32)) :=
  fX4_first_L2 p1 fuel 0 a_row
def fX4_swap (fuel : Nat) (a_row : Nat → Int32) (p1 : Int32) (p2 : Int32) : Option ((Nat → Int32)) :=
  zg (zin p1 10) <|
  zlet (a_row p1.toNatClampNeg) fun v3_2 =>
  zg (zin p2 10) <|
  zlet (upd a_row p1.toNatClampNeg (a_row p2.toNatClampNeg)) fun a_row_4 =>
  zlet (upd a_row_4 p2.toNatClampNeg v3_2) fun a_row_5 =>
  some (a_row_5)
def fX4_asDigits_L4 (a_row : Nat → Int32) (p1 : Int32) : Nat → Int32 → Int32 → Option (Int32)
  | 0, _, _ => none
  | n + 1, v2, v3 =>
    if p1 ≤ v3 then (
      some (v2))
    else (
      zg (zin v3 10) <|
      zlet (((10 * v2) + (a_row v3.toNatClampNeg))) fun v2_3 =>
      zlet (v3 + 1) fun v3_4 =>
      fX4_asDigits_L4 a_row p1 n v2_3 v3_4)
def fX4_asDigits (fuel : Nat) (a_row : Nat → Int32) (p1 : Int32) : Option (Int32) :=
  fX4_asDigits_L4 a_row p1 fuel 0 0
def fX4_greatestDivisor_L7 : Nat → Int32 → Int32 → Int32 → Option (Int32)
  | 0, _, _, _ => none
  | n + 1, v2, v3, v4 =>
    if 100 ≤ v4 then (
      some (v2))
    else (
      if v3 = 0 then (
        some (v2))
      else (
        zg (decide (¬ v3 = 0)) <|
        zlet (v2 - v2 / v3 * v3) fun v5_4 =>
        zlet (v4 + 1) fun v4_5 =>
        fX4_greatestDivisor_L7 n v3 v5_4 v4_5))
def fX4_greatestDivisor (fuel : Nat) (p0 : Int32) (p1 : Int32) : Option (Int32) :=
  fX4_greatestDivisor_L7 fuel p0 p1 0
def fX4_next_L70 (fuel : Nat) : Nat → Int32 → Int32 → (Nat → Int32) → Option ((Nat → Int32))
  | 0, _, _, _ => none
  | n + 1, v4, v5, a_row =>
    if v5 ≤ v4 then (
      some (a_row))
    else (
      (fX4_swap fuel a_row v4 v5).bind fun o_18 =>
      zlet (v4 + 1) fun v4_19 =>
      zlet (v5 + (-1)) fun v5_20 =>
      fX4_next_L70 fuel n v4_19 v5_20 o_18)
def fX4_next_J54 (fuel : Nat) (p1 : Int32) (v2 : Int32) (v3 : Int32) (a_row : Nat → Int32) : Option ((Nat → Int32)) :=
  (fX4_swap fuel a_row v2 v3).bind fun o_14 =>
  zlet (v2 + 1) fun v4_15 =>
  zlet (p1 - 1) fun v5_16 =>
  fX4_next_L70 fuel fuel v4_15 v5_16 o_14
def fX4_next_L34 (fuel : Nat) (p1 : Int32) : Nat → Int32 → Int32 → (Nat → Int32) → Option ((Nat → Int32))
  | 0, _, _, _ => none
  | n + 1, v2, v3, a_row =>
    if v3 ≤ v2 then (
      fX4_next_J54 fuel p1 v2 v3 a_row)
    else (
      zg (zin v3 10) <|
      zg (zin v2 10) <|
      if (a_row v2.toNatClampNeg) ≤ (a_row v3.toNatClampNeg) then (
        fX4_next_J54 fuel p1 v2 v3 a_row)
      else (
        zlet (v3 + (-1)) fun v3_13 =>
        fX4_next_L34 fuel p1 n v2 v3_13 a_row))
def fX4_next_J25 (fuel : Nat) (p1 : Int32) (v2 : Int32) (a_row : Nat → Int32) : Option ((Nat → Int32)) :=
  if 0 ≤ v2 then (
    zlet (p1 - 1) fun v3_8 =>
    fX4_next_L34 fuel p1 fuel v2 v3_8 a_row)
  else (
    some (a_row))
def fX4_next_L4 (fuel : Nat) (p1 : Int32) : Nat → Int32 → (Nat → Int32) → Option ((Nat → Int32))
  | 0, _, _ => none
  | n + 1, v2, a_row =>
    if v2 < 0 then (
      fX4_next_J25 fuel p1 v2 a_row)
    else (
      zg (zin v2 10) <|
      zg (zin (v2 + 1) 10) <|
      if (a_row v2.toNatClampNeg) ≤ ((a_row (v2 + 1).toNatClampNeg)) then (
        fX4_next_J25 fuel p1 v2 a_row)
      else (
        zlet (v2 + (-1)) fun v2_6 =>
        fX4_next_L4 fuel p1 n v2_6 a_row))
def fX4_next (fuel : Nat) (a_row : Nat → Int32) (p1 : Int32) : Option ((Nat → Int32)) :=
  zlet (p1 - 2) fun v2_1 =>
  fX4_next_L4 fuel p1 fuel v2_1 a_row
