def fX0_clear_L35 : Nat → Int32 → Int32 → (Nat → Int32) → (Nat → Int32) → Option (Int32 × (Nat → Int32) × (Nat → Int32))
  | 0, _, _, _, _ => none
  | n + 1, v2, b_heaps, b_heights, b_spots =>
    if 10 ≤ v2 then (
      some (b_heaps, b_heights, b_spots))
    else (
      zg (zin v2 10) <|
      zlet (upd b_spots v2.toNatClampNeg (-1)) fun b_spots_9 =>
      zlet (v2 + 1) fun v2_10 =>
      fX0_clear_L35 n v2_10 b_heaps b_heights b_spots_9)
def fX0_clear_J33 (fuel : Nat) (b_heaps : Int32) (b_heights : Nat → Int32) (b_spots : Nat → Int32) : Option (Int32 × (Nat → Int32) × (Nat → Int32)) :=
  fX0_clear_L35 fuel 0 b_heaps b_heights b_spots
def fX0_clear_L15 (fuel : Nat) : Nat → Int32 → Int32 → (Nat → Int32) → (Nat → Int32) → Option (Int32 × (Nat → Int32) × (Nat → Int32))
  | 0, _, _, _, _ => none
  | n + 1, v2, b_heaps, b_heights, b_spots =>
    if 3 ≤ v2 then (
      fX0_clear_J33 fuel b_heaps b_heights b_spots)
    else (
      zg (zin v2 3) <|
      zlet (upd b_heights v2.toNatClampNeg 0) fun b_heights_5 =>
      zlet (v2 + 1) fun v2_6 =>
      fX0_clear_L15 fuel n v2_6 b_heaps b_heights_5 b_spots)
def fX0_clear (fuel : Nat) (b_heaps : Int32) (b_heights : Nat → Int32) (b_spots : Nat → Int32) (p1 : Int32) : Option (Int32 × (Nat → Int32) × (Nat → Int32)) :=
  zlet (zmin p1 3) fun x_1 =>
  zlet (zmax 1 x_1) fun x_2 =>
  fX0_clear_L15 fuel fuel 0 x_2 b_heights b_spots
def fX0_isOnHeap (fuel : Nat) (b_spots : Nat → Int32) (p1 : Int32) : Option (Int32) :=
  zg (zin p1 10) <|
  (fX9_isHeap fuel (b_spots p1.toNatClampNeg)).bind fun o_2 =>
  zg (decide (o_2 = 0 ∨ o_2 = 1)) <|
  some (o_2)
def fX0_isFree (fuel : Nat) (b_spots : Nat → Int32) (p1 : Int32) : Option (Int32) :=
  zg (zin p1 10) <|
  if (b_spots p1.toNatClampNeg) = 9 then (
    some (1))
  else (
    if (b_spots p1.toNatClampNeg) = (-4) then (
      some (1))
    else (
      some (0)))
def fX0_lay (fuel : Nat) (b_piles : Nat → Nat → Int32) (b_heights : Nat → Int32) (b_spots : Nat → Int32) (p1 : Int32) (p2 : Int32) : Option ((Nat → Nat → Int32) × (Nat → Int32) × (Nat → Int32)) :=
  zg (zin p1 3) <|
  if 10 ≤ (b_heights p1.toNatClampNeg) then (
    some (b_piles, b_heights, b_spots))
  else (
    zg (zin (b_heights p1.toNatClampNeg) 10) <|
    zlet (va_up b_piles (p1.toNatClampNeg) (upd (b_piles (p1.toNatClampNeg)) (b_heights p1.toNatClampNeg).toNatClampNeg p2)) fun b_piles_4 =>
    zlet (upd b_heights p1.toNatClampNeg (((b_heights p1.toNatClampNeg) + 1))) fun b_heights_5 =>
    zg (zin p2 10) <|
    zlet (upd b_spots p2.toNatClampNeg p1) fun b_spots_7 =>
    some (b_piles_4, b_heights_5, b_spots_7))
def fX0_coatAt (fuel : Nat) (b_piles : Nat → Nat → Int32) (b_heights : Nat → Int32) (p1 : Int32) (p2 : Int32) : Option (Int32) :=
  if p2 < 0 then (
    some ((-4)))
  else (
    zg (zin p1 3) <|
    if (b_heights p1.toNatClampNeg) ≤ p2 then (
      some ((-4)))
    else (
      zg (zin p2 10) <|
      some ((b_piles (p1.toNatClampNeg) p2.toNatClampNeg))))
def fX0_topOf (fuel : Nat) (b_piles : Nat → Nat → Int32) (b_heights : Nat → Int32) (p1 : Int32) : Option (Int32) :=
  zg (zin p1 3) <|
  if (b_heights p1.toNatClampNeg) ≤ 0 then (
    some ((-4)))
  else (
    zg (zin (((b_heights p1.toNatClampNeg) - 1)) 10) <|
    some ((b_piles (p1.toNatClampNeg) (((b_heights p1.toNatClampNeg) - 1)).toNatClampNeg)))
def fX0_coatsAbove_L29 (b_piles : Nat → Nat → Int32) (p1 : Int32) : Nat → Int32 → Int32 → Int32 → Option (Int32)
  | 0, _, _, _ => none
  | n + 1, v2, v3, v4 =>
    if v4 < 0 then (
      some (v3))
    else (
      zg (zin v2 3) <|
      zg (zin v4 10) <|
      if ((b_piles (v2.toNatClampNeg) v4.toNatClampNeg)) = p1 then (
        some (v3))
      else (
        zlet (v3 + 1) fun v3_11 =>
        zlet (v4 + (-1)) fun v4_12 =>
        fX0_coatsAbove_L29 b_piles p1 n v2 v3_11 v4_12))
def fX0_coatsAbove (fuel : Nat) (b_piles : Nat → Nat → Int32) (b_heights : Nat → Int32) (b_spots : Nat → Int32) (p1 : Int32) : Option (Int32) :=
  (fX0_isOnHeap fuel b_spots p1).bind fun o_1 =>
  if o_1 = 0 then (
    some (0))
  else (
    zg (zin p1 10) <|
    zlet (b_spots p1.toNatClampNeg) fun v2_4 =>
    zg (zin v2_4 3) <|
    zlet (((b_heights v2_4.toNatClampNeg) - 1)) fun v4_6 =>
    fX0_coatsAbove_L29 b_piles p1 fuel v2_4 0 v4_6)
def fX0_takeOut_L26 (p1 : Int32) : Nat → Int32 → (Nat → Nat → Int32) → (Nat → Int32) → (Nat → Int32) → Option ((Nat → Nat → Int32) × (Nat → Int32) × (Nat → Int32))
  | 0, _, _, _, _ => none
  | n + 1, v3, b_piles, b_heights, b_spots =>
    zg (zin p1 3) <|
    if (b_heights p1.toNatClampNeg) ≤ v3 then (
      some (b_piles, b_heights, b_spots))
    else (
      zg (zin (v3 + 1) 10) <|
      zg (zin v3 10) <|
      zlet (va_up b_piles (p1.toNatClampNeg) (upd (b_piles (p1.toNatClampNeg)) v3.toNatClampNeg ((b_piles (p1.toNatClampNeg) (v3 + 1).toNatClampNeg)))) fun b_piles_10 =>
      zlet (v3 + 1) fun v3_11 =>
      fX0_takeOut_L26 p1 n v3_11 b_piles_10 b_heights b_spots)
def fX0_takeOut (fuel : Nat) (b_piles : Nat → Nat → Int32) (b_heights : Nat → Int32) (b_spots : Nat → Int32) (p1 : Int32) (p2 : Int32) : Option ((Nat → Nat → Int32) × (Nat → Int32) × (Nat → Int32)) :=
  zg (zin p1 3) <|
  zg (zin p2 10) <|
  zg (zin ((b_piles (p1.toNatClampNeg) p2.toNatClampNeg)) 10) <|
  zlet (upd b_spots ((b_piles (p1.toNatClampNeg) p2.toNatClampNeg)).toNatClampNeg (-1)) fun b_spots_4 =>
  zlet (upd b_heights p1.toNatClampNeg (((b_heights p1.toNatClampNeg) - 1))) fun b_heights_5 =>
  fX0_takeOut_L26 p1 fuel p2 b_piles b_heights_5 b_spots_4
def fX0_turnFrom_L12 (p1 : Int32) : Nat → Int32 → Int32 → (Nat → Nat → Int32) → Option ((Nat → Nat → Int32))
  | 0, _, _, _ => none
  | n + 1, v3, v4, b_piles =>
    if v4 ≤ v3 then (
      some (b_piles))
    else (
      zg (zin p1 3) <|
      zg (zin v3 10) <|
      zlet ((b_piles (p1.toNatClampNeg) v3.toNatClampNeg)) fun v5_6 =>
      zg (zin v4 10) <|
      zlet (va_up b_piles (p1.toNatClampNeg) (upd (b_piles (p1.toNatClampNeg)) v3.toNatClampNeg ((b_piles (p1.toNatClampNeg) v4.toNatClampNeg)))) fun b_piles_8 =>
      zlet (va_up b_piles_8 (p1.toNatClampNeg) (upd (b_piles_8 (p1.toNatClampNeg)) v4.toNatClampNeg v5_6)) fun b_piles_9 =>
      zlet (v3 + 1) fun v3_10 =>
      zlet (v4 + (-1)) fun v4_11 =>
      fX0_turnFrom_L12 p1 n v3_10 v4_11 b_piles_9)
def fX0_turnFrom (fuel : Nat) (b_piles : Nat → Nat → Int32) (b_heights : Nat → Int32) (p1 : Int32) (p2 : Int32) : Option ((Nat → Nat → Int32)) :=
  zg (zin p1 3) <|
  zlet (((b_heights p1.toNatClampNeg) - 1)) fun v4_2 =>
  fX0_turnFrom_L12 p1 fuel p2 v4_2 b_piles
def fX0_moveFrom_L28 (fuel : Nat) (p1 : Int32) (p2 : Int32) : Nat → Int32 → Int32 → (Nat → Nat → Int32) → (Nat → Int32) → (Nat → Int32) → Option ((Nat → Nat → Int32) × (Nat → Int32) × (Nat → Int32))
  | 0, _, _, _, _, _ => none
  | n + 1, v3, v4, b_piles, b_heights, b_spots =>
    if v4 < p2 then (
      some (b_piles, b_heights, b_spots))
    else (
      zg (zin p1 3) <|
      zlet (upd b_heights p1.toNatClampNeg v4) fun b_heights_9 =>
      zg (zin v4 10) <|
      (fX0_lay fuel b_piles b_heights_9 b_spots v3 ((b_piles (p1.toNatClampNeg) v4.toNatClampNeg))).bind fun o_11 =>
      zlet (v4 + (-1)) fun v4_12 =>
      fX0_moveFrom_L28 fuel p1 p2 n v3 v4_12 o_11.1 o_11.2.1 o_11.2.2)
def fX0_moveFrom (fuel : Nat) (b_heaps : Int32) (b_piles : Nat → Nat → Int32) (b_heights : Nat → Int32) (b_spots : Nat → Int32) (p1 : Int32) (p2 : Int32) : Option ((Nat → Nat → Int32) × (Nat → Int32) × (Nat → Int32)) :=
  if b_heaps ≤ (p1 + 1) then (
    zg (zin p1 3) <|
    zlet (((b_heights p1.toNatClampNeg) - 1)) fun v4_3 =>
    fX0_moveFrom_L28 fuel p1 p2 fuel 0 v4_3 b_piles b_heights b_spots)
  else (
    zlet (p1 + 1) fun v3_4 =>
    zg (zin p1 3) <|
    zlet (((b_heights p1.toNatClampNeg) - 1)) fun v4_6 =>
    fX0_moveFrom_L28 fuel p1 p2 fuel v3_4 v4_6 b_piles b_heights b_spots)
def fX0_giveIfFree (fuel : Nat) (b_piles : Nat → Nat → Int32) (b_heights : Nat → Int32) (b_spots : Nat → Int32) (p1 : Int32) : Option (Int32 × (Nat → Nat → Int32) × (Nat → Int32) × (Nat → Int32)) :=
  (fX0_isFree fuel b_spots p1).bind fun o_1 =>
  if o_1 = 0 then (
    (fX0_isOnHeap fuel b_spots p1).bind fun o_3 =>
    if o_3 = 0 then (
      some (0, b_piles, b_heights, b_spots))
    else (
      zg (zin p1 10) <|
      (fX0_topOf fuel b_piles b_heights (b_spots p1.toNatClampNeg)).bind fun o_6 =>
      if o_6 = p1 then (
        zg (zin (b_spots p1.toNatClampNeg) 3) <|
        zlet ((((b_heights (b_spots p1.toNatClampNeg).toNatClampNeg)) - 1)) fun x_9 =>
        (fX0_takeOut fuel b_piles b_heights b_spots (b_spots p1.toNatClampNeg) x_9).bind fun o_10 =>
        some (1, o_10.1, o_10.2.1, o_10.2.2))
      else (
        some (0, b_piles, b_heights, b_spots))))
  else (
    zg (zin p1 10) <|
    zlet (upd b_spots p1.toNatClampNeg (-1)) fun b_spots_12 =>
    some (1, b_piles, b_heights, b_spots_12))
