def fX3_sortByGoing_J61 (k2 : Int32 → (Nat → Int32) → Option ((Nat → Int32))) (v1 : Int32) (v2 : Int32) (n_order : Nat → Int32) : Option ((Nat → Int32)) :=
  zg (zin v2 10) <|
  zlet (upd n_order v2.toNatClampNeg v1) fun n_order_11 =>
  zlet (v1 + 1) fun v1_12 =>
  k2 v1_12 n_order_11
def fX3_sortByGoing_L15 (y_going : Nat → Int32) (k2 : Int32 → (Nat → Int32) → Option ((Nat → Int32))) : Nat → Int32 → Int32 → (Nat → Int32) → Option ((Nat → Int32))
  | 0, _, _, _ => none
  | n + 1, v1, v2, n_order =>
    if v2 ≤ 0 then (
      fX3_sortByGoing_J61 k2 v1 v2 n_order)
    else (
      zg (zin (v2 - 1) 10) <|
      zg (zin ((n_order (v2 - 1).toNatClampNeg)) 10) <|
      zg (zin v1 10) <|
      if ((y_going ((n_order (v2 - 1).toNatClampNeg)).toNatClampNeg)) ≤ (y_going v1.toNatClampNeg) then (
        fX3_sortByGoing_J61 k2 v1 v2 n_order)
      else (
        zg (zin v2 10) <|
        zlet (upd n_order v2.toNatClampNeg ((n_order (v2 - 1).toNatClampNeg))) fun n_order_8 =>
        zlet (v2 + (-1)) fun v2_9 =>
        fX3_sortByGoing_L15 y_going k2 n v1 v2_9 n_order_8))
def fX3_sortByGoing_L2 (fuel : Nat) (y_going : Nat → Int32) (r_guests : Int32) : Nat → Int32 → (Nat → Int32) → Option ((Nat → Int32))
  | 0, _, _ => none
  | n + 1, v1, n_order =>
    if r_guests ≤ v1 then (
      some (n_order))
    else (
      fX3_sortByGoing_L15 y_going (fX3_sortByGoing_L2 fuel y_going r_guests n) fuel v1 v1 n_order)
def fX3_sortByGoing (fuel : Nat) (n_order : Nat → Int32) (y_going : Nat → Int32) (r_guests : Int32) : Option ((Nat → Int32)) :=
  fX3_sortByGoing_L2 fuel y_going r_guests fuel 0 n_order
def fX3_layAs_J63 (k18 : Int32 → Int32 → (Nat → Nat → Int32) → (Nat → Int32) → (Nat → Int32) → Option (Int32 × (Nat → Nat → Int32) × (Nat → Int32) × (Nat → Int32))) (v2 : Int32) (b_heaps : Int32) (b_piles : Nat → Nat → Int32) (b_heights : Nat → Int32) (b_spots : Nat → Int32) : Option (Int32 × (Nat → Nat → Int32) × (Nat → Int32) × (Nat → Int32)) :=
  zlet (v2 + 1) fun v2_8 =>
  k18 v2_8 b_heaps b_piles b_heights b_spots
def fX3_layAs_L18 (fuel : Nat) (a_row : Nat → Int32) (r_guests : Int32) : Nat → Int32 → Int32 → (Nat → Nat → Int32) → (Nat → Int32) → (Nat → Int32) → Option (Int32 × (Nat → Nat → Int32) × (Nat → Int32) × (Nat → Int32))
  | 0, _, _, _, _, _ => none
  | n + 1, v2, b_heaps, b_piles, b_heights, b_spots =>
    if r_guests ≤ v2 then (
      some (b_heaps, b_piles, b_heights, b_spots))
    else (
      zg (zin v2 10) <|
      (fX9_isHeap fuel (a_row v2.toNatClampNeg)).bind fun o_4 =>
      if o_4 = 0 then (
        zlet (upd b_spots v2.toNatClampNeg 9) fun b_spots_6 =>
        fX3_layAs_J63 (fX3_layAs_L18 fuel a_row r_guests n) v2 b_heaps b_piles b_heights b_spots_6)
      else (
        (fX0_lay fuel b_piles b_heights b_spots (a_row v2.toNatClampNeg) v2).bind fun o_7 =>
        fX3_layAs_J63 (fX3_layAs_L18 fuel a_row r_guests n) v2 b_heaps o_7.1 o_7.2.1 o_7.2.2))
def fX3_layAs (fuel : Nat) (b_heaps : Int32) (b_piles : Nat → Nat → Int32) (b_heights : Nat → Int32) (b_spots : Nat → Int32) (a_row : Nat → Int32) (r_guests : Int32) (r_settings : Nat → Int32) : Option (Int32 × (Nat → Nat → Int32) × (Nat → Int32) × (Nat → Int32)) :=
  (fX0_clear fuel b_heaps b_heights b_spots (r_settings 0)).bind fun o_1 =>
  fX3_layAs_L18 fuel a_row r_guests fuel 0 o_1.1 b_piles o_1.2.1 o_1.2.2
def fX3_turnAll_J68 (k2 : Int32 → Int32 → (Nat → Nat → Int32) → Option (Int32 × (Nat → Nat → Int32))) (v1 : Int32) (n_allLifts : Int32) (b_piles : Nat → Nat → Int32) : Option (Int32 × (Nat → Nat → Int32)) :=
  zlet (v1 + 1) fun v1_9 =>
  k2 v1_9 n_allLifts b_piles
def fX3_turnAll_L24 (n_weights : Nat → Int32) (b_heights : Nat → Int32) (k2 : Int32 → Int32 → (Nat → Nat → Int32) → Option (Int32 × (Nat → Nat → Int32))) : Nat → Int32 → Int32 → Int32 → (Nat → Nat → Int32) → Option (Int32 × (Nat → Nat → Int32))
  | 0, _, _, _, _ => none
  | n + 1, v1, v2, n_allLifts, b_piles =>
    zg (zin v1 3) <|
    if (b_heights v1.toNatClampNeg) ≤ v2 then (
      fX3_turnAll_J68 k2 v1 n_allLifts b_piles)
    else (
      zg (zin v2 10) <|
      zg (zin ((b_piles (v1.toNatClampNeg) v2.toNatClampNeg)) 10) <|
      zlet ((n_allLifts + ((n_weights ((b_piles (v1.toNatClampNeg) v2.toNatClampNeg)).toNatClampNeg)))) fun x_7 =>
      zlet (v2 + 1) fun v2_8 =>
      fX3_turnAll_L24 n_weights b_heights k2 n v1 v2_8 x_7 b_piles)
def fX3_turnAll_L2 (fuel : Nat) (n_weights : Nat → Int32) (b_heaps : Int32) (b_heights : Nat → Int32) : Nat → Int32 → Int32 → (Nat → Nat → Int32) → Option (Int32 × (Nat → Nat → Int32))
  | 0, _, _, _ => none
  | n + 1, v1, n_allLifts, b_piles =>
    if b_heaps ≤ v1 then (
      some (n_allLifts, b_piles))
    else (
      (fX0_turnFrom fuel b_piles b_heights v1 0).bind fun o_2 =>
      fX3_turnAll_L24 n_weights b_heights (fX3_turnAll_L2 fuel n_weights b_heaps b_heights n) fuel v1 0 n_allLifts o_2)
def fX3_turnAll (fuel : Nat) (n_weights : Nat → Int32) (n_allLifts : Int32) (b_heaps : Int32) (b_piles : Nat → Nat → Int32) (b_heights : Nat → Int32) : Option (Int32 × (Nat → Nat → Int32)) :=
  fX3_turnAll_L2 fuel n_weights b_heaps b_heights fuel 0 n_allLifts b_piles
def fX3_heapWithBlack_J55 (k2 : Int32 → Option (Int32)) (v1 : Int32) : Option (Int32) :=
  zlet (v1 + 1) fun v1_8 =>
  k2 v1_8
def fX3_heapWithBlack_L15 (n_black : Nat → Int32) (b_piles : Nat → Nat → Int32) (b_heights : Nat → Int32) (k2 : Int32 → Option (Int32)) : Nat → Int32 → Int32 → Option (Int32)
  | 0, _, _ => none
  | n + 1, v1, v2 =>
    zg (zin v1 3) <|
    if (b_heights v1.toNatClampNeg) ≤ v2 then (
      fX3_heapWithBlack_J55 k2 v1)
    else (
      zg (zin v2 10) <|
      zg (zin ((b_piles (v1.toNatClampNeg) v2.toNatClampNeg)) 10) <|
      if ((n_black ((b_piles (v1.toNatClampNeg) v2.toNatClampNeg)).toNatClampNeg)) = 0 then (
        zlet (v2 + 1) fun v2_7 =>
        fX3_heapWithBlack_L15 n_black b_piles b_heights k2 n v1 v2_7)
      else (
        some (v1)))
def fX3_heapWithBlack_L2 (fuel : Nat) (n_black : Nat → Int32) (b_heaps : Int32) (b_piles : Nat → Nat → Int32) (b_heights : Nat → Int32) : Nat → Int32 → Option (Int32)
  | 0, _ => none
  | n + 1, v1 =>
    if b_heaps ≤ v1 then (
      some ((-4)))
    else (
      fX3_heapWithBlack_L15 n_black b_piles b_heights (fX3_heapWithBlack_L2 fuel n_black b_heaps b_piles b_heights n) fuel v1 0)
def fX3_heapWithBlack (fuel : Nat) (n_black : Nat → Int32) (b_heaps : Int32) (b_piles : Nat → Nat → Int32) (b_heights : Nat → Int32) : Option (Int32) :=
  fX3_heapWithBlack_L2 fuel n_black b_heaps b_piles b_heights fuel 0
def fX3_takes (fuel : Nat) (n_black : Nat → Int32) (r_settings : Nat → Int32) (p1 : Int32) (p2 : Int32) : Option (Int32) :=
  if p2 = p1 then (
    some (1))
  else (
    if (r_settings 3) = 1 then (
      zg (zin p1 10) <|
      if (n_black p1.toNatClampNeg) = 0 then (
        some (0))
      else (
        zg (zin p2 10) <|
        if (n_black p2.toNatClampNeg) = 0 then (
          some (0))
        else (
          some (1))))
    else (
      some (0)))
def fX3_placeOf_L2 (n_order : Nat → Int32) (r_guests : Int32) (p1 : Int32) : Nat → Int32 → Option (Int32)
  | 0, _ => none
  | n + 1, v2 =>
    if r_guests ≤ v2 then (
      some ((-4)))
    else (
      zg (zin v2 10) <|
      if (n_order v2.toNatClampNeg) = p1 then (
        some (v2))
      else (
        zlet (v2 + 1) fun v2_4 =>
        fX3_placeOf_L2 n_order r_guests p1 n v2_4))
def fX3_placeOf (fuel : Nat) (n_order : Nat → Int32) (r_guests : Int32) (p1 : Int32) : Option (Int32) :=
  fX3_placeOf_L2 n_order r_guests p1 fuel 0
def fX3_firstFromMinute_L2 (n_order : Nat → Int32) (y_going : Nat → Int32) (r_guests : Int32) (p1 : Int32) : Nat → Int32 → Option (Int32)
  | 0, _ => none
  | n + 1, v2 =>
    if r_guests ≤ v2 then (
      some ((-4)))
    else (
      zg (zin v2 10) <|
      zg (zin (n_order v2.toNatClampNeg) 10) <|
      if ((y_going (n_order v2.toNatClampNeg).toNatClampNeg)) < p1 then (
        zlet (v2 + 1) fun v2_5 =>
        fX3_firstFromMinute_L2 n_order y_going r_guests p1 n v2_5)
      else (
        some (v2)))
def fX3_firstFromMinute (fuel : Nat) (n_order : Nat → Int32) (y_going : Nat → Int32) (r_guests : Int32) (p1 : Int32) : Option (Int32) :=
  fX3_firstFromMinute_L2 n_order y_going r_guests p1 fuel 0
def fX3_allWaiting_L4 (n_begins : Nat → Int32) (y_going : Nat → Int32) (r_guests : Int32) : Nat → Int32 → Int32 → Option (Int32)
  | 0, _, _ => none
  | n + 1, v1, v2 =>
    if r_guests ≤ v2 then (
      some (v1))
    else (
      zg (zin v2 10) <|
      zlet (((n_begins v2.toNatClampNeg) - (y_going v2.toNatClampNeg))) fun x_3 =>
      zlet (v1 + x_3) fun v1_4 =>
      zlet (v2 + 1) fun v2_5 =>
      fX3_allWaiting_L4 n_begins y_going r_guests n v1_4 v2_5)
def fX3_allWaiting (fuel : Nat) (n_begins : Nat → Int32) (y_going : Nat → Int32) (r_guests : Int32) : Option (Int32) :=
  fX3_allWaiting_L4 n_begins y_going r_guests fuel 0 0
def fX3_howManyHaveAnothers_J39 (k4 : Int32 → Int32 → Option (Int32)) (v1 : Int32) (v2 : Int32) : Option (Int32) :=
  zlet (v2 + 1) fun v2_6 =>
  k4 v1 v2_6
def fX3_howManyHaveAnothers_L4 (n_has : Nat → Int32) (r_guests : Int32) : Nat → Int32 → Int32 → Option (Int32)
  | 0, _, _ => none
  | n + 1, v1, v2 =>
    if r_guests ≤ v2 then (
      some (v1))
    else (
      zg (zin v2 10) <|
      if (n_has v2.toNatClampNeg) = v2 then (
        fX3_howManyHaveAnothers_J39 (fX3_howManyHaveAnothers_L4 n_has r_guests n) v1 v2)
      else (
        if (n_has v2.toNatClampNeg) = (-4) then (
          fX3_howManyHaveAnothers_J39 (fX3_howManyHaveAnothers_L4 n_has r_guests n) v1 v2)
        else (
          zlet (v1 + 1) fun v1_5 =>
          fX3_howManyHaveAnothers_J39 (fX3_howManyHaveAnothers_L4 n_has r_guests n) v1_5 v2)))
def fX3_howManyHaveAnothers (fuel : Nat) (n_has : Nat → Int32) (r_guests : Int32) : Option (Int32) :=
  fX3_howManyHaveAnothers_L4 n_has r_guests fuel 0 0
def fX3_howManyHaveNone_J29 (k4 : Int32 → Int32 → Option (Int32)) (v1 : Int32) (v2 : Int32) : Option (Int32) :=
  zlet (v2 + 1) fun v2_5 =>
  k4 v1 v2_5
def fX3_howManyHaveNone_L4 (n_has : Nat → Int32) (r_guests : Int32) : Nat → Int32 → Int32 → Option (Int32)
  | 0, _, _ => none
  | n + 1, v1, v2 =>
    if r_guests ≤ v2 then (
      some (v1))
    else (
      zg (zin v2 10) <|
      if (n_has v2.toNatClampNeg) = (-4) then (
        zlet (v1 + 1) fun v1_4 =>
        fX3_howManyHaveNone_J29 (fX3_howManyHaveNone_L4 n_has r_guests n) v1_4 v2)
      else (
        fX3_howManyHaveNone_J29 (fX3_howManyHaveNone_L4 n_has r_guests n) v1 v2))
def fX3_howManyHaveNone (fuel : Nat) (n_has : Nat → Int32) (r_guests : Int32) : Option (Int32) :=
  fX3_howManyHaveNone_L4 n_has r_guests fuel 0 0
def fX3_lastEnd_L4 (n_ends : Nat → Int32) (r_guests : Int32) : Nat → Int32 → Int32 → Option (Int32)
  | 0, _, _ => none
  | n + 1, v1, v2 =>
    if r_guests ≤ v2 then (
      some (v1))
    else (
      zg (zin v2 10) <|
      zlet ((zmax v1 (n_ends v2.toNatClampNeg))) fun x_3 =>
      zlet (v2 + 1) fun v2_4 =>
      fX3_lastEnd_L4 n_ends r_guests n x_3 v2_4)
def fX3_lastEnd (fuel : Nat) (n_ends : Nat → Int32) (r_guests : Int32) : Option (Int32) :=
  fX3_lastEnd_L4 n_ends r_guests fuel 0 0
def fX3_stepsRound_L4 (n_has : Nat → Int32) (r_guests : Int32) (p1 : Int32) : Nat → Int32 → Int32 → Option (Int32)
  | 0, _, _ => none
  | n + 1, v2, v3 =>
    if r_guests < v3 then (
      some (0))
    else (
      zg (zin v2 10) <|
      zlet (n_has v2.toNatClampNeg) fun v2_3 =>
      if v2_3 = (-4) then (
        some (0))
      else (
        if v2_3 = p1 then (
          some (v3))
        else (
          zlet (v3 + 1) fun v3_6 =>
          fX3_stepsRound_L4 n_has r_guests p1 n v2_3 v3_6)))
def fX3_stepsRound (fuel : Nat) (n_has : Nat → Int32) (r_guests : Int32) (p1 : Int32) : Option (Int32) :=
  fX3_stepsRound_L4 n_has r_guests p1 fuel p1 1
def fX3_begin_J77 (fuel : Nat) (r_guests : Int32) (n_order : Nat → Int32) (n_weights : Nat → Int32) (n_black : Nat → Int32) (y_going : Nat → Int32) (y_coming : Nat → Int32) : Option ((Nat → Int32) × (Nat → Int32) × (Nat → Int32) × (Nat → Int32) × (Nat → Int32)) :=
  (fX3_sortByGoing fuel n_order y_going r_guests).bind fun o_11 =>
  some (o_11, n_weights, n_black, y_going, y_coming)
def fX3_begin_L7 (fuel : Nat) (r_guests : Int32) (r_kinds : Nat → Int32) (r_figures : Nat → Int32) (r_minutes : Nat → Int32) : Nat → Int32 → (Nat → Int32) → (Nat → Int32) → (Nat → Int32) → (Nat → Int32) → (Nat → Int32) → Option ((Nat → Int32) × (Nat → Int32) × (Nat → Int32) × (Nat → Int32) × (Nat → Int32))
  | 0, _, _, _, _, _, _ => none
  | n + 1, v2, n_order, n_weights, n_black, y_going, y_coming =>
    if r_guests ≤ v2 then (
      fX3_begin_J77 fuel r_guests n_order n_weights n_black y_going y_coming)
    else (
      (fX5_goingMinute fuel r_kinds r_figures r_minutes v2).bind fun o_2 =>
      zg (zin v2 10) <|
      zlet (upd y_going v2.toNatClampNeg o_2) fun y_going_4 =>
      (fX5_weightOf fuel r_kinds r_figures v2).bind fun o_5 =>
      zlet (upd n_weights v2.toNatClampNeg o_5) fun n_weights_6 =>
      (fX1_isBlack fuel (r_kinds v2.toNatClampNeg)).bind fun o_7 =>
      zlet (upd n_black v2.toNatClampNeg (vp_nar .boolean o_7)) fun n_black_8 =>
      zlet (upd y_coming v2.toNatClampNeg v2) fun y_coming_9 =>
      zlet (v2 + 1) fun v2_10 =>
      fX3_begin_L7 fuel r_guests r_kinds r_figures r_minutes n v2_10 n_order n_weights_6 n_black_8 y_going_4 y_coming_9)
def fX3_begin (fuel : Nat) (n_order : Nat → Int32) (n_weights : Nat → Int32) (n_black : Nat → Int32) (y_going : Nat → Int32) (y_coming : Nat → Int32) (r_guests : Int32) (r_kinds : Nat → Int32) (r_figures : Nat → Int32) (r_minutes : Nat → Int32) : Option ((Nat → Int32) × (Nat → Int32) × (Nat → Int32) × (Nat → Int32) × (Nat → Int32)) :=
  fX3_begin_L7 fuel r_guests r_kinds r_figures r_minutes fuel 0 n_order n_weights n_black y_going y_coming
def fX3_dig_J168 (fuel : Nat) (p2 : Int32) (v3 : Int32) (v4 : Int32) (n_lifts : Nat → Int32) (n_has : Nat → Int32) (n_lifted : Nat → Int32) (n_allLifts : Int32) (b_piles : Nat → Nat → Int32) (b_heights : Nat → Int32) (b_spots : Nat → Int32) : Option ((Nat → Int32) × (Nat → Int32) × (Nat → Int32) × Int32 × (Nat → Nat → Int32) × (Nat → Int32) × (Nat → Int32)) :=
  if v4 = 0 then (
    some (n_lifts, n_has, n_lifted, n_allLifts, b_piles, b_heights, b_spots))
  else (
    (fX0_turnFrom fuel b_piles b_heights p2 v3).bind fun o_27 =>
    some (n_lifts, n_has, n_lifted, n_allLifts, o_27, b_heights, b_spots))
def fX3_dig_J97 (fuel : Nat) (b_heaps : Int32) (r_settings : Nat → Int32) (p1 : Int32) (p2 : Int32) (v3 : Int32) (n_lifts : Nat → Int32) (n_has : Nat → Int32) (n_lifted : Nat → Int32) (n_allLifts : Int32) (b_piles : Nat → Nat → Int32) (b_heights : Nat → Int32) (b_spots : Nat → Int32) : Option ((Nat → Int32) × (Nat → Int32) × (Nat → Int32) × Int32 × (Nat → Nat → Int32) × (Nat → Int32) × (Nat → Int32)) :=
  if 0 ≤ v3 then (
    zg (zin p2 3) <|
    zg (zin v3 10) <|
    zg (zin p1 10) <|
    zlet (upd n_has p1.toNatClampNeg ((b_piles (p2.toNatClampNeg) v3.toNatClampNeg))) fun n_has_20 =>
    (fX0_takeOut fuel b_piles b_heights b_spots p2 v3).bind fun o_21 =>
    zlet (r_settings 2) fun v4_22 =>
    if v4_22 = 2 then (
      if b_heaps ≤ 1 then (
        fX3_dig_J168 fuel p2 v3 v4_22 n_lifts n_has_20 n_lifted n_allLifts o_21.1 o_21.2.1 o_21.2.2)
      else (
        (fX0_moveFrom fuel b_heaps o_21.1 o_21.2.1 o_21.2.2 p2 v3).bind fun o_25 =>
        some (n_lifts, n_has_20, n_lifted, n_allLifts, o_25.1, o_25.2.1, o_25.2.2)))
    else (
      fX3_dig_J168 fuel p2 v3 v4_22 n_lifts n_has_20 n_lifted n_allLifts o_21.1 o_21.2.1 o_21.2.2))
  else (
    some (n_lifts, n_has, n_lifted, n_allLifts, b_piles, b_heights, b_spots))
def fX3_dig_L12 (fuel : Nat) (n_weights : Nat → Int32) (n_black : Nat → Int32) (b_heaps : Int32) (r_settings : Nat → Int32) (p1 : Int32) (p2 : Int32) : Nat → Int32 → (Nat → Int32) → (Nat → Int32) → (Nat → Int32) → Int32 → (Nat → Nat → Int32) → (Nat → Int32) → (Nat → Int32) → Option ((Nat → Int32) × (Nat → Int32) × (Nat → Int32) × Int32 × (Nat → Nat → Int32) × (Nat → Int32) × (Nat → Int32))
  | 0, _, _, _, _, _, _, _, _ => none
  | n + 1, v3, n_lifts, n_has, n_lifted, n_allLifts, b_piles, b_heights, b_spots =>
    if v3 < 0 then (
      fX3_dig_J97 fuel b_heaps r_settings p1 p2 v3 n_lifts n_has n_lifted n_allLifts b_piles b_heights b_spots)
    else (
      zg (zin p2 3) <|
      zg (zin v3 10) <|
      (fX3_takes fuel n_black r_settings p1 ((b_piles (p2.toNatClampNeg) v3.toNatClampNeg))).bind fun o_6 =>
      if o_6 = 0 then (
        zlet ((b_piles (p2.toNatClampNeg) v3.toNatClampNeg)) fun v4_8 =>
        zg (zin p1 10) <|
        zg (zin v4_8 10) <|
        zlet (((n_lifts p1.toNatClampNeg) + (n_weights v4_8.toNatClampNeg))) fun x_11 =>
        zlet (upd n_lifts p1.toNatClampNeg x_11) fun n_lifts_12 =>
        zlet ((n_allLifts + (n_weights v4_8.toNatClampNeg))) fun allLifts_13 =>
        zlet (upd n_lifted v4_8.toNatClampNeg (((n_lifted v4_8.toNatClampNeg) + 1))) fun n_lifted_14 =>
        zlet (v3 + (-1)) fun v3_15 =>
        fX3_dig_L12 fuel n_weights n_black b_heaps r_settings p1 p2 n v3_15 n_lifts_12 n_has n_lifted_14 allLifts_13 b_piles b_heights b_spots)
      else (
        fX3_dig_J97 fuel b_heaps r_settings p1 p2 v3 n_lifts n_has n_lifted n_allLifts b_piles b_heights b_spots))
def fX3_dig (fuel : Nat) (n_weights : Nat → Int32) (n_black : Nat → Int32) (n_lifts : Nat → Int32) (n_has : Nat → Int32) (n_lifted : Nat → Int32) (n_allLifts : Int32) (b_heaps : Int32) (b_piles : Nat → Nat → Int32) (b_heights : Nat → Int32) (b_spots : Nat → Int32) (r_settings : Nat → Int32) (p1 : Int32) (p2 : Int32) : Option ((Nat → Int32) × (Nat → Int32) × (Nat → Int32) × Int32 × (Nat → Nat → Int32) × (Nat → Int32) × (Nat → Int32)) :=
  zg (zin p2 3) <|
  zlet (((b_heights p2.toNatClampNeg) - 1)) fun v3_2 =>
  fX3_dig_L12 fuel n_weights n_black b_heaps r_settings p1 p2 fuel v3_2 n_lifts n_has n_lifted n_allLifts b_piles b_heights b_spots
def fX3_missers_J45 (k4 : Int32 → Int32 → Option (Int32)) (v1 : Int32) (v2 : Int32) : Option (Int32) :=
  zlet (v2 + 1) fun v2_6 =>
  k4 v1 v2_6
def fX3_missers_L4 (fuel : Nat) (n_ends : Nat → Int32) (y_going : Nat → Int32) (r_guests : Int32) (r_kinds : Nat → Int32) (r_figures : Nat → Int32) : Nat → Int32 → Int32 → Option (Int32)
  | 0, _, _ => none
  | n + 1, v1, v2 =>
    if r_guests ≤ v2 then (
      some (v1))
    else (
      zg (zin v2 10) <|
      (fX5_spareOf fuel r_kinds r_figures v2).bind fun o_3 =>
      if (n_ends v2.toNatClampNeg) ≤ (((y_going v2.toNatClampNeg) + o_3)) then (
        fX3_missers_J45 (fX3_missers_L4 fuel n_ends y_going r_guests r_kinds r_figures n) v1 v2)
      else (
        zlet ((v1 ||| (((1 : Int32) <<< (v2 &&& 31))))) fun v1_5 =>
        fX3_missers_J45 (fX3_missers_L4 fuel n_ends y_going r_guests r_kinds r_figures n) v1_5 v2))
def fX3_missers (fuel : Nat) (n_ends : Nat → Int32) (y_going : Nat → Int32) (r_guests : Int32) (r_kinds : Nat → Int32) (r_figures : Nat → Int32) : Option (Int32) :=
  fX3_missers_L4 fuel n_ends y_going r_guests r_kinds r_figures fuel 0 0
def fX3_goOne_J112 (p1 : Int32) (n_lifts : Nat → Int32) (n_begins : Nat → Int32) (n_ends : Nat → Int32) (n_has : Nat → Int32) (n_lifted : Nat → Int32) (n_allLifts : Int32) (n_doneAt : Int32) (b_piles : Nat → Nat → Int32) (b_heights : Nat → Int32) (b_spots : Nat → Int32) : Option ((Nat → Int32) × (Nat → Int32) × (Nat → Int32) × (Nat → Int32) × (Nat → Int32) × Int32 × Int32 × (Nat → Nat → Int32) × (Nat → Int32) × (Nat → Int32)) :=
  zg (zin p1 10) <|
  zlet (((n_begins p1.toNatClampNeg) + (n_lifts p1.toNatClampNeg))) fun x_19 =>
  zlet (upd n_ends p1.toNatClampNeg x_19) fun n_ends_20 =>
  zlet (n_ends_20 p1.toNatClampNeg) fun doneAt_21 =>
  some (n_lifts, n_begins, n_ends_20, n_has, n_lifted, n_allLifts, doneAt_21, b_piles, b_heights, b_spots)
def fX3_goOne (fuel : Nat) (n_weights : Nat → Int32) (n_black : Nat → Int32) (n_lifts : Nat → Int32) (n_begins : Nat → Int32) (n_ends : Nat → Int32) (n_has : Nat → Int32) (n_lifted : Nat → Int32) (n_allLifts : Int32) (n_doneAt : Int32) (y_going : Nat → Int32) (b_heaps : Int32) (b_piles : Nat → Nat → Int32) (b_heights : Nat → Int32) (b_spots : Nat → Int32) (r_settings : Nat → Int32) (p1 : Int32) : Option ((Nat → Int32) × (Nat → Int32) × (Nat → Int32) × (Nat → Int32) × (Nat → Int32) × Int32 × Int32 × (Nat → Nat → Int32) × (Nat → Int32) × (Nat → Int32)) :=
  zg (zin p1 10) <|
  zlet (upd n_begins p1.toNatClampNeg (y_going p1.toNatClampNeg)) fun n_begins_2 =>
  zlet (upd n_ends p1.toNatClampNeg (y_going p1.toNatClampNeg)) fun n_ends_3 =>
  (fX0_isFree fuel b_spots p1).bind fun o_4 =>
  if o_4 = 0 then (
    zlet ((zmax (y_going p1.toNatClampNeg) n_doneAt)) fun x_6 =>
    zlet (upd n_begins_2 p1.toNatClampNeg x_6) fun n_begins_7 =>
    (fX0_isOnHeap fuel b_spots p1).bind fun o_8 =>
    if o_8 = 0 then (
      (fX3_heapWithBlack fuel n_black b_heaps b_piles b_heights).bind fun o_10 =>
      if o_10 = (-4) then (
        fX3_goOne_J112 p1 n_lifts n_begins_7 n_ends_3 n_has n_lifted n_allLifts n_doneAt b_piles b_heights b_spots)
      else (
        (fX3_dig fuel n_weights n_black n_lifts n_has n_lifted n_allLifts b_heaps b_piles b_heights b_spots r_settings p1 o_10).bind fun o_12 =>
        fX3_goOne_J112 p1 o_12.1 n_begins_7 n_ends_3 o_12.2.1 o_12.2.2.1 o_12.2.2.2.1 n_doneAt o_12.2.2.2.2.1 o_12.2.2.2.2.2.1 o_12.2.2.2.2.2.2))
    else (
      zlet (b_spots p1.toNatClampNeg) fun v2_13 =>
      if v2_13 = (-4) then (
        fX3_goOne_J112 p1 n_lifts n_begins_7 n_ends_3 n_has n_lifted n_allLifts n_doneAt b_piles b_heights b_spots)
      else (
        (fX3_dig fuel n_weights n_black n_lifts n_has n_lifted n_allLifts b_heaps b_piles b_heights b_spots r_settings p1 v2_13).bind fun o_15 =>
        fX3_goOne_J112 p1 o_15.1 n_begins_7 n_ends_3 o_15.2.1 o_15.2.2.1 o_15.2.2.2.1 n_doneAt o_15.2.2.2.2.1 o_15.2.2.2.2.2.1 o_15.2.2.2.2.2.2)))
  else (
    zlet (upd n_has p1.toNatClampNeg p1) fun n_has_16 =>
    zlet (upd b_spots p1.toNatClampNeg (-1)) fun b_spots_17 =>
    some (n_lifts, n_begins_2, n_ends_3, n_has_16, n_lifted, n_allLifts, n_doneAt, b_piles, b_heights, b_spots_17))
def fX3_letGo_J67 (fuel : Nat) (n_order : Nat → Int32) (n_weights : Nat → Int32) (n_black : Nat → Int32) (y_going : Nat → Int32) (b_heaps : Int32) (r_settings : Nat → Int32) (k53 : Int32 → (Nat → Int32) → (Nat → Int32) → (Nat → Int32) → (Nat → Int32) → (Nat → Int32) → Int32 → Int32 → (Nat → Nat → Int32) → (Nat → Int32) → (Nat → Int32) → Option (Int32 × (Nat → Int32) × (Nat → Int32) × (Nat → Int32) × (Nat → Int32) × (Nat → Int32) × Int32 × Int32 × (Nat → Nat → Int32) × (Nat → Int32) × (Nat → Int32))) (v3 : Int32) (n_lifts : Nat → Int32) (n_begins : Nat → Int32) (n_ends : Nat → Int32) (n_has : Nat → Int32) (n_lifted : Nat → Int32) (n_allLifts : Int32) (n_doneAt : Int32) (b_piles : Nat → Nat → Int32) (b_heights : Nat → Int32) (b_spots : Nat → Int32) : Option (Int32 × (Nat → Int32) × (Nat → Int32) × (Nat → Int32) × (Nat → Int32) × (Nat → Int32) × Int32 × Int32 × (Nat → Nat → Int32) × (Nat → Int32) × (Nat → Int32)) :=
  zg (zin v3 10) <|
  (fX3_goOne fuel n_weights n_black n_lifts n_begins n_ends n_has n_lifted n_allLifts n_doneAt y_going b_heaps b_piles b_heights b_spots r_settings (n_order v3.toNatClampNeg)).bind fun o_11 =>
  zlet (v3 + 1) fun v3_12 =>
  k53 v3_12 o_11.1 o_11.2.1 o_11.2.2.1 o_11.2.2.2.1 o_11.2.2.2.2.1 o_11.2.2.2.2.2.1 o_11.2.2.2.2.2.2.1 o_11.2.2.2.2.2.2.2.1 o_11.2.2.2.2.2.2.2.2.1 o_11.2.2.2.2.2.2.2.2.2
def fX3_letGo_L53 (fuel : Nat) (n_order : Nat → Int32) (n_weights : Nat → Int32) (n_black : Nat → Int32) (y_going : Nat → Int32) (b_heaps : Int32) (r_settings : Nat → Int32) (p1 : Int32) (p2 : Int32) : Nat → Int32 → (Nat → Int32) → (Nat → Int32) → (Nat → Int32) → (Nat → Int32) → (Nat → Int32) → Int32 → Int32 → (Nat → Nat → Int32) → (Nat → Int32) → (Nat → Int32) → Option (Int32 × (Nat → Int32) × (Nat → Int32) × (Nat → Int32) × (Nat → Int32) × (Nat → Int32) × Int32 × Int32 × (Nat → Nat → Int32) × (Nat → Int32) × (Nat → Int32))
  | 0, _, _, _, _, _, _, _, _, _, _, _ => none
  | n + 1, v3, n_lifts, n_begins, n_ends, n_has, n_lifted, n_allLifts, n_doneAt, b_piles, b_heights, b_spots =>
    if p1 ≤ v3 then (
      some (n_allLifts, n_lifts, n_begins, n_ends, n_has, n_lifted, n_allLifts, n_doneAt, b_piles, b_heights, b_spots))
    else (
      if v3 = p2 then (
        (fX3_turnAll fuel n_weights n_allLifts b_heaps b_piles b_heights).bind fun o_9 =>
        fX3_letGo_J67 fuel n_order n_weights n_black y_going b_heaps r_settings (fX3_letGo_L53 fuel n_order n_weights n_black y_going b_heaps r_settings p1 p2 n) v3 n_lifts n_begins n_ends n_has n_lifted o_9.1 n_doneAt o_9.2 b_heights b_spots)
      else (
        fX3_letGo_J67 fuel n_order n_weights n_black y_going b_heaps r_settings (fX3_letGo_L53 fuel n_order n_weights n_black y_going b_heaps r_settings p1 p2 n) v3 n_lifts n_begins n_ends n_has n_lifted n_allLifts n_doneAt b_piles b_heights b_spots))
def fX3_letGo_J51 (fuel : Nat) (n_order : Nat → Int32) (n_weights : Nat → Int32) (n_black : Nat → Int32) (y_going : Nat → Int32) (b_heaps : Int32) (r_settings : Nat → Int32) (p1 : Int32) (p2 : Int32) (n_lifts : Nat → Int32) (n_begins : Nat → Int32) (n_ends : Nat → Int32) (n_has : Nat → Int32) (n_lifted : Nat → Int32) (n_allLifts : Int32) (n_doneAt : Int32) (b_piles : Nat → Nat → Int32) (b_heights : Nat → Int32) (b_spots : Nat → Int32) : Option (Int32 × (Nat → Int32) × (Nat → Int32) × (Nat → Int32) × (Nat → Int32) × (Nat → Int32) × Int32 × Int32 × (Nat → Nat → Int32) × (Nat → Int32) × (Nat → Int32)) :=
  fX3_letGo_L53 fuel n_order n_weights n_black y_going b_heaps r_settings p1 p2 fuel 0 n_lifts n_begins n_ends n_has n_lifted n_allLifts n_doneAt b_piles b_heights b_spots
def fX3_letGo_L12 (fuel : Nat) (n_order : Nat → Int32) (n_weights : Nat → Int32) (n_black : Nat → Int32) (y_going : Nat → Int32) (b_heaps : Int32) (r_guests : Int32) (r_settings : Nat → Int32) (p1 : Int32) (p2 : Int32) : Nat → Int32 → (Nat → Int32) → (Nat → Int32) → (Nat → Int32) → (Nat → Int32) → (Nat → Int32) → Int32 → Int32 → (Nat → Nat → Int32) → (Nat → Int32) → (Nat → Int32) → Option (Int32 × (Nat → Int32) × (Nat → Int32) × (Nat → Int32) × (Nat → Int32) × (Nat → Int32) × Int32 × Int32 × (Nat → Nat → Int32) × (Nat → Int32) × (Nat → Int32))
  | 0, _, _, _, _, _, _, _, _, _, _, _ => none
  | n + 1, v3, n_lifts, n_begins, n_ends, n_has, n_lifted, n_allLifts, n_doneAt, b_piles, b_heights, b_spots =>
    if r_guests ≤ v3 then (
      fX3_letGo_J51 fuel n_order n_weights n_black y_going b_heaps r_settings p1 p2 n_lifts n_begins n_ends n_has n_lifted n_allLifts n_doneAt b_piles b_heights b_spots)
    else (
      zg (zin v3 10) <|
      zlet (upd n_lifts v3.toNatClampNeg 0) fun n_lifts_3 =>
      zlet (upd n_lifted v3.toNatClampNeg 0) fun n_lifted_4 =>
      zlet (upd n_has v3.toNatClampNeg (-4)) fun n_has_5 =>
      zlet (v3 + 1) fun v3_6 =>
      fX3_letGo_L12 fuel n_order n_weights n_black y_going b_heaps r_guests r_settings p1 p2 n v3_6 n_lifts_3 n_begins n_ends n_has_5 n_lifted_4 n_allLifts n_doneAt b_piles b_heights b_spots)
def fX3_letGo (fuel : Nat) (n_order : Nat → Int32) (n_weights : Nat → Int32) (n_black : Nat → Int32) (n_lifts : Nat → Int32) (n_begins : Nat → Int32) (n_ends : Nat → Int32) (n_has : Nat → Int32) (n_lifted : Nat → Int32) (n_allLifts : Int32) (n_doneAt : Int32) (y_going : Nat → Int32) (b_heaps : Int32) (b_piles : Nat → Nat → Int32) (b_heights : Nat → Int32) (b_spots : Nat → Int32) (r_guests : Int32) (r_settings : Nat → Int32) (p1 : Int32) (p2 : Int32) : Option (Int32 × (Nat → Int32) × (Nat → Int32) × (Nat → Int32) × (Nat → Int32) × (Nat → Int32) × Int32 × Int32 × (Nat → Nat → Int32) × (Nat → Int32) × (Nat → Int32)) :=
  fX3_letGo_L12 fuel n_order n_weights n_black y_going b_heaps r_guests r_settings p1 p2 fuel 0 n_lifts n_begins n_ends n_has n_lifted 0 0 b_piles b_heights b_spots
def fX3_pass (fuel : Nat) (n_order : Nat → Int32) (n_weights : Nat → Int32) (n_black : Nat → Int32) (n_lifts : Nat → Int32) (n_begins : Nat → Int32) (n_ends : Nat → Int32) (n_has : Nat → Int32) (n_lifted : Nat → Int32) (n_allLifts : Int32) (n_doneAt : Int32) (y_going : Nat → Int32) (y_coming : Nat → Int32) (y_holds : Int32) (y_latest : Int32) (b_heaps : Int32) (b_piles : Nat → Nat → Int32) (b_heights : Nat → Int32) (b_spots : Nat → Int32) (r_guests : Int32) (r_kinds : Nat → Int32) (r_figures : Nat → Int32) (r_minutes : Nat → Int32) (r_settings : Nat → Int32) (r_hooks : Int32) (r_letters : Nat → Int32) (r_letterCount : Int32) : Option (Int32 × (Nat → Int32) × (Nat → Int32) × (Nat → Int32) × (Nat → Int32) × (Nat → Int32) × (Nat → Int32) × (Nat → Int32) × (Nat → Int32) × Int32 × Int32 × (Nat → Int32) × (Nat → Int32) × Int32 × Int32 × Int32 × (Nat → Nat → Int32) × (Nat → Int32) × (Nat → Int32)) :=
  (fX3_begin fuel n_order n_weights n_black y_going y_coming r_guests r_kinds r_figures r_minutes).bind fun o_1 =>
  (fX2_layAll fuel o_1.2.2.2.1 o_1.2.2.2.2 y_holds y_latest b_heaps b_piles b_heights b_spots r_guests r_settings r_hooks r_letters r_letterCount).bind fun o_2 =>
  (fX3_letGo fuel o_1.1 o_1.2.1 o_1.2.2.1 n_lifts n_begins n_ends n_has n_lifted n_allLifts n_doneAt o_1.2.2.2.1 o_2.2.2.1 o_2.2.2.2.1 o_2.2.2.2.2.1 o_2.2.2.2.2.2 r_guests r_settings r_guests (-4)).bind fun o_3 =>
  some (o_3.1, o_1.1, o_1.2.1, o_1.2.2.1, o_3.2.1, o_3.2.2.1, o_3.2.2.2.1, o_3.2.2.2.2.1, o_3.2.2.2.2.2.1, o_3.2.2.2.2.2.2.1, o_3.2.2.2.2.2.2.2.1, o_1.2.2.2.1, o_1.2.2.2.2, o_2.1, o_2.2.1, o_2.2.2.1, o_3.2.2.2.2.2.2.2.2.1, o_3.2.2.2.2.2.2.2.2.2.1, o_3.2.2.2.2.2.2.2.2.2.2)
