def fX8_findNothing (fuel : Nat) (q_found : Int32) (q_foundLifts : Int32) : Option (Int32 × Int32) :=
  some ((-4), (-4))
def fX8_findIfFewer_J17 (p1 : Int32) (p2 : Int32) (q_found : Int32) (q_foundLifts : Int32) : Option (Int32 × Int32) :=
  some (p1, p2)
def fX8_findIfFewer (fuel : Nat) (q_found : Int32) (q_foundLifts : Int32) (p1 : Int32) (p2 : Int32) : Option (Int32 × Int32) :=
  if q_foundLifts = (-4) then (
    fX8_findIfFewer_J17 p1 p2 q_found q_foundLifts)
  else (
    if q_foundLifts ≤ p2 then (
      some (q_found, q_foundLifts))
    else (
      fX8_findIfFewer_J17 p1 p2 q_found q_foundLifts))
def fX8_nextLaying_J58 (k7 : Int32 → (Nat → Int32) → Option ((Nat → Int32))) (v2 : Int32) (q_row : Nat → Int32) : Option ((Nat → Int32)) :=
  zlet (v2 + (-1)) fun v2_8 =>
  k7 v2_8 q_row
def fX8_nextLaying_L7 (r_settings : Nat → Int32) : Nat → Int32 → (Nat → Int32) → Option ((Nat → Int32))
  | 0, _, _ => none
  | n + 1, v2, q_row =>
    if v2 < 0 then (
      some (q_row))
    else (
      zg (zin v2 10) <|
      if (q_row v2.toNatClampNeg) = 9 then (
        fX8_nextLaying_J58 (fX8_nextLaying_L7 r_settings n) v2 q_row)
      else (
        zlet (upd q_row v2.toNatClampNeg (((q_row v2.toNatClampNeg) + 1))) fun q_row_5 =>
        if (r_settings 0) ≤ (q_row_5 v2.toNatClampNeg) then (
          zlet (upd q_row_5 v2.toNatClampNeg 0) fun q_row_7 =>
          fX8_nextLaying_J58 (fX8_nextLaying_L7 r_settings n) v2 q_row_7)
        else (
          some (q_row_5))))
def fX8_nextLaying (fuel : Nat) (q_row : Nat → Int32) (r_guests : Int32) (r_settings : Nat → Int32) : Option ((Nat → Int32)) :=
  zlet (r_guests - 1) fun v2_1 =>
  fX8_nextLaying_L7 r_settings fuel v2_1 q_row
def fX8_goJustBehind_J39 (p1 : Int32) (p3 : Int32) (n_order : Nat → Int32) : Option ((Nat → Int32)) :=
  zg (zin (p3 + 1) 10) <|
  zlet (upd n_order (p3 + 1).toNatClampNeg p1) fun n_order_7 =>
  some (n_order_7)
def fX8_goJustBehind_L3 (p1 : Int32) (p3 : Int32) : Nat → Int32 → (Nat → Int32) → Option ((Nat → Int32))
  | 0, _, _ => none
  | n + 1, v4, n_order =>
    if v4 ≤ (p3 + 1) then (
      fX8_goJustBehind_J39 p1 p3 n_order)
    else (
      zg (zin (v4 - 1) 10) <|
      zg (zin v4 10) <|
      zlet (upd n_order v4.toNatClampNeg ((n_order (v4 - 1).toNatClampNeg))) fun n_order_4 =>
      zlet (v4 + (-1)) fun v4_5 =>
      fX8_goJustBehind_L3 p1 p3 n v4_5 n_order_4)
def fX8_goJustBehind (fuel : Nat) (n_order : Nat → Int32) (p1 : Int32) (p2 : Int32) (p3 : Int32) : Option ((Nat → Int32)) :=
  fX8_goJustBehind_L3 p1 p3 fuel p2 n_order
def fX8_rests_L11 (q_firstsLifts : Nat → Int32) (q_othersLifts : Nat → Int32) (p1 : Int32) : Nat → Int32 → Int32 → Int32 → Option (Int32)
  | 0, _, _, _ => none
  | n + 1, v2, v3, v4 =>
    if 3 ≤ v4 then (
      some (1))
    else (
      zg (zin (((v4 * 3) + v3)) 9) <|
      zg (zin p1 9) <|
      if ((q_firstsLifts (((v4 * 3) + v3)).toNatClampNeg)) < (q_firstsLifts p1.toNatClampNeg) then (
        some (0))
      else (
        zg (zin (((v2 * 3) + v4)) 9) <|
        if (q_othersLifts p1.toNatClampNeg) ≤ ((q_othersLifts (((v2 * 3) + v4)).toNatClampNeg)) then (
          zlet (v4 + 1) fun v4_9 =>
          fX8_rests_L11 q_firstsLifts q_othersLifts p1 n v2 v3 v4_9)
        else (
          some (0))))
def fX8_rests (fuel : Nat) (q_firstsLifts : Nat → Int32) (q_othersLifts : Nat → Int32) (p1 : Int32) : Option (Int32) :=
  zlet (p1 / 3) fun v2_1 =>
  zlet (p1 - p1 / 3 * 3) fun v3_2 =>
  fX8_rests_L11 q_firstsLifts q_othersLifts p1 fuel v2_1 v3_2 0
def fX8_isHeapZero_L23 (fuel : Nat) (s_size : Nat → Int32) (s_el : Nat → Nat → Int32) (b_piles : Nat → Nat → Int32) (b_heights : Nat → Int32) (si : Nat) : Nat → Int32 → Option (Int32)
  | 0, _ => none
  | n + 1, v2 =>
    if (s_size si) ≤ v2 then (
      some (1))
    else (
      zg (zin v2 100) <|
      (fX0_coatAt fuel b_piles b_heights 0 v2).bind fun o_4 =>
      if (s_el si v2.toNatClampNeg) = o_4 then (
        zlet (v2 + 1) fun v2_6 =>
        fX8_isHeapZero_L23 fuel s_size s_el b_piles b_heights si n v2_6)
      else (
        some (0)))
def fX8_isHeapZero (fuel : Nat) (s_size : Nat → Int32) (s_el : Nat → Nat → Int32) (b_piles : Nat → Nat → Int32) (b_heights : Nat → Int32) (si : Nat) : Option (Int32) :=
  if (s_size si) = (b_heights 0) then (
    fX8_isHeapZero_L23 fuel s_size s_el b_piles b_heights si fuel 0)
  else (
    some (0))
def fX8_draw (fuel : Nat) (q_seed : Int32) (p1 : Int32) : Option (Int32 × Int32) :=
  zlet (((q_seed * 1103515245) + 12345)) fun seed_1 =>
  if 1 ≤ p1 then (
    zg (decide (¬ p1 = 0)) <|
    zlet (((((seed_1 &&& 2147483647) / 65536)) - (((seed_1 &&& 2147483647) / 65536)) / p1 * p1)) fun x_4 =>
    some (x_4, seed_1))
  else (
    some (0, seed_1))
def fX8_chainLengths_J82 (k15 : Int32 → (Nat → Int32) → (Nat → Int32) → (Nat → Int32) → (Nat → Int32) → (Nat → Int32) → (Nat → Int32) → Option ((Nat → Int32) × (Nat → Int32) × (Nat → Int32) × (Nat → Int32) × (Nat → Int32) × (Nat → Int32))) (k30 : Int32 → Int32 → (Nat → Int32) → (Nat → Int32) → (Nat → Int32) → (Nat → Int32) → (Nat → Int32) → (Nat → Int32) → Option ((Nat → Int32) × (Nat → Int32) × (Nat → Int32) × (Nat → Int32) × (Nat → Int32) × (Nat → Int32))) (v2 : Int32) (v3 : Int32) (q_row : Nat → Int32) (n_order : Nat → Int32) (n_weights : Nat → Int32) (n_black : Nat → Int32) (y_going : Nat → Int32) (y_coming : Nat → Int32) : Option ((Nat → Int32) × (Nat → Int32) × (Nat → Int32) × (Nat → Int32) × (Nat → Int32) × (Nat → Int32)) :=
  zlet (v3 + 1) fun v3_14 =>
  k30 v2 v3_14 q_row n_order n_weights n_black y_going y_coming
def fX8_chainLengths_J88 (k15 : Int32 → (Nat → Int32) → (Nat → Int32) → (Nat → Int32) → (Nat → Int32) → (Nat → Int32) → (Nat → Int32) → Option ((Nat → Int32) × (Nat → Int32) × (Nat → Int32) × (Nat → Int32) × (Nat → Int32) × (Nat → Int32))) (v2 : Int32) (q_row : Nat → Int32) (n_order : Nat → Int32) (n_weights : Nat → Int32) (n_black : Nat → Int32) (y_going : Nat → Int32) (y_coming : Nat → Int32) : Option ((Nat → Int32) × (Nat → Int32) × (Nat → Int32) × (Nat → Int32) × (Nat → Int32) × (Nat → Int32)) :=
  zlet (v2 + (-1)) fun v2_13 =>
  k15 v2_13 q_row n_order n_weights n_black y_going y_coming
def fX8_chainLengths_L30 (r_guests : Int32) (k15 : Int32 → (Nat → Int32) → (Nat → Int32) → (Nat → Int32) → (Nat → Int32) → (Nat → Int32) → (Nat → Int32) → Option ((Nat → Int32) × (Nat → Int32) × (Nat → Int32) × (Nat → Int32) × (Nat → Int32) × (Nat → Int32))) : Nat → Int32 → Int32 → (Nat → Int32) → (Nat → Int32) → (Nat → Int32) → (Nat → Int32) → (Nat → Int32) → (Nat → Int32) → Option ((Nat → Int32) × (Nat → Int32) × (Nat → Int32) × (Nat → Int32) × (Nat → Int32) × (Nat → Int32))
  | 0, _, _, _, _, _, _, _, _ => none
  | n + 1, v2, v3, q_row, n_order, n_weights, n_black, y_going, y_coming =>
    if r_guests ≤ v3 then (
      fX8_chainLengths_J88 k15 v2 q_row n_order n_weights n_black y_going y_coming)
    else (
      zg (zin v3 10) <|
      zg (zin v2 10) <|
      if (y_going v3.toNatClampNeg) < (y_going v2.toNatClampNeg) then (
        fX8_chainLengths_J82 k15 (fX8_chainLengths_L30 r_guests k15 n) v2 v3 q_row n_order n_weights n_black y_going y_coming)
      else (
        zlet ((zmax (q_row v2.toNatClampNeg) (((q_row v3.toNatClampNeg) + 1)))) fun x_11 =>
        zlet (upd q_row v2.toNatClampNeg x_11) fun q_row_12 =>
        fX8_chainLengths_J82 k15 (fX8_chainLengths_L30 r_guests k15 n) v2 v3 q_row_12 n_order n_weights n_black y_going y_coming))
def fX8_chainLengths_L15 (fuel : Nat) (r_guests : Int32) : Nat → Int32 → (Nat → Int32) → (Nat → Int32) → (Nat → Int32) → (Nat → Int32) → (Nat → Int32) → (Nat → Int32) → Option ((Nat → Int32) × (Nat → Int32) × (Nat → Int32) × (Nat → Int32) × (Nat → Int32) × (Nat → Int32))
  | 0, _, _, _, _, _, _, _ => none
  | n + 1, v2, q_row, n_order, n_weights, n_black, y_going, y_coming =>
    if v2 < 0 then (
      some (q_row, n_order, n_weights, n_black, y_going, y_coming))
    else (
      zg (zin v2 10) <|
      zlet (upd q_row v2.toNatClampNeg 1) fun q_row_5 =>
      zlet (v2 + 1) fun v3_6 =>
      fX8_chainLengths_L30 r_guests (fX8_chainLengths_L15 fuel r_guests n) fuel v2 v3_6 q_row_5 n_order n_weights n_black y_going y_coming)
def fX8_chainLengths (fuel : Nat) (q_row : Nat → Int32) (n_order : Nat → Int32) (n_weights : Nat → Int32) (n_black : Nat → Int32) (y_going : Nat → Int32) (y_coming : Nat → Int32) (r_guests : Int32) (r_kinds : Nat → Int32) (r_figures : Nat → Int32) (r_minutes : Nat → Int32) : Option ((Nat → Int32) × (Nat → Int32) × (Nat → Int32) × (Nat → Int32) × (Nat → Int32) × (Nat → Int32)) :=
  (fX3_begin fuel n_order n_weights n_black y_going y_coming r_guests r_kinds r_figures r_minutes).bind fun o_1 =>
  zlet (r_guests - 1) fun v2_2 =>
  fX8_chainLengths_L15 fuel r_guests fuel v2_2 q_row o_1.1 o_1.2.1 o_1.2.2.1 o_1.2.2.2.1 o_1.2.2.2.2
def fX8_fewestHeaps_L9 (r_guests : Int32) : Nat → Int32 → Int32 → (Nat → Int32) → (Nat → Int32) → (Nat → Int32) → (Nat → Int32) → (Nat → Int32) → (Nat → Int32) → Option (Int32 × (Nat → Int32) × (Nat → Int32) × (Nat → Int32) × (Nat → Int32) × (Nat → Int32) × (Nat → Int32))
  | 0, _, _, _, _, _, _, _, _ => none
  | n + 1, v2, v3, q_row, n_order, n_weights, n_black, y_going, y_coming =>
    if r_guests ≤ v3 then (
      some (v2, q_row, n_order, n_weights, n_black, y_going, y_coming))
    else (
      zg (zin v3 10) <|
      zlet ((zmax v2 (q_row v3.toNatClampNeg))) fun x_4 =>
      zlet (v3 + 1) fun v3_5 =>
      fX8_fewestHeaps_L9 r_guests n x_4 v3_5 q_row n_order n_weights n_black y_going y_coming)
def fX8_fewestHeaps (fuel : Nat) (q_row : Nat → Int32) (n_order : Nat → Int32) (n_weights : Nat → Int32) (n_black : Nat → Int32) (y_going : Nat → Int32) (y_coming : Nat → Int32) (r_guests : Int32) (r_kinds : Nat → Int32) (r_figures : Nat → Int32) (r_minutes : Nat → Int32) : Option (Int32 × (Nat → Int32) × (Nat → Int32) × (Nat → Int32) × (Nat → Int32) × (Nat → Int32) × (Nat → Int32)) :=
  (fX8_chainLengths fuel q_row n_order n_weights n_black y_going y_coming r_guests r_kinds r_figures r_minutes).bind fun o_1 =>
  fX8_fewestHeaps_L9 r_guests fuel 0 0 o_1.1 o_1.2.1 o_1.2.2.1 o_1.2.2.2.1 o_1.2.2.2.2.1 o_1.2.2.2.2.2
def fX8_shownGuest_J77 (k15 : Int32 → Int32 → Int32 → Int32 → (Nat → Int32) → (Nat → Int32) → (Nat → Int32) → (Nat → Int32) → (Nat → Int32) → (Nat → Int32) → Option (Int32 × (Nat → Int32) × (Nat → Int32) × (Nat → Int32) × (Nat → Int32) × (Nat → Int32) × (Nat → Int32))) (v3 : Int32) (v4 : Int32) (v5 : Int32) (v6 : Int32) (q_row : Nat → Int32) (n_order : Nat → Int32) (n_weights : Nat → Int32) (n_black : Nat → Int32) (y_going : Nat → Int32) (y_coming : Nat → Int32) : Option (Int32 × (Nat → Int32) × (Nat → Int32) × (Nat → Int32) × (Nat → Int32) × (Nat → Int32) × (Nat → Int32)) :=
  zlet (v6 + 1) fun v6_10 =>
  k15 v3 v4 v5 v6_10 q_row n_order n_weights n_black y_going y_coming
def fX8_shownGuest_L15 (r_guests : Int32) (p2 : Int32) : Nat → Int32 → Int32 → Int32 → Int32 → (Nat → Int32) → (Nat → Int32) → (Nat → Int32) → (Nat → Int32) → (Nat → Int32) → (Nat → Int32) → Option (Int32 × (Nat → Int32) × (Nat → Int32) × (Nat → Int32) × (Nat → Int32) × (Nat → Int32) × (Nat → Int32))
  | 0, _, _, _, _, _, _, _, _, _, _ => none
  | n + 1, v3, v4, v5, v6, q_row, n_order, n_weights, n_black, y_going, y_coming =>
    if r_guests ≤ v6 then (
      some ((-4), q_row, n_order, n_weights, n_black, y_going, y_coming))
    else (
      zg (zin v6 10) <|
      if (q_row v6.toNatClampNeg) = v3 then (
        if (y_going v6.toNatClampNeg) < v4 then (
          fX8_shownGuest_J77 (fX8_shownGuest_L15 r_guests p2 n) v3 v4 v5 v6 q_row n_order n_weights n_black y_going y_coming)
        else (
          if v5 = p2 then (
            some (v6, q_row, n_order, n_weights, n_black, y_going, y_coming))
          else (
            zlet (v5 + 1) fun v5_7 =>
            zlet (v3 + (-1)) fun v3_8 =>
            zlet (y_going v6.toNatClampNeg) fun v4_9 =>
            fX8_shownGuest_J77 (fX8_shownGuest_L15 r_guests p2 n) v3_8 v4_9 v5_7 v6 q_row n_order n_weights n_black y_going y_coming)))
      else (
        fX8_shownGuest_J77 (fX8_shownGuest_L15 r_guests p2 n) v3 v4 v5 v6 q_row n_order n_weights n_black y_going y_coming))
def fX8_shownGuest (fuel : Nat) (q_row : Nat → Int32) (n_order : Nat → Int32) (n_weights : Nat → Int32) (n_black : Nat → Int32) (y_going : Nat → Int32) (y_coming : Nat → Int32) (r_guests : Int32) (r_kinds : Nat → Int32) (r_figures : Nat → Int32) (r_minutes : Nat → Int32) (p2 : Int32) : Option (Int32 × (Nat → Int32) × (Nat → Int32) × (Nat → Int32) × (Nat → Int32) × (Nat → Int32) × (Nat → Int32)) :=
  (fX8_fewestHeaps fuel q_row n_order n_weights n_black y_going y_coming r_guests r_kinds r_figures r_minutes).bind fun o_1 =>
  fX8_shownGuest_L15 r_guests p2 fuel o_1.1 (-1) 0 0 o_1.2.1 o_1.2.2.1 o_1.2.2.2.1 o_1.2.2.2.2.1 o_1.2.2.2.2.2.1 o_1.2.2.2.2.2.2
def fX8_tryLaying_J46 (fuel : Nat) (q_row : Nat → Int32) (n_order : Nat → Int32) (n_weights : Nat → Int32) (n_black : Nat → Int32) (y_going : Nat → Int32) (r_guests : Int32) (r_settings : Nat → Int32) (q_found : Int32) (q_foundLifts : Int32) (n_lifts : Nat → Int32) (n_begins : Nat → Int32) (n_ends : Nat → Int32) (n_has : Nat → Int32) (n_lifted : Nat → Int32) (n_allLifts : Int32) (n_doneAt : Int32) (b_heaps : Int32) (b_piles : Nat → Nat → Int32) (b_heights : Nat → Int32) (b_spots : Nat → Int32) : Option (Int32 × Int32 × (Nat → Int32) × (Nat → Int32) × (Nat → Int32) × (Nat → Int32) × (Nat → Int32) × Int32 × Int32 × Int32 × (Nat → Nat → Int32) × (Nat → Int32) × (Nat → Int32)) :=
  (fX3_letGo fuel n_order n_weights n_black n_lifts n_begins n_ends n_has n_lifted n_allLifts n_doneAt y_going b_heaps b_piles b_heights b_spots r_guests r_settings r_guests (-4)).bind fun o_6 =>
  (fX4_asDigits fuel q_row r_guests).bind fun o_7 =>
  (fX8_findIfFewer fuel q_found q_foundLifts o_7 o_6.1).bind fun o_8 =>
  some (o_8.1, o_8.2, o_6.2.1, o_6.2.2.1, o_6.2.2.2.1, o_6.2.2.2.2.1, o_6.2.2.2.2.2.1, o_6.2.2.2.2.2.2.1, o_6.2.2.2.2.2.2.2.1, b_heaps, o_6.2.2.2.2.2.2.2.2.1, o_6.2.2.2.2.2.2.2.2.2.1, o_6.2.2.2.2.2.2.2.2.2.2)
def fX8_tryLaying_L13 (fuel : Nat) (q_row : Nat → Int32) (n_order : Nat → Int32) (n_weights : Nat → Int32) (n_black : Nat → Int32) (y_going : Nat → Int32) (r_guests : Int32) (r_settings : Nat → Int32) : Nat → Int32 → Int32 → Int32 → (Nat → Int32) → (Nat → Int32) → (Nat → Int32) → (Nat → Int32) → (Nat → Int32) → Int32 → Int32 → Int32 → (Nat → Nat → Int32) → (Nat → Int32) → (Nat → Int32) → Option (Int32 × Int32 × (Nat → Int32) × (Nat → Int32) × (Nat → Int32) × (Nat → Int32) × (Nat → Int32) × Int32 × Int32 × Int32 × (Nat → Nat → Int32) × (Nat → Int32) × (Nat → Int32))
  | 0, _, _, _, _, _, _, _, _, _, _, _, _, _, _ => none
  | n + 1, v2, q_found, q_foundLifts, n_lifts, n_begins, n_ends, n_has, n_lifted, n_allLifts, n_doneAt, b_heaps, b_piles, b_heights, b_spots =>
    if 3 ≤ v2 then (
      fX8_tryLaying_J46 fuel q_row n_order n_weights n_black y_going r_guests r_settings q_found q_foundLifts n_lifts n_begins n_ends n_has n_lifted n_allLifts n_doneAt b_heaps b_piles b_heights b_spots)
    else (
      zg (zin v2 3) <|
      if (b_heights v2.toNatClampNeg) ≤ (r_settings 1) then (
        zlet (v2 + 1) fun v2_5 =>
        fX8_tryLaying_L13 fuel q_row n_order n_weights n_black y_going r_guests r_settings n v2_5 q_found q_foundLifts n_lifts n_begins n_ends n_has n_lifted n_allLifts n_doneAt b_heaps b_piles b_heights b_spots)
      else (
        some (q_found, q_foundLifts, n_lifts, n_begins, n_ends, n_has, n_lifted, n_allLifts, n_doneAt, b_heaps, b_piles, b_heights, b_spots)))
def fX8_tryLaying (fuel : Nat) (q_row : Nat → Int32) (q_found : Int32) (q_foundLifts : Int32) (n_order : Nat → Int32) (n_weights : Nat → Int32) (n_black : Nat → Int32) (n_lifts : Nat → Int32) (n_begins : Nat → Int32) (n_ends : Nat → Int32) (n_has : Nat → Int32) (n_lifted : Nat → Int32) (n_allLifts : Int32) (n_doneAt : Int32) (y_going : Nat → Int32) (b_heaps : Int32) (b_piles : Nat → Nat → Int32) (b_heights : Nat → Int32) (b_spots : Nat → Int32) (r_guests : Int32) (r_settings : Nat → Int32) : Option (Int32 × Int32 × (Nat → Int32) × (Nat → Int32) × (Nat → Int32) × (Nat → Int32) × (Nat → Int32) × Int32 × Int32 × Int32 × (Nat → Nat → Int32) × (Nat → Int32) × (Nat → Int32)) :=
  (fX3_layAs fuel b_heaps b_piles b_heights b_spots q_row r_guests r_settings).bind fun o_1 =>
  fX8_tryLaying_L13 fuel q_row n_order n_weights n_black y_going r_guests r_settings fuel 0 q_found q_foundLifts n_lifts n_begins n_ends n_has n_lifted n_allLifts n_doneAt o_1.1 o_1.2.1 o_1.2.2.1 o_1.2.2.2
def fX8_liftsInOrder (fuel : Nat) (n_order : Nat → Int32) (n_weights : Nat → Int32) (n_black : Nat → Int32) (n_lifts : Nat → Int32) (n_begins : Nat → Int32) (n_ends : Nat → Int32) (n_has : Nat → Int32) (n_lifted : Nat → Int32) (n_allLifts : Int32) (n_doneAt : Int32) (y_going : Nat → Int32) (y_coming : Nat → Int32) (y_holds : Int32) (y_latest : Int32) (b_heaps : Int32) (b_piles : Nat → Nat → Int32) (b_heights : Nat → Int32) (b_spots : Nat → Int32) (r_guests : Int32) (r_settings : Nat → Int32) (r_hooks : Int32) (r_letters : Nat → Int32) (r_letterCount : Int32) (p2 : Int32) : Option (Int32 × (Nat → Int32) × (Nat → Int32) × (Nat → Int32) × (Nat → Int32) × (Nat → Int32) × Int32 × Int32 × Int32 × Int32 × Int32 × (Nat → Nat → Int32) × (Nat → Int32) × (Nat → Int32)) :=
  (fX2_layAll fuel y_going y_coming y_holds y_latest b_heaps b_piles b_heights b_spots r_guests r_settings r_hooks r_letters r_letterCount).bind fun o_1 =>
  (fX3_letGo fuel n_order n_weights n_black n_lifts n_begins n_ends n_has n_lifted n_allLifts n_doneAt y_going o_1.2.2.1 o_1.2.2.2.1 o_1.2.2.2.2.1 o_1.2.2.2.2.2 r_guests r_settings r_guests p2).bind fun o_2 =>
  some (o_2.1, o_2.2.1, o_2.2.2.1, o_2.2.2.2.1, o_2.2.2.2.2.1, o_2.2.2.2.2.2.1, o_2.2.2.2.2.2.2.1, o_2.2.2.2.2.2.2.2.1, o_1.1, o_1.2.1, o_1.2.2.1, o_2.2.2.2.2.2.2.2.2.1, o_2.2.2.2.2.2.2.2.2.2.1, o_2.2.2.2.2.2.2.2.2.2.2)
def fX8_bestMinuteToTurn_J69 (k28 : Int32 → Int32 → Int32 → Int32 → (Nat → Int32) → (Nat → Int32) → (Nat → Int32) → (Nat → Int32) → (Nat → Int32) → (Nat → Int32) → (Nat → Int32) → (Nat → Int32) → Int32 → Int32 → (Nat → Int32) → (Nat → Int32) → Int32 → Int32 → Int32 → (Nat → Nat → Int32) → (Nat → Int32) → (Nat → Int32) → Option (Int32 × Int32 × Int32 × (Nat → Int32) × (Nat → Int32) × (Nat → Int32) × (Nat → Int32) × (Nat → Int32) × (Nat → Int32) × (Nat → Int32) × (Nat → Int32) × Int32 × Int32 × (Nat → Int32) × (Nat → Int32) × Int32 × Int32 × Int32 × (Nat → Nat → Int32) × (Nat → Int32) × (Nat → Int32))) (v3 : Int32) (v4 : Int32) (q_found : Int32) (q_foundLifts : Int32) (n_order : Nat → Int32) (n_weights : Nat → Int32) (n_black : Nat → Int32) (n_lifts : Nat → Int32) (n_begins : Nat → Int32) (n_ends : Nat → Int32) (n_has : Nat → Int32) (n_lifted : Nat → Int32) (n_allLifts : Int32) (n_doneAt : Int32) (y_going : Nat → Int32) (y_coming : Nat → Int32) (y_holds : Int32) (y_latest : Int32) (b_heaps : Int32) (b_piles : Nat → Nat → Int32) (b_heights : Nat → Int32) (b_spots : Nat → Int32) : Option (Int32 × Int32 × Int32 × (Nat → Int32) × (Nat → Int32) × (Nat → Int32) × (Nat → Int32) × (Nat → Int32) × (Nat → Int32) × (Nat → Int32) × (Nat → Int32) × Int32 × Int32 × (Nat → Int32) × (Nat → Int32) × Int32 × Int32 × Int32 × (Nat → Nat → Int32) × (Nat → Int32) × (Nat → Int32)) :=
  zlet (v3 + 1) fun v3_10 =>
  k28 v4 v3_10 q_found q_foundLifts n_order n_weights n_black n_lifts n_begins n_ends n_has n_lifted n_allLifts n_doneAt y_going y_coming y_holds y_latest b_heaps b_piles b_heights b_spots
def fX8_bestMinuteToTurn_L28 (fuel : Nat) (r_guests : Int32) (r_settings : Nat → Int32) (r_hooks : Int32) (r_letters : Nat → Int32) (r_letterCount : Int32) : Nat → Int32 → Int32 → Int32 → Int32 → (Nat → Int32) → (Nat → Int32) → (Nat → Int32) → (Nat → Int32) → (Nat → Int32) → (Nat → Int32) → (Nat → Int32) → (Nat → Int32) → Int32 → Int32 → (Nat → Int32) → (Nat → Int32) → Int32 → Int32 → Int32 → (Nat → Nat → Int32) → (Nat → Int32) → (Nat → Int32) → Option (Int32 × Int32 × Int32 × (Nat → Int32) × (Nat → Int32) × (Nat → Int32) × (Nat → Int32) × (Nat → Int32) × (Nat → Int32) × (Nat → Int32) × (Nat → Int32) × Int32 × Int32 × (Nat → Int32) × (Nat → Int32) × Int32 × Int32 × Int32 × (Nat → Nat → Int32) × (Nat → Int32) × (Nat → Int32))
  | 0, _, _, _, _, _, _, _, _, _, _, _, _, _, _, _, _, _, _, _, _, _, _ => none
  | n + 1, v2, v3, q_found, q_foundLifts, n_order, n_weights, n_black, n_lifts, n_begins, n_ends, n_has, n_lifted, n_allLifts, n_doneAt, y_going, y_coming, y_holds, y_latest, b_heaps, b_piles, b_heights, b_spots =>
    if 99 < v3 then (
      some (q_found, q_found, q_foundLifts, n_order, n_weights, n_black, n_lifts, n_begins, n_ends, n_has, n_lifted, n_allLifts, n_doneAt, y_going, y_coming, y_holds, y_latest, b_heaps, b_piles, b_heights, b_spots))
    else (
      (fX3_firstFromMinute fuel n_order y_going r_guests v3).bind fun o_5 =>
      if o_5 = (-4) then (
        fX8_bestMinuteToTurn_J69 (fX8_bestMinuteToTurn_L28 fuel r_guests r_settings r_hooks r_letters r_letterCount n) v3 o_5 q_found q_foundLifts n_order n_weights n_black n_lifts n_begins n_ends n_has n_lifted n_allLifts n_doneAt y_going y_coming y_holds y_latest b_heaps b_piles b_heights b_spots)
      else (
        if o_5 = v2 then (
          fX8_bestMinuteToTurn_J69 (fX8_bestMinuteToTurn_L28 fuel r_guests r_settings r_hooks r_letters r_letterCount n) v3 o_5 q_found q_foundLifts n_order n_weights n_black n_lifts n_begins n_ends n_has n_lifted n_allLifts n_doneAt y_going y_coming y_holds y_latest b_heaps b_piles b_heights b_spots)
        else (
          (fX8_liftsInOrder fuel n_order n_weights n_black n_lifts n_begins n_ends n_has n_lifted n_allLifts n_doneAt y_going y_coming y_holds y_latest b_heaps b_piles b_heights b_spots r_guests r_settings r_hooks r_letters r_letterCount o_5).bind fun o_8 =>
          (fX8_findIfFewer fuel q_found q_foundLifts v3 o_8.1).bind fun o_9 =>
          fX8_bestMinuteToTurn_J69 (fX8_bestMinuteToTurn_L28 fuel r_guests r_settings r_hooks r_letters r_letterCount n) v3 o_5 o_9.1 o_9.2 n_order n_weights n_black o_8.2.1 o_8.2.2.1 o_8.2.2.2.1 o_8.2.2.2.2.1 o_8.2.2.2.2.2.1 o_8.2.2.2.2.2.2.1 o_8.2.2.2.2.2.2.2.1 y_going y_coming o_8.2.2.2.2.2.2.2.2.1 o_8.2.2.2.2.2.2.2.2.2.1 o_8.2.2.2.2.2.2.2.2.2.2.1 o_8.2.2.2.2.2.2.2.2.2.2.2.1 o_8.2.2.2.2.2.2.2.2.2.2.2.2.1 o_8.2.2.2.2.2.2.2.2.2.2.2.2.2)))
def fX8_bestMinuteToTurn (fuel : Nat) (q_found : Int32) (q_foundLifts : Int32) (n_order : Nat → Int32) (n_weights : Nat → Int32) (n_black : Nat → Int32) (n_lifts : Nat → Int32) (n_begins : Nat → Int32) (n_ends : Nat → Int32) (n_has : Nat → Int32) (n_lifted : Nat → Int32) (n_allLifts : Int32) (n_doneAt : Int32) (y_going : Nat → Int32) (y_coming : Nat → Int32) (y_holds : Int32) (y_latest : Int32) (b_heaps : Int32) (b_piles : Nat → Nat → Int32) (b_heights : Nat → Int32) (b_spots : Nat → Int32) (r_guests : Int32) (r_kinds : Nat → Int32) (r_figures : Nat → Int32) (r_minutes : Nat → Int32) (r_settings : Nat → Int32) (r_hooks : Int32) (r_letters : Nat → Int32) (r_letterCount : Int32) : Option (Int32 × Int32 × Int32 × (Nat → Int32) × (Nat → Int32) × (Nat → Int32) × (Nat → Int32) × (Nat → Int32) × (Nat → Int32) × (Nat → Int32) × (Nat → Int32) × Int32 × Int32 × (Nat → Int32) × (Nat → Int32) × Int32 × Int32 × Int32 × (Nat → Nat → Int32) × (Nat → Int32) × (Nat → Int32)) :=
  (fX3_begin fuel n_order n_weights n_black y_going y_coming r_guests r_kinds r_figures r_minutes).bind fun o_1 =>
  (fX8_findNothing fuel q_found q_foundLifts).bind fun o_2 =>
  (fX8_liftsInOrder fuel o_1.1 o_1.2.1 o_1.2.2.1 n_lifts n_begins n_ends n_has n_lifted n_allLifts n_doneAt o_1.2.2.2.1 o_1.2.2.2.2 y_holds y_latest b_heaps b_piles b_heights b_spots r_guests r_settings r_hooks r_letters r_letterCount (-4)).bind fun o_3 =>
  fX8_bestMinuteToTurn_L28 fuel r_guests r_settings r_hooks r_letters r_letterCount fuel (-4) 0 o_2.1 o_3.1 o_1.1 o_1.2.1 o_1.2.2.1 o_3.2.1 o_3.2.2.1 o_3.2.2.2.1 o_3.2.2.2.2.1 o_3.2.2.2.2.2.1 o_3.2.2.2.2.2.2.1 o_3.2.2.2.2.2.2.2.1 o_1.2.2.2.1 o_1.2.2.2.2 o_3.2.2.2.2.2.2.2.2.1 o_3.2.2.2.2.2.2.2.2.2.1 o_3.2.2.2.2.2.2.2.2.2.2.1 o_3.2.2.2.2.2.2.2.2.2.2.2.1 o_3.2.2.2.2.2.2.2.2.2.2.2.2.1 o_3.2.2.2.2.2.2.2.2.2.2.2.2.2
def fX8_tryAllGoings_L46 (fuel : Nat) (r_guests : Int32) (r_settings : Nat → Int32) (r_hooks : Int32) (r_letters : Nat → Int32) (r_letterCount : Int32) : Nat → Int32 → Int32 → Int32 → Int32 → Int32 → Int32 → (Nat → Int32) → (Nat → Int32) → (Nat → Int32) → (Nat → Int32) → (Nat → Int32) → (Nat → Int32) → (Nat → Int32) → (Nat → Int32) → Int32 → Int32 → (Nat → Int32) → (Nat → Int32) → Int32 → Int32 → Int32 → (Nat → Nat → Int32) → (Nat → Int32) → (Nat → Int32) → Option (Int32 × Int32 × Int32 × Int32 × (Nat → Int32) × (Nat → Int32) × (Nat → Int32) × (Nat → Int32) × (Nat → Int32) × (Nat → Int32) × (Nat → Int32) × (Nat → Int32) × Int32 × Int32 × (Nat → Int32) × (Nat → Int32) × Int32 × Int32 × Int32 × (Nat → Nat → Int32) × (Nat → Int32) × (Nat → Int32))
  | 0, _, _, _, _, _, _, _, _, _, _, _, _, _, _, _, _, _, _, _, _, _, _, _, _ => none
  | n + 1, v2, v3, q_found, q_foundLifts, q_mostLifts, q_sumOfLifts, n_order, n_weights, n_black, n_lifts, n_begins, n_ends, n_has, n_lifted, n_allLifts, n_doneAt, y_going, y_coming, y_holds, y_latest, b_heaps, b_piles, b_heights, b_spots =>
    if v2 ≤ v3 then (
      some (q_found, q_foundLifts, q_mostLifts, q_sumOfLifts, n_order, n_weights, n_black, n_lifts, n_begins, n_ends, n_has, n_lifted, n_allLifts, n_doneAt, y_going, y_coming, y_holds, y_latest, b_heaps, b_piles, b_heights, b_spots))
    else (
      (fX8_liftsInOrder fuel n_order n_weights n_black n_lifts n_begins n_ends n_has n_lifted n_allLifts n_doneAt y_going y_coming y_holds y_latest b_heaps b_piles b_heights b_spots r_guests r_settings r_hooks r_letters r_letterCount (-4)).bind fun o_6 =>
      zlet (q_sumOfLifts + o_6.1) fun sumOfLifts_7 =>
      zlet (zmax q_mostLifts o_6.1) fun x_8 =>
      (fX8_findIfFewer fuel q_found q_foundLifts v3 o_6.1).bind fun o_9 =>
      (fX4_next fuel n_order r_guests).bind fun o_10 =>
      zlet (v3 + 1) fun v3_11 =>
      fX8_tryAllGoings_L46 fuel r_guests r_settings r_hooks r_letters r_letterCount n v2 v3_11 o_9.1 o_9.2 x_8 sumOfLifts_7 o_10 n_weights n_black o_6.2.1 o_6.2.2.1 o_6.2.2.2.1 o_6.2.2.2.2.1 o_6.2.2.2.2.2.1 o_6.2.2.2.2.2.2.1 o_6.2.2.2.2.2.2.2.1 y_going y_coming o_6.2.2.2.2.2.2.2.2.1 o_6.2.2.2.2.2.2.2.2.2.1 o_6.2.2.2.2.2.2.2.2.2.2.1 o_6.2.2.2.2.2.2.2.2.2.2.2.1 o_6.2.2.2.2.2.2.2.2.2.2.2.2.1 o_6.2.2.2.2.2.2.2.2.2.2.2.2.2)
def fX8_tryAllGoings (fuel : Nat) (q_found : Int32) (q_foundLifts : Int32) (q_mostLifts : Int32) (q_sumOfLifts : Int32) (n_order : Nat → Int32) (n_weights : Nat → Int32) (n_black : Nat → Int32) (n_lifts : Nat → Int32) (n_begins : Nat → Int32) (n_ends : Nat → Int32) (n_has : Nat → Int32) (n_lifted : Nat → Int32) (n_allLifts : Int32) (n_doneAt : Int32) (y_going : Nat → Int32) (y_coming : Nat → Int32) (y_holds : Int32) (y_latest : Int32) (b_heaps : Int32) (b_piles : Nat → Nat → Int32) (b_heights : Nat → Int32) (b_spots : Nat → Int32) (r_guests : Int32) (r_kinds : Nat → Int32) (r_figures : Nat → Int32) (r_minutes : Nat → Int32) (r_settings : Nat → Int32) (r_hooks : Int32) (r_letters : Nat → Int32) (r_letterCount : Int32) : Option (Int32 × Int32 × Int32 × Int32 × (Nat → Int32) × (Nat → Int32) × (Nat → Int32) × (Nat → Int32) × (Nat → Int32) × (Nat → Int32) × (Nat → Int32) × (Nat → Int32) × Int32 × Int32 × (Nat → Int32) × (Nat → Int32) × Int32 × Int32 × Int32 × (Nat → Nat → Int32) × (Nat → Int32) × (Nat → Int32)) :=
  (fX8_findNothing fuel q_found q_foundLifts).bind fun o_1 =>
  (fX3_begin fuel n_order n_weights n_black y_going y_coming r_guests r_kinds r_figures r_minutes).bind fun o_2 =>
  (fX4_first fuel o_2.1 r_guests).bind fun o_3 =>
  (fX4_howMany fuel r_guests).bind fun o_4 =>
  fX8_tryAllGoings_L46 fuel r_guests r_settings r_hooks r_letters r_letterCount fuel o_4 0 o_1.1 o_1.2 0 0 o_3 o_2.2.1 o_2.2.2.1 n_lifts n_begins n_ends n_has n_lifted n_allLifts n_doneAt o_2.2.2.2.1 o_2.2.2.2.2 y_holds y_latest b_heaps b_piles b_heights b_spots
def fX8_tryAllComings_J74 (fuel : Nat) (r_guests : Int32) (k26 : Int32 → Int32 → Int32 → Int32 → Int32 → (Nat → Int32) → (Nat → Int32) → (Nat → Int32) → (Nat → Int32) → (Nat → Int32) → Int32 → Int32 → Int32 → (Nat → Nat → Int32) → (Nat → Int32) → (Nat → Int32) → Option (Int32 × Int32 × Int32 × (Nat → Int32) × (Nat → Int32) × (Nat → Int32) × (Nat → Int32) × (Nat → Int32) × Int32 × Int32 × Int32 × (Nat → Nat → Int32) × (Nat → Int32) × (Nat → Int32))) (v3 : Int32) (v4 : Int32) (v5 : Int32) (q_found : Int32) (q_foundLifts : Int32) (n_order : Nat → Int32) (n_weights : Nat → Int32) (n_black : Nat → Int32) (y_going : Nat → Int32) (y_coming : Nat → Int32) (y_holds : Int32) (y_latest : Int32) (b_heaps : Int32) (b_piles : Nat → Nat → Int32) (b_heights : Nat → Int32) (b_spots : Nat → Int32) : Option (Int32 × Int32 × Int32 × (Nat → Int32) × (Nat → Int32) × (Nat → Int32) × (Nat → Int32) × (Nat → Int32) × Int32 × Int32 × Int32 × (Nat → Nat → Int32) × (Nat → Int32) × (Nat → Int32)) :=
  (fX4_next fuel y_coming r_guests).bind fun o_11 =>
  zlet (v5 + 1) fun v5_12 =>
  k26 v3 v4 v5_12 q_found q_foundLifts n_order n_weights n_black y_going o_11 y_holds y_latest b_heaps b_piles b_heights b_spots
def fX8_tryAllComings_L26 (fuel : Nat) (s_size : Nat → Int32) (s_el : Nat → Nat → Int32) (r_guests : Int32) (r_settings : Nat → Int32) (r_hooks : Int32) (r_letters : Nat → Int32) (r_letterCount : Int32) (si : Nat) : Nat → Int32 → Int32 → Int32 → Int32 → Int32 → (Nat → Int32) → (Nat → Int32) → (Nat → Int32) → (Nat → Int32) → (Nat → Int32) → Int32 → Int32 → Int32 → (Nat → Nat → Int32) → (Nat → Int32) → (Nat → Int32) → Option (Int32 × Int32 × Int32 × (Nat → Int32) × (Nat → Int32) × (Nat → Int32) × (Nat → Int32) × (Nat → Int32) × Int32 × Int32 × Int32 × (Nat → Nat → Int32) × (Nat → Int32) × (Nat → Int32))
  | 0, _, _, _, _, _, _, _, _, _, _, _, _, _, _, _, _ => none
  | n + 1, v3, v4, v5, q_found, q_foundLifts, n_order, n_weights, n_black, y_going, y_coming, y_holds, y_latest, b_heaps, b_piles, b_heights, b_spots =>
    if v4 ≤ v5 then (
      some (v3, q_found, q_foundLifts, n_order, n_weights, n_black, y_going, y_coming, y_holds, y_latest, b_heaps, b_piles, b_heights, b_spots))
    else (
      (fX2_layAll fuel y_going y_coming y_holds y_latest b_heaps b_piles b_heights b_spots r_guests r_settings r_hooks r_letters r_letterCount).bind fun o_5 =>
      (fX8_isHeapZero fuel s_size s_el o_5.2.2.2.1 o_5.2.2.2.2.1 si).bind fun o_6 =>
      if o_6 = 0 then (
        fX8_tryAllComings_J74 fuel r_guests (fX8_tryAllComings_L26 fuel s_size s_el r_guests r_settings r_hooks r_letters r_letterCount si n) v3 v4 v5 q_found q_foundLifts n_order n_weights n_black y_going y_coming o_5.1 o_5.2.1 o_5.2.2.1 o_5.2.2.2.1 o_5.2.2.2.2.1 o_5.2.2.2.2.2)
      else (
        zlet (v3 + 1) fun v3_8 =>
        (fX4_asDigits fuel y_coming r_guests).bind fun o_9 =>
        (fX8_findIfFewer fuel q_found q_foundLifts o_9 0).bind fun o_10 =>
        fX8_tryAllComings_J74 fuel r_guests (fX8_tryAllComings_L26 fuel s_size s_el r_guests r_settings r_hooks r_letters r_letterCount si n) v3_8 v4 v5 o_10.1 o_10.2 n_order n_weights n_black y_going y_coming o_5.1 o_5.2.1 o_5.2.2.1 o_5.2.2.2.1 o_5.2.2.2.2.1 o_5.2.2.2.2.2))
def fX8_tryAllComings (fuel : Nat) (s_size : Nat → Int32) (s_el : Nat → Nat → Int32) (q_found : Int32) (q_foundLifts : Int32) (n_order : Nat → Int32) (n_weights : Nat → Int32) (n_black : Nat → Int32) (y_going : Nat → Int32) (y_coming : Nat → Int32) (y_holds : Int32) (y_latest : Int32) (b_heaps : Int32) (b_piles : Nat → Nat → Int32) (b_heights : Nat → Int32) (b_spots : Nat → Int32) (r_guests : Int32) (r_kinds : Nat → Int32) (r_figures : Nat → Int32) (r_minutes : Nat → Int32) (r_settings : Nat → Int32) (r_hooks : Int32) (r_letters : Nat → Int32) (r_letterCount : Int32) (si : Nat) : Option (Int32 × Int32 × Int32 × (Nat → Int32) × (Nat → Int32) × (Nat → Int32) × (Nat → Int32) × (Nat → Int32) × Int32 × Int32 × Int32 × (Nat → Nat → Int32) × (Nat → Int32) × (Nat → Int32)) :=
  (fX8_findNothing fuel q_found q_foundLifts).bind fun o_1 =>
  (fX3_begin fuel n_order n_weights n_black y_going y_coming r_guests r_kinds r_figures r_minutes).bind fun o_2 =>
  (fX4_howMany fuel r_guests).bind fun o_3 =>
  fX8_tryAllComings_L26 fuel s_size s_el r_guests r_settings r_hooks r_letters r_letterCount si fuel 0 o_3 0 o_1.1 o_1.2 o_2.1 o_2.2.1 o_2.2.2.1 o_2.2.2.2.1 o_2.2.2.2.2 y_holds y_latest b_heaps b_piles b_heights b_spots
def fX8_tryAllLayings_L89 (fuel : Nat) (r_guests : Int32) (r_settings : Nat → Int32) : Nat → Int32 → Int32 → (Nat → Int32) → Int32 → Int32 → (Nat → Int32) → (Nat → Int32) → (Nat → Int32) → (Nat → Int32) → (Nat → Int32) → (Nat → Int32) → (Nat → Int32) → (Nat → Int32) → Int32 → Int32 → (Nat → Int32) → (Nat → Int32) → Int32 → (Nat → Nat → Int32) → (Nat → Int32) → (Nat → Int32) → Option ((Nat → Int32) × Int32 × Int32 × (Nat → Int32) × (Nat → Int32) × (Nat → Int32) × (Nat → Int32) × (Nat → Int32) × (Nat → Int32) × (Nat → Int32) × (Nat → Int32) × Int32 × Int32 × (Nat → Int32) × (Nat → Int32) × Int32 × (Nat → Nat → Int32) × (Nat → Int32) × (Nat → Int32))
  | 0, _, _, _, _, _, _, _, _, _, _, _, _, _, _, _, _, _, _, _, _, _ => none
  | n + 1, v2, v3, q_row, q_found, q_foundLifts, n_order, n_weights, n_black, n_lifts, n_begins, n_ends, n_has, n_lifted, n_allLifts, n_doneAt, y_going, y_coming, b_heaps, b_piles, b_heights, b_spots =>
    if v2 ≤ v3 then (
      some (q_row, q_found, q_foundLifts, n_order, n_weights, n_black, n_lifts, n_begins, n_ends, n_has, n_lifted, n_allLifts, n_doneAt, y_going, y_coming, b_heaps, b_piles, b_heights, b_spots))
    else (
      if q_foundLifts = 0 then (
        some (q_row, q_found, q_foundLifts, n_order, n_weights, n_black, n_lifts, n_begins, n_ends, n_has, n_lifted, n_allLifts, n_doneAt, y_going, y_coming, b_heaps, b_piles, b_heights, b_spots))
      else (
        (fX8_tryLaying fuel q_row q_found q_foundLifts n_order n_weights n_black n_lifts n_begins n_ends n_has n_lifted n_allLifts n_doneAt y_going b_heaps b_piles b_heights b_spots r_guests r_settings).bind fun o_21 =>
        (fX8_nextLaying fuel q_row r_guests r_settings).bind fun o_22 =>
        zlet (v3 + 1) fun v3_23 =>
        fX8_tryAllLayings_L89 fuel r_guests r_settings n v2 v3_23 o_22 o_21.1 o_21.2.1 n_order n_weights n_black o_21.2.2.1 o_21.2.2.2.1 o_21.2.2.2.2.1 o_21.2.2.2.2.2.1 o_21.2.2.2.2.2.2.1 o_21.2.2.2.2.2.2.2.1 o_21.2.2.2.2.2.2.2.2.1 y_going y_coming o_21.2.2.2.2.2.2.2.2.2.1 o_21.2.2.2.2.2.2.2.2.2.2.1 o_21.2.2.2.2.2.2.2.2.2.2.2.1 o_21.2.2.2.2.2.2.2.2.2.2.2.2))
def fX8_tryAllLayings_J87 (fuel : Nat) (r_guests : Int32) (r_settings : Nat → Int32) (v2 : Int32) (q_row : Nat → Int32) (q_found : Int32) (q_foundLifts : Int32) (n_order : Nat → Int32) (n_weights : Nat → Int32) (n_black : Nat → Int32) (n_lifts : Nat → Int32) (n_begins : Nat → Int32) (n_ends : Nat → Int32) (n_has : Nat → Int32) (n_lifted : Nat → Int32) (n_allLifts : Int32) (n_doneAt : Int32) (y_going : Nat → Int32) (y_coming : Nat → Int32) (b_heaps : Int32) (b_piles : Nat → Nat → Int32) (b_heights : Nat → Int32) (b_spots : Nat → Int32) : Option ((Nat → Int32) × Int32 × Int32 × (Nat → Int32) × (Nat → Int32) × (Nat → Int32) × (Nat → Int32) × (Nat → Int32) × (Nat → Int32) × (Nat → Int32) × (Nat → Int32) × Int32 × Int32 × (Nat → Int32) × (Nat → Int32) × Int32 × (Nat → Nat → Int32) × (Nat → Int32) × (Nat → Int32)) :=
  fX8_tryAllLayings_L89 fuel r_guests r_settings fuel v2 0 q_row q_found q_foundLifts n_order n_weights n_black n_lifts n_begins n_ends n_has n_lifted n_allLifts n_doneAt y_going y_coming b_heaps b_piles b_heights b_spots
def fX8_tryAllLayings_L52 (fuel : Nat) (r_guests : Int32) (r_settings : Nat → Int32) (r_hooks : Int32) : Nat → Int32 → Int32 → (Nat → Int32) → Int32 → Int32 → (Nat → Int32) → (Nat → Int32) → (Nat → Int32) → (Nat → Int32) → (Nat → Int32) → (Nat → Int32) → (Nat → Int32) → (Nat → Int32) → Int32 → Int32 → (Nat → Int32) → (Nat → Int32) → Int32 → (Nat → Nat → Int32) → (Nat → Int32) → (Nat → Int32) → Option ((Nat → Int32) × Int32 × Int32 × (Nat → Int32) × (Nat → Int32) × (Nat → Int32) × (Nat → Int32) × (Nat → Int32) × (Nat → Int32) × (Nat → Int32) × (Nat → Int32) × Int32 × Int32 × (Nat → Int32) × (Nat → Int32) × Int32 × (Nat → Nat → Int32) × (Nat → Int32) × (Nat → Int32))
  | 0, _, _, _, _, _, _, _, _, _, _, _, _, _, _, _, _, _, _, _, _, _ => none
  | n + 1, v2, v3, q_row, q_found, q_foundLifts, n_order, n_weights, n_black, n_lifts, n_begins, n_ends, n_has, n_lifted, n_allLifts, n_doneAt, y_going, y_coming, b_heaps, b_piles, b_heights, b_spots =>
    if r_guests ≤ v3 then (
      fX8_tryAllLayings_J87 fuel r_guests r_settings v2 q_row q_found q_foundLifts n_order n_weights n_black n_lifts n_begins n_ends n_has n_lifted n_allLifts n_doneAt y_going y_coming b_heaps b_piles b_heights b_spots)
    else (
      (fX5_hasHook fuel r_hooks v3).bind fun o_13 =>
      if o_13 = 0 then (
        zlet ((v2 * (r_settings 0))) fun v2_15 =>
        zlet (v3 + 1) fun v3_16 =>
        fX8_tryAllLayings_L52 fuel r_guests r_settings r_hooks n v2_15 v3_16 q_row q_found q_foundLifts n_order n_weights n_black n_lifts n_begins n_ends n_has n_lifted n_allLifts n_doneAt y_going y_coming b_heaps b_piles b_heights b_spots)
      else (
        zlet (v2 * 1) fun v2_17 =>
        zlet (v3 + 1) fun v3_18 =>
        fX8_tryAllLayings_L52 fuel r_guests r_settings r_hooks n v2_17 v3_18 q_row q_found q_foundLifts n_order n_weights n_black n_lifts n_begins n_ends n_has n_lifted n_allLifts n_doneAt y_going y_coming b_heaps b_piles b_heights b_spots))
def fX8_tryAllLayings_J48 (fuel : Nat) (r_guests : Int32) (r_settings : Nat → Int32) (r_hooks : Int32) (q_row : Nat → Int32) (q_found : Int32) (q_foundLifts : Int32) (n_order : Nat → Int32) (n_weights : Nat → Int32) (n_black : Nat → Int32) (n_lifts : Nat → Int32) (n_begins : Nat → Int32) (n_ends : Nat → Int32) (n_has : Nat → Int32) (n_lifted : Nat → Int32) (n_allLifts : Int32) (n_doneAt : Int32) (y_going : Nat → Int32) (y_coming : Nat → Int32) (b_heaps : Int32) (b_piles : Nat → Nat → Int32) (b_heights : Nat → Int32) (b_spots : Nat → Int32) : Option ((Nat → Int32) × Int32 × Int32 × (Nat → Int32) × (Nat → Int32) × (Nat → Int32) × (Nat → Int32) × (Nat → Int32) × (Nat → Int32) × (Nat → Int32) × (Nat → Int32) × Int32 × Int32 × (Nat → Int32) × (Nat → Int32) × Int32 × (Nat → Nat → Int32) × (Nat → Int32) × (Nat → Int32)) :=
  fX8_tryAllLayings_L52 fuel r_guests r_settings r_hooks fuel 1 0 q_row q_found q_foundLifts n_order n_weights n_black n_lifts n_begins n_ends n_has n_lifted n_allLifts n_doneAt y_going y_coming b_heaps b_piles b_heights b_spots
def fX8_tryAllLayings_L14 (fuel : Nat) (r_guests : Int32) (r_settings : Nat → Int32) (r_hooks : Int32) : Nat → Int32 → (Nat → Int32) → Int32 → Int32 → (Nat → Int32) → (Nat → Int32) → (Nat → Int32) → (Nat → Int32) → (Nat → Int32) → (Nat → Int32) → (Nat → Int32) → (Nat → Int32) → Int32 → Int32 → (Nat → Int32) → (Nat → Int32) → Int32 → (Nat → Nat → Int32) → (Nat → Int32) → (Nat → Int32) → Option ((Nat → Int32) × Int32 × Int32 × (Nat → Int32) × (Nat → Int32) × (Nat → Int32) × (Nat → Int32) × (Nat → Int32) × (Nat → Int32) × (Nat → Int32) × (Nat → Int32) × Int32 × Int32 × (Nat → Int32) × (Nat → Int32) × Int32 × (Nat → Nat → Int32) × (Nat → Int32) × (Nat → Int32))
  | 0, _, _, _, _, _, _, _, _, _, _, _, _, _, _, _, _, _, _, _, _ => none
  | n + 1, v2, q_row, q_found, q_foundLifts, n_order, n_weights, n_black, n_lifts, n_begins, n_ends, n_has, n_lifted, n_allLifts, n_doneAt, y_going, y_coming, b_heaps, b_piles, b_heights, b_spots =>
    if r_guests ≤ v2 then (
      fX8_tryAllLayings_J48 fuel r_guests r_settings r_hooks q_row q_found q_foundLifts n_order n_weights n_black n_lifts n_begins n_ends n_has n_lifted n_allLifts n_doneAt y_going y_coming b_heaps b_piles b_heights b_spots)
    else (
      (fX5_hasHook fuel r_hooks v2).bind fun o_4 =>
      if o_4 = 0 then (
        zg (zin v2 10) <|
        zlet (upd q_row v2.toNatClampNeg 0) fun q_row_7 =>
        zlet (v2 + 1) fun v2_8 =>
        fX8_tryAllLayings_L14 fuel r_guests r_settings r_hooks n v2_8 q_row_7 q_found q_foundLifts n_order n_weights n_black n_lifts n_begins n_ends n_has n_lifted n_allLifts n_doneAt y_going y_coming b_heaps b_piles b_heights b_spots)
      else (
        zg (zin v2 10) <|
        zlet (upd q_row v2.toNatClampNeg 9) fun q_row_10 =>
        zlet (v2 + 1) fun v2_11 =>
        fX8_tryAllLayings_L14 fuel r_guests r_settings r_hooks n v2_11 q_row_10 q_found q_foundLifts n_order n_weights n_black n_lifts n_begins n_ends n_has n_lifted n_allLifts n_doneAt y_going y_coming b_heaps b_piles b_heights b_spots))
def fX8_tryAllLayings (fuel : Nat) (q_row : Nat → Int32) (q_found : Int32) (q_foundLifts : Int32) (n_order : Nat → Int32) (n_weights : Nat → Int32) (n_black : Nat → Int32) (n_lifts : Nat → Int32) (n_begins : Nat → Int32) (n_ends : Nat → Int32) (n_has : Nat → Int32) (n_lifted : Nat → Int32) (n_allLifts : Int32) (n_doneAt : Int32) (y_going : Nat → Int32) (y_coming : Nat → Int32) (b_heaps : Int32) (b_piles : Nat → Nat → Int32) (b_heights : Nat → Int32) (b_spots : Nat → Int32) (r_guests : Int32) (r_kinds : Nat → Int32) (r_figures : Nat → Int32) (r_minutes : Nat → Int32) (r_settings : Nat → Int32) (r_hooks : Int32) : Option ((Nat → Int32) × Int32 × Int32 × (Nat → Int32) × (Nat → Int32) × (Nat → Int32) × (Nat → Int32) × (Nat → Int32) × (Nat → Int32) × (Nat → Int32) × (Nat → Int32) × Int32 × Int32 × (Nat → Int32) × (Nat → Int32) × Int32 × (Nat → Nat → Int32) × (Nat → Int32) × (Nat → Int32)) :=
  (fX8_findNothing fuel q_found q_foundLifts).bind fun o_1 =>
  (fX3_begin fuel n_order n_weights n_black y_going y_coming r_guests r_kinds r_figures r_minutes).bind fun o_2 =>
  fX8_tryAllLayings_L14 fuel r_guests r_settings r_hooks fuel 0 q_row o_1.1 o_1.2 o_2.1 o_2.2.1 o_2.2.2.1 n_lifts n_begins n_ends n_has n_lifted n_allLifts n_doneAt o_2.2.2.2.1 o_2.2.2.2.2 b_heaps b_piles b_heights b_spots
def fX8_liftsWith (fuel : Nat) (t_guests : Int32) (t_kinds : Nat → Int32) (t_figures : Nat → Int32) (t_minutes : Nat → Int32) (t_settings : Nat → Int32) (t_hooks : Int32) (t_letters : Nat → Int32) (t_letterCount : Int32) (n_order : Nat → Int32) (n_weights : Nat → Int32) (n_black : Nat → Int32) (n_lifts : Nat → Int32) (n_begins : Nat → Int32) (n_ends : Nat → Int32) (n_has : Nat → Int32) (n_lifted : Nat → Int32) (n_allLifts : Int32) (n_doneAt : Int32) (y_going : Nat → Int32) (y_coming : Nat → Int32) (y_holds : Int32) (y_latest : Int32) (b_heaps : Int32) (b_piles : Nat → Nat → Int32) (b_heights : Nat → Int32) (b_spots : Nat → Int32) (r_guests : Int32) (r_kinds : Nat → Int32) (r_figures : Nat → Int32) (r_minutes : Nat → Int32) (r_settings : Nat → Int32) (r_hooks : Int32) (r_letters : Nat → Int32) (r_letterCount : Int32) (p2 : Int32) (p3 : Int32) : Option (Int32 × Int32 × (Nat → Int32) × (Nat → Int32) × (Nat → Int32) × (Nat → Int32) × Int32 × (Nat → Int32) × Int32 × (Nat → Int32) × (Nat → Int32) × (Nat → Int32) × (Nat → Int32) × (Nat → Int32) × (Nat → Int32) × (Nat → Int32) × (Nat → Int32) × Int32 × Int32 × (Nat → Int32) × (Nat → Int32) × Int32 × Int32 × Int32 × (Nat → Nat → Int32) × (Nat → Int32) × (Nat → Int32)) :=
  (fX5_copyFrom fuel t_guests t_kinds t_figures t_minutes t_settings t_hooks t_letters t_letterCount r_guests r_kinds r_figures r_minutes r_settings r_hooks r_letters r_letterCount).bind fun o_1 =>
  zg (zin p2 4) <|
  zlet (upd o_1.2.2.2.2.1 p2.toNatClampNeg p3) fun t_settings_3 =>
  (fX3_pass fuel n_order n_weights n_black n_lifts n_begins n_ends n_has n_lifted n_allLifts n_doneAt y_going y_coming y_holds y_latest b_heaps b_piles b_heights b_spots o_1.1 o_1.2.1 o_1.2.2.1 o_1.2.2.2.1 t_settings_3 o_1.2.2.2.2.2.1 o_1.2.2.2.2.2.2.1 o_1.2.2.2.2.2.2.2).bind fun o_4 =>
  some (o_4.1, o_1.1, o_1.2.1, o_1.2.2.1, o_1.2.2.2.1, t_settings_3, o_1.2.2.2.2.2.1, o_1.2.2.2.2.2.2.1, o_1.2.2.2.2.2.2.2, o_4.2.1, o_4.2.2.1, o_4.2.2.2.1, o_4.2.2.2.2.1, o_4.2.2.2.2.2.1, o_4.2.2.2.2.2.2.1, o_4.2.2.2.2.2.2.2.1, o_4.2.2.2.2.2.2.2.2.1, o_4.2.2.2.2.2.2.2.2.2.1, o_4.2.2.2.2.2.2.2.2.2.2.1, o_4.2.2.2.2.2.2.2.2.2.2.2.1, o_4.2.2.2.2.2.2.2.2.2.2.2.2.1, o_4.2.2.2.2.2.2.2.2.2.2.2.2.2.1, o_4.2.2.2.2.2.2.2.2.2.2.2.2.2.2.1, o_4.2.2.2.2.2.2.2.2.2.2.2.2.2.2.2.1, o_4.2.2.2.2.2.2.2.2.2.2.2.2.2.2.2.2.1, o_4.2.2.2.2.2.2.2.2.2.2.2.2.2.2.2.2.2.1, o_4.2.2.2.2.2.2.2.2.2.2.2.2.2.2.2.2.2.2)
def fX8_liftsWithLetter (fuel : Nat) (t_guests : Int32) (t_kinds : Nat → Int32) (t_figures : Nat → Int32) (t_minutes : Nat → Int32) (t_settings : Nat → Int32) (t_hooks : Int32) (t_letters : Nat → Int32) (t_letterCount : Int32) (n_order : Nat → Int32) (n_weights : Nat → Int32) (n_black : Nat → Int32) (n_lifts : Nat → Int32) (n_begins : Nat → Int32) (n_ends : Nat → Int32) (n_has : Nat → Int32) (n_lifted : Nat → Int32) (n_allLifts : Int32) (n_doneAt : Int32) (y_going : Nat → Int32) (y_coming : Nat → Int32) (y_holds : Int32) (y_latest : Int32) (b_heaps : Int32) (b_piles : Nat → Nat → Int32) (b_heights : Nat → Int32) (b_spots : Nat → Int32) (r_guests : Int32) (r_kinds : Nat → Int32) (r_figures : Nat → Int32) (r_minutes : Nat → Int32) (r_settings : Nat → Int32) (r_hooks : Int32) (r_letters : Nat → Int32) (r_letterCount : Int32) (p2 : Int32) : Option (Int32 × Int32 × (Nat → Int32) × (Nat → Int32) × (Nat → Int32) × (Nat → Int32) × Int32 × (Nat → Int32) × Int32 × (Nat → Int32) × (Nat → Int32) × (Nat → Int32) × (Nat → Int32) × (Nat → Int32) × (Nat → Int32) × (Nat → Int32) × (Nat → Int32) × Int32 × Int32 × (Nat → Int32) × (Nat → Int32) × Int32 × Int32 × Int32 × (Nat → Nat → Int32) × (Nat → Int32) × (Nat → Int32)) :=
  (fX5_copyFrom fuel t_guests t_kinds t_figures t_minutes t_settings t_hooks t_letters t_letterCount r_guests r_kinds r_figures r_minutes r_settings r_hooks r_letters r_letterCount).bind fun o_1 =>
  zg (zin p2 6) <|
  zlet (upd o_1.2.2.2.2.2.2.1 0 (zLet p2.toNatClampNeg)) fun t_letters_3 =>
  (fX3_pass fuel n_order n_weights n_black n_lifts n_begins n_ends n_has n_lifted n_allLifts n_doneAt y_going y_coming y_holds y_latest b_heaps b_piles b_heights b_spots o_1.1 o_1.2.1 o_1.2.2.1 o_1.2.2.2.1 o_1.2.2.2.2.1 o_1.2.2.2.2.2.1 t_letters_3 1).bind fun o_4 =>
  some (o_4.1, o_1.1, o_1.2.1, o_1.2.2.1, o_1.2.2.2.1, o_1.2.2.2.2.1, o_1.2.2.2.2.2.1, t_letters_3, 1, o_4.2.1, o_4.2.2.1, o_4.2.2.2.1, o_4.2.2.2.2.1, o_4.2.2.2.2.2.1, o_4.2.2.2.2.2.2.1, o_4.2.2.2.2.2.2.2.1, o_4.2.2.2.2.2.2.2.2.1, o_4.2.2.2.2.2.2.2.2.2.1, o_4.2.2.2.2.2.2.2.2.2.2.1, o_4.2.2.2.2.2.2.2.2.2.2.2.1, o_4.2.2.2.2.2.2.2.2.2.2.2.2.1, o_4.2.2.2.2.2.2.2.2.2.2.2.2.2.1, o_4.2.2.2.2.2.2.2.2.2.2.2.2.2.2.1, o_4.2.2.2.2.2.2.2.2.2.2.2.2.2.2.2.1, o_4.2.2.2.2.2.2.2.2.2.2.2.2.2.2.2.2.1, o_4.2.2.2.2.2.2.2.2.2.2.2.2.2.2.2.2.2.1, o_4.2.2.2.2.2.2.2.2.2.2.2.2.2.2.2.2.2.2)
def fX8_tryHooks_J63 (k14 : Int32 → Int32 → Int32 → Int32 → (Nat → Int32) → (Nat → Int32) → (Nat → Int32) → (Nat → Int32) → Int32 → (Nat → Int32) → Int32 → (Nat → Int32) → (Nat → Int32) → (Nat → Int32) → (Nat → Int32) → (Nat → Int32) → (Nat → Int32) → (Nat → Int32) → (Nat → Int32) → Int32 → Int32 → (Nat → Int32) → (Nat → Int32) → Int32 → Int32 → Int32 → (Nat → Nat → Int32) → (Nat → Int32) → (Nat → Int32) → Nat → Option (Int32 × Int32 × Int32 × (Nat → Int32) × (Nat → Int32) × (Nat → Int32) × (Nat → Int32) × Int32 × (Nat → Int32) × Int32 × Nat × (Nat → Int32) × (Nat → Int32) × (Nat → Int32) × (Nat → Int32) × (Nat → Int32) × (Nat → Int32) × (Nat → Int32) × (Nat → Int32) × Int32 × Int32 × (Nat → Int32) × (Nat → Int32) × Int32 × Int32 × Int32 × (Nat → Nat → Int32) × (Nat → Int32) × (Nat → Int32))) (v3 : Int32) (q_found : Int32) (q_foundLifts : Int32) (t_guests : Int32) (t_kinds : Nat → Int32) (t_figures : Nat → Int32) (t_minutes : Nat → Int32) (t_settings : Nat → Int32) (t_hooks : Int32) (t_letters : Nat → Int32) (t_letterCount : Int32) (n_order : Nat → Int32) (n_weights : Nat → Int32) (n_black : Nat → Int32) (n_lifts : Nat → Int32) (n_begins : Nat → Int32) (n_ends : Nat → Int32) (n_has : Nat → Int32) (n_lifted : Nat → Int32) (n_allLifts : Int32) (n_doneAt : Int32) (y_going : Nat → Int32) (y_coming : Nat → Int32) (y_holds : Int32) (y_latest : Int32) (b_heaps : Int32) (b_piles : Nat → Nat → Int32) (b_heights : Nat → Int32) (b_spots : Nat → Int32) (n_room : Nat) : Option (Int32 × Int32 × Int32 × (Nat → Int32) × (Nat → Int32) × (Nat → Int32) × (Nat → Int32) × Int32 × (Nat → Int32) × Int32 × Nat × (Nat → Int32) × (Nat → Int32) × (Nat → Int32) × (Nat → Int32) × (Nat → Int32) × (Nat → Int32) × (Nat → Int32) × (Nat → Int32) × Int32 × Int32 × (Nat → Int32) × (Nat → Int32) × Int32 × Int32 × Int32 × (Nat → Nat → Int32) × (Nat → Int32) × (Nat → Int32)) :=
  zlet (v3 + 1) fun v3_9 =>
  k14 v3_9 q_found q_foundLifts t_guests t_kinds t_figures t_minutes t_settings t_hooks t_letters t_letterCount n_order n_weights n_black n_lifts n_begins n_ends n_has n_lifted n_allLifts n_doneAt y_going y_coming y_holds y_latest b_heaps b_piles b_heights b_spots n_room
def fX8_tryHooks_L14 (fuel : Nat) (r_guests : Int32) (ad_t : Nat → Nat) (p2 : Int32) : Nat → Int32 → Int32 → Int32 → Int32 → (Nat → Int32) → (Nat → Int32) → (Nat → Int32) → (Nat → Int32) → Int32 → (Nat → Int32) → Int32 → (Nat → Int32) → (Nat → Int32) → (Nat → Int32) → (Nat → Int32) → (Nat → Int32) → (Nat → Int32) → (Nat → Int32) → (Nat → Int32) → Int32 → Int32 → (Nat → Int32) → (Nat → Int32) → Int32 → Int32 → Int32 → (Nat → Nat → Int32) → (Nat → Int32) → (Nat → Int32) → Nat → Option (Int32 × Int32 × Int32 × (Nat → Int32) × (Nat → Int32) × (Nat → Int32) × (Nat → Int32) × Int32 × (Nat → Int32) × Int32 × Nat × (Nat → Int32) × (Nat → Int32) × (Nat → Int32) × (Nat → Int32) × (Nat → Int32) × (Nat → Int32) × (Nat → Int32) × (Nat → Int32) × Int32 × Int32 × (Nat → Int32) × (Nat → Int32) × Int32 × Int32 × Int32 × (Nat → Nat → Int32) × (Nat → Int32) × (Nat → Int32))
  | 0, _, _, _, _, _, _, _, _, _, _, _, _, _, _, _, _, _, _, _, _, _, _, _, _, _, _, _, _, _, _ => none
  | n + 1, v3, q_found, q_foundLifts, t_guests, t_kinds, t_figures, t_minutes, t_settings, t_hooks, t_letters, t_letterCount, n_order, n_weights, n_black, n_lifts, n_begins, n_ends, n_has, n_lifted, n_allLifts, n_doneAt, y_going, y_coming, y_holds, y_latest, b_heaps, b_piles, b_heights, b_spots, n_room =>
    if (((1 : Int32) <<< (r_guests &&& 31))) ≤ v3 then (
      some (q_found, q_foundLifts, t_guests, t_kinds, t_figures, t_minutes, t_settings, t_hooks, t_letters, t_letterCount, n_room, n_order, n_weights, n_black, n_lifts, n_begins, n_ends, n_has, n_lifted, n_allLifts, n_doneAt, y_going, y_coming, y_holds, y_latest, b_heaps, b_piles, b_heights, b_spots))
    else (
      if q_foundLifts = 0 then (
        some (q_found, q_foundLifts, t_guests, t_kinds, t_figures, t_minutes, t_settings, t_hooks, t_letters, t_letterCount, n_room, n_order, n_weights, n_black, n_lifts, n_begins, n_ends, n_has, n_lifted, n_allLifts, n_doneAt, y_going, y_coming, y_holds, y_latest, b_heaps, b_piles, b_heights, b_spots))
      else (
        (fJ6_bitCount_0f7a4 fuel v3).bind fun o_5 =>
        if o_5 = p2 then (
          (fX3_pass fuel n_order n_weights n_black n_lifts n_begins n_ends n_has n_lifted n_allLifts n_doneAt y_going y_coming y_holds y_latest b_heaps b_piles b_heights b_spots t_guests t_kinds t_figures t_minutes t_settings v3 t_letters t_letterCount).bind fun o_7 =>
          (fX8_findIfFewer fuel q_found q_foundLifts v3 o_7.1).bind fun o_8 =>
          fX8_tryHooks_J63 (fX8_tryHooks_L14 fuel r_guests ad_t p2 n) v3 o_8.1 o_8.2 t_guests t_kinds t_figures t_minutes t_settings v3 t_letters t_letterCount o_7.2.1 o_7.2.2.1 o_7.2.2.2.1 o_7.2.2.2.2.1 o_7.2.2.2.2.2.1 o_7.2.2.2.2.2.2.1 o_7.2.2.2.2.2.2.2.1 o_7.2.2.2.2.2.2.2.2.1 o_7.2.2.2.2.2.2.2.2.2.1 o_7.2.2.2.2.2.2.2.2.2.2.1 o_7.2.2.2.2.2.2.2.2.2.2.2.1 o_7.2.2.2.2.2.2.2.2.2.2.2.2.1 o_7.2.2.2.2.2.2.2.2.2.2.2.2.2.1 o_7.2.2.2.2.2.2.2.2.2.2.2.2.2.2.1 o_7.2.2.2.2.2.2.2.2.2.2.2.2.2.2.2.1 o_7.2.2.2.2.2.2.2.2.2.2.2.2.2.2.2.2.1 o_7.2.2.2.2.2.2.2.2.2.2.2.2.2.2.2.2.2.1 o_7.2.2.2.2.2.2.2.2.2.2.2.2.2.2.2.2.2.2 (ad_t 0))
        else (
          fX8_tryHooks_J63 (fX8_tryHooks_L14 fuel r_guests ad_t p2 n) v3 q_found q_foundLifts t_guests t_kinds t_figures t_minutes t_settings t_hooks t_letters t_letterCount n_order n_weights n_black n_lifts n_begins n_ends n_has n_lifted n_allLifts n_doneAt y_going y_coming y_holds y_latest b_heaps b_piles b_heights b_spots n_room)))
def fX8_tryHooks (fuel : Nat) (q_found : Int32) (q_foundLifts : Int32) (t_guests : Int32) (t_kinds : Nat → Int32) (t_figures : Nat → Int32) (t_minutes : Nat → Int32) (t_settings : Nat → Int32) (t_hooks : Int32) (t_letters : Nat → Int32) (t_letterCount : Int32) (n_room : Nat) (n_order : Nat → Int32) (n_weights : Nat → Int32) (n_black : Nat → Int32) (n_lifts : Nat → Int32) (n_begins : Nat → Int32) (n_ends : Nat → Int32) (n_has : Nat → Int32) (n_lifted : Nat → Int32) (n_allLifts : Int32) (n_doneAt : Int32) (y_going : Nat → Int32) (y_coming : Nat → Int32) (y_holds : Int32) (y_latest : Int32) (b_heaps : Int32) (b_piles : Nat → Nat → Int32) (b_heights : Nat → Int32) (b_spots : Nat → Int32) (r_guests : Int32) (r_kinds : Nat → Int32) (r_figures : Nat → Int32) (r_minutes : Nat → Int32) (r_settings : Nat → Int32) (r_hooks : Int32) (r_letters : Nat → Int32) (r_letterCount : Int32) (ad_t : Nat → Nat) (p2 : Int32) : Option (Int32 × Int32 × Int32 × (Nat → Int32) × (Nat → Int32) × (Nat → Int32) × (Nat → Int32) × Int32 × (Nat → Int32) × Int32 × Nat × (Nat → Int32) × (Nat → Int32) × (Nat → Int32) × (Nat → Int32) × (Nat → Int32) × (Nat → Int32) × (Nat → Int32) × (Nat → Int32) × Int32 × Int32 × (Nat → Int32) × (Nat → Int32) × Int32 × Int32 × Int32 × (Nat → Nat → Int32) × (Nat → Int32) × (Nat → Int32)) :=
  (fX8_findNothing fuel q_found q_foundLifts).bind fun o_1 =>
  (fX5_copyFrom fuel t_guests t_kinds t_figures t_minutes t_settings t_hooks t_letters t_letterCount r_guests r_kinds r_figures r_minutes r_settings r_hooks r_letters r_letterCount).bind fun o_2 =>
  fX8_tryHooks_L14 fuel r_guests ad_t p2 fuel 0 o_1.1 o_1.2 o_2.1 o_2.2.1 o_2.2.2.1 o_2.2.2.2.1 o_2.2.2.2.2.1 o_2.2.2.2.2.2.1 o_2.2.2.2.2.2.2.1 o_2.2.2.2.2.2.2.2 n_order n_weights n_black n_lifts n_begins n_ends n_has n_lifted n_allLifts n_doneAt y_going y_coming y_holds y_latest b_heaps b_piles b_heights b_spots n_room
def fX8_tryGoingAlong_J93 (k26 : Int32 → Int32 → Int32 → Int32 → Int32 → (Nat → Int32) → (Nat → Int32) → (Nat → Int32) → (Nat → Int32) → (Nat → Int32) → (Nat → Int32) → (Nat → Int32) → (Nat → Int32) → Int32 → Int32 → (Nat → Int32) → (Nat → Int32) → Int32 → Int32 → Int32 → (Nat → Nat → Int32) → (Nat → Int32) → (Nat → Int32) → Option (Int32 × Int32 × (Nat → Int32) × (Nat → Int32) × (Nat → Int32) × (Nat → Int32) × (Nat → Int32) × (Nat → Int32) × (Nat → Int32) × (Nat → Int32) × Int32 × Int32 × (Nat → Int32) × (Nat → Int32) × Int32 × Int32 × Int32 × (Nat → Nat → Int32) × (Nat → Int32) × (Nat → Int32))) (v3 : Int32) (v4 : Int32) (v5 : Int32) (q_found : Int32) (q_foundLifts : Int32) (n_order : Nat → Int32) (n_weights : Nat → Int32) (n_black : Nat → Int32) (n_lifts : Nat → Int32) (n_begins : Nat → Int32) (n_ends : Nat → Int32) (n_has : Nat → Int32) (n_lifted : Nat → Int32) (n_allLifts : Int32) (n_doneAt : Int32) (y_going : Nat → Int32) (y_coming : Nat → Int32) (y_holds : Int32) (y_latest : Int32) (b_heaps : Int32) (b_piles : Nat → Nat → Int32) (b_heights : Nat → Int32) (b_spots : Nat → Int32) : Option (Int32 × Int32 × (Nat → Int32) × (Nat → Int32) × (Nat → Int32) × (Nat → Int32) × (Nat → Int32) × (Nat → Int32) × (Nat → Int32) × (Nat → Int32) × Int32 × Int32 × (Nat → Int32) × (Nat → Int32) × Int32 × Int32 × Int32 × (Nat → Nat → Int32) × (Nat → Int32) × (Nat → Int32)) :=
  zlet (v5 + 1) fun v5_12 =>
  k26 v3 v4 v5_12 q_found q_foundLifts n_order n_weights n_black n_lifts n_begins n_ends n_has n_lifted n_allLifts n_doneAt y_going y_coming y_holds y_latest b_heaps b_piles b_heights b_spots
def fX8_tryGoingAlong_L26 (fuel : Nat) (r_guests : Int32) (r_kinds : Nat → Int32) (r_figures : Nat → Int32) (r_minutes : Nat → Int32) (r_settings : Nat → Int32) (r_hooks : Int32) (r_letters : Nat → Int32) (r_letterCount : Int32) (p2 : Int32) : Nat → Int32 → Int32 → Int32 → Int32 → Int32 → (Nat → Int32) → (Nat → Int32) → (Nat → Int32) → (Nat → Int32) → (Nat → Int32) → (Nat → Int32) → (Nat → Int32) → (Nat → Int32) → Int32 → Int32 → (Nat → Int32) → (Nat → Int32) → Int32 → Int32 → Int32 → (Nat → Nat → Int32) → (Nat → Int32) → (Nat → Int32) → Option (Int32 × Int32 × (Nat → Int32) × (Nat → Int32) × (Nat → Int32) × (Nat → Int32) × (Nat → Int32) × (Nat → Int32) × (Nat → Int32) × (Nat → Int32) × Int32 × Int32 × (Nat → Int32) × (Nat → Int32) × Int32 × Int32 × Int32 × (Nat → Nat → Int32) × (Nat → Int32) × (Nat → Int32))
  | 0, _, _, _, _, _, _, _, _, _, _, _, _, _, _, _, _, _, _, _, _, _, _, _ => none
  | n + 1, v3, v4, v5, q_found, q_foundLifts, n_order, n_weights, n_black, n_lifts, n_begins, n_ends, n_has, n_lifted, n_allLifts, n_doneAt, y_going, y_coming, y_holds, y_latest, b_heaps, b_piles, b_heights, b_spots =>
    if r_guests ≤ v5 then (
      some (q_found, q_foundLifts, n_order, n_weights, n_black, n_lifts, n_begins, n_ends, n_has, n_lifted, n_allLifts, n_doneAt, y_going, y_coming, y_holds, y_latest, b_heaps, b_piles, b_heights, b_spots))
    else (
      (fX3_begin fuel n_order n_weights n_black y_going y_coming r_guests r_kinds r_figures r_minutes).bind fun o_5 =>
      (fX3_placeOf fuel o_5.1 r_guests v5).bind fun o_6 =>
      if v4 ≤ o_6 then (
        fX8_tryGoingAlong_J93 (fX8_tryGoingAlong_L26 fuel r_guests r_kinds r_figures r_minutes r_settings r_hooks r_letters r_letterCount p2 n) v3 v4 v5 q_found q_foundLifts o_5.1 o_5.2.1 o_5.2.2.1 n_lifts n_begins n_ends n_has n_lifted n_allLifts n_doneAt o_5.2.2.2.1 o_5.2.2.2.2 y_holds y_latest b_heaps b_piles b_heights b_spots)
      else (
        (fX8_goJustBehind fuel o_5.1 p2 v4 o_6).bind fun o_8 =>
        (fX8_liftsInOrder fuel o_8 o_5.2.1 o_5.2.2.1 n_lifts n_begins n_ends n_has n_lifted n_allLifts n_doneAt o_5.2.2.2.1 o_5.2.2.2.2 y_holds y_latest b_heaps b_piles b_heights b_spots r_guests r_settings r_hooks r_letters r_letterCount (-4)).bind fun o_9 =>
        if v3 ≤ o_9.1 then (
          fX8_tryGoingAlong_J93 (fX8_tryGoingAlong_L26 fuel r_guests r_kinds r_figures r_minutes r_settings r_hooks r_letters r_letterCount p2 n) v3 v4 v5 q_found q_foundLifts o_8 o_5.2.1 o_5.2.2.1 o_9.2.1 o_9.2.2.1 o_9.2.2.2.1 o_9.2.2.2.2.1 o_9.2.2.2.2.2.1 o_9.2.2.2.2.2.2.1 o_9.2.2.2.2.2.2.2.1 o_5.2.2.2.1 o_5.2.2.2.2 o_9.2.2.2.2.2.2.2.2.1 o_9.2.2.2.2.2.2.2.2.2.1 o_9.2.2.2.2.2.2.2.2.2.2.1 o_9.2.2.2.2.2.2.2.2.2.2.2.1 o_9.2.2.2.2.2.2.2.2.2.2.2.2.1 o_9.2.2.2.2.2.2.2.2.2.2.2.2.2)
        else (
          (fX8_findIfFewer fuel q_found q_foundLifts v5 o_9.1).bind fun o_11 =>
          fX8_tryGoingAlong_J93 (fX8_tryGoingAlong_L26 fuel r_guests r_kinds r_figures r_minutes r_settings r_hooks r_letters r_letterCount p2 n) v3 v4 v5 o_11.1 o_11.2 o_8 o_5.2.1 o_5.2.2.1 o_9.2.1 o_9.2.2.1 o_9.2.2.2.1 o_9.2.2.2.2.1 o_9.2.2.2.2.2.1 o_9.2.2.2.2.2.2.1 o_9.2.2.2.2.2.2.2.1 o_5.2.2.2.1 o_5.2.2.2.2 o_9.2.2.2.2.2.2.2.2.1 o_9.2.2.2.2.2.2.2.2.2.1 o_9.2.2.2.2.2.2.2.2.2.2.1 o_9.2.2.2.2.2.2.2.2.2.2.2.1 o_9.2.2.2.2.2.2.2.2.2.2.2.2.1 o_9.2.2.2.2.2.2.2.2.2.2.2.2.2)))
def fX8_tryGoingAlong (fuel : Nat) (q_found : Int32) (q_foundLifts : Int32) (n_order : Nat → Int32) (n_weights : Nat → Int32) (n_black : Nat → Int32) (n_lifts : Nat → Int32) (n_begins : Nat → Int32) (n_ends : Nat → Int32) (n_has : Nat → Int32) (n_lifted : Nat → Int32) (n_allLifts : Int32) (n_doneAt : Int32) (y_going : Nat → Int32) (y_coming : Nat → Int32) (y_holds : Int32) (y_latest : Int32) (b_heaps : Int32) (b_piles : Nat → Nat → Int32) (b_heights : Nat → Int32) (b_spots : Nat → Int32) (r_guests : Int32) (r_kinds : Nat → Int32) (r_figures : Nat → Int32) (r_minutes : Nat → Int32) (r_settings : Nat → Int32) (r_hooks : Int32) (r_letters : Nat → Int32) (r_letterCount : Int32) (p2 : Int32) : Option (Int32 × Int32 × (Nat → Int32) × (Nat → Int32) × (Nat → Int32) × (Nat → Int32) × (Nat → Int32) × (Nat → Int32) × (Nat → Int32) × (Nat → Int32) × Int32 × Int32 × (Nat → Int32) × (Nat → Int32) × Int32 × Int32 × Int32 × (Nat → Nat → Int32) × (Nat → Int32) × (Nat → Int32)) :=
  (fX8_findNothing fuel q_found q_foundLifts).bind fun o_1 =>
  (fX3_pass fuel n_order n_weights n_black n_lifts n_begins n_ends n_has n_lifted n_allLifts n_doneAt y_going y_coming y_holds y_latest b_heaps b_piles b_heights b_spots r_guests r_kinds r_figures r_minutes r_settings r_hooks r_letters r_letterCount).bind fun o_2 =>
  (fX3_placeOf fuel o_2.2.1 r_guests p2).bind fun o_3 =>
  fX8_tryGoingAlong_L26 fuel r_guests r_kinds r_figures r_minutes r_settings r_hooks r_letters r_letterCount p2 fuel o_2.1 o_3 0 o_1.1 o_1.2 o_2.2.1 o_2.2.2.1 o_2.2.2.2.1 o_2.2.2.2.2.1 o_2.2.2.2.2.2.1 o_2.2.2.2.2.2.2.1 o_2.2.2.2.2.2.2.2.1 o_2.2.2.2.2.2.2.2.2.1 o_2.2.2.2.2.2.2.2.2.2.1 o_2.2.2.2.2.2.2.2.2.2.2.1 o_2.2.2.2.2.2.2.2.2.2.2.2.1 o_2.2.2.2.2.2.2.2.2.2.2.2.2.1 o_2.2.2.2.2.2.2.2.2.2.2.2.2.2.1 o_2.2.2.2.2.2.2.2.2.2.2.2.2.2.2.1 o_2.2.2.2.2.2.2.2.2.2.2.2.2.2.2.2.1 o_2.2.2.2.2.2.2.2.2.2.2.2.2.2.2.2.2.1 o_2.2.2.2.2.2.2.2.2.2.2.2.2.2.2.2.2.2.1 o_2.2.2.2.2.2.2.2.2.2.2.2.2.2.2.2.2.2.2
def fX8_liftsWithTurn (fuel : Nat) (n_order : Nat → Int32) (n_weights : Nat → Int32) (n_black : Nat → Int32) (n_lifts : Nat → Int32) (n_begins : Nat → Int32) (n_ends : Nat → Int32) (n_has : Nat → Int32) (n_lifted : Nat → Int32) (n_allLifts : Int32) (n_doneAt : Int32) (y_going : Nat → Int32) (y_coming : Nat → Int32) (y_holds : Int32) (y_latest : Int32) (b_heaps : Int32) (b_piles : Nat → Nat → Int32) (b_heights : Nat → Int32) (b_spots : Nat → Int32) (r_guests : Int32) (r_kinds : Nat → Int32) (r_figures : Nat → Int32) (r_minutes : Nat → Int32) (r_settings : Nat → Int32) (r_hooks : Int32) (r_letters : Nat → Int32) (r_letterCount : Int32) (p2 : Int32) : Option (Int32 × (Nat → Int32) × (Nat → Int32) × (Nat → Int32) × (Nat → Int32) × (Nat → Int32) × (Nat → Int32) × (Nat → Int32) × (Nat → Int32) × Int32 × Int32 × (Nat → Int32) × (Nat → Int32) × Int32 × Int32 × Int32 × (Nat → Nat → Int32) × (Nat → Int32) × (Nat → Int32)) :=
  (fX3_begin fuel n_order n_weights n_black y_going y_coming r_guests r_kinds r_figures r_minutes).bind fun o_1 =>
  (fX3_firstFromMinute fuel o_1.1 o_1.2.2.2.1 r_guests p2).bind fun o_2 =>
  (fX8_liftsInOrder fuel o_1.1 o_1.2.1 o_1.2.2.1 n_lifts n_begins n_ends n_has n_lifted n_allLifts n_doneAt o_1.2.2.2.1 o_1.2.2.2.2 y_holds y_latest b_heaps b_piles b_heights b_spots r_guests r_settings r_hooks r_letters r_letterCount o_2).bind fun o_3 =>
  some (o_3.1, o_1.1, o_1.2.1, o_1.2.2.1, o_3.2.1, o_3.2.2.1, o_3.2.2.2.1, o_3.2.2.2.2.1, o_3.2.2.2.2.2.1, o_3.2.2.2.2.2.2.1, o_3.2.2.2.2.2.2.2.1, o_1.2.2.2.1, o_1.2.2.2.2, o_3.2.2.2.2.2.2.2.2.1, o_3.2.2.2.2.2.2.2.2.2.1, o_3.2.2.2.2.2.2.2.2.2.2.1, o_3.2.2.2.2.2.2.2.2.2.2.2.1, o_3.2.2.2.2.2.2.2.2.2.2.2.2.1, o_3.2.2.2.2.2.2.2.2.2.2.2.2.2)
def fX8_inTheWayOf_J103 (k25 : Int32 → Int32 → Int32 → Int32 → (Nat → Int32) → (Nat → Int32) → (Nat → Int32) → (Nat → Int32) → Int32 → (Nat → Int32) → Int32 → (Nat → Int32) → (Nat → Int32) → (Nat → Int32) → (Nat → Int32) → (Nat → Int32) → (Nat → Int32) → (Nat → Int32) → (Nat → Int32) → Int32 → Int32 → (Nat → Int32) → (Nat → Int32) → Int32 → Int32 → Int32 → (Nat → Nat → Int32) → (Nat → Int32) → (Nat → Int32) → Nat → Option (Int32 × Int32 × (Nat → Int32) × (Nat → Int32) × (Nat → Int32) × (Nat → Int32) × Int32 × (Nat → Int32) × Int32 × Nat × (Nat → Int32) × (Nat → Int32) × (Nat → Int32) × (Nat → Int32) × (Nat → Int32) × (Nat → Int32) × (Nat → Int32) × (Nat → Int32) × Int32 × Int32 × (Nat → Int32) × (Nat → Int32) × Int32 × Int32 × Int32 × (Nat → Nat → Int32) × (Nat → Int32) × (Nat → Int32))) (v3 : Int32) (v4 : Int32) (v5 : Int32) (t_guests : Int32) (t_kinds : Nat → Int32) (t_figures : Nat → Int32) (t_minutes : Nat → Int32) (t_settings : Nat → Int32) (t_hooks : Int32) (t_letters : Nat → Int32) (t_letterCount : Int32) (n_order : Nat → Int32) (n_weights : Nat → Int32) (n_black : Nat → Int32) (n_lifts : Nat → Int32) (n_begins : Nat → Int32) (n_ends : Nat → Int32) (n_has : Nat → Int32) (n_lifted : Nat → Int32) (n_allLifts : Int32) (n_doneAt : Int32) (y_going : Nat → Int32) (y_coming : Nat → Int32) (y_holds : Int32) (y_latest : Int32) (b_heaps : Int32) (b_piles : Nat → Nat → Int32) (b_heights : Nat → Int32) (b_spots : Nat → Int32) (n_room : Nat) : Option (Int32 × Int32 × (Nat → Int32) × (Nat → Int32) × (Nat → Int32) × (Nat → Int32) × Int32 × (Nat → Int32) × Int32 × Nat × (Nat → Int32) × (Nat → Int32) × (Nat → Int32) × (Nat → Int32) × (Nat → Int32) × (Nat → Int32) × (Nat → Int32) × (Nat → Int32) × Int32 × Int32 × (Nat → Int32) × (Nat → Int32) × Int32 × Int32 × Int32 × (Nat → Nat → Int32) × (Nat → Int32) × (Nat → Int32)) :=
  zlet (v5 + 1) fun v5_16 =>
  k25 v3 v4 v5_16 t_guests t_kinds t_figures t_minutes t_settings t_hooks t_letters t_letterCount n_order n_weights n_black n_lifts n_begins n_ends n_has n_lifted n_allLifts n_doneAt y_going y_coming y_holds y_latest b_heaps b_piles b_heights b_spots n_room
def fX8_inTheWayOf_L25 (fuel : Nat) (r_guests : Int32) (r_kinds : Nat → Int32) (r_figures : Nat → Int32) (r_minutes : Nat → Int32) (r_settings : Nat → Int32) (r_hooks : Int32) (r_letters : Nat → Int32) (r_letterCount : Int32) (ad_t : Nat → Nat) (p2 : Int32) : Nat → Int32 → Int32 → Int32 → Int32 → (Nat → Int32) → (Nat → Int32) → (Nat → Int32) → (Nat → Int32) → Int32 → (Nat → Int32) → Int32 → (Nat → Int32) → (Nat → Int32) → (Nat → Int32) → (Nat → Int32) → (Nat → Int32) → (Nat → Int32) → (Nat → Int32) → (Nat → Int32) → Int32 → Int32 → (Nat → Int32) → (Nat → Int32) → Int32 → Int32 → Int32 → (Nat → Nat → Int32) → (Nat → Int32) → (Nat → Int32) → Nat → Option (Int32 × Int32 × (Nat → Int32) × (Nat → Int32) × (Nat → Int32) × (Nat → Int32) × Int32 × (Nat → Int32) × Int32 × Nat × (Nat → Int32) × (Nat → Int32) × (Nat → Int32) × (Nat → Int32) × (Nat → Int32) × (Nat → Int32) × (Nat → Int32) × (Nat → Int32) × Int32 × Int32 × (Nat → Int32) × (Nat → Int32) × Int32 × Int32 × Int32 × (Nat → Nat → Int32) × (Nat → Int32) × (Nat → Int32))
  | 0, _, _, _, _, _, _, _, _, _, _, _, _, _, _, _, _, _, _, _, _, _, _, _, _, _, _, _, _, _, _ => none
  | n + 1, v3, v4, v5, t_guests, t_kinds, t_figures, t_minutes, t_settings, t_hooks, t_letters, t_letterCount, n_order, n_weights, n_black, n_lifts, n_begins, n_ends, n_has, n_lifted, n_allLifts, n_doneAt, y_going, y_coming, y_holds, y_latest, b_heaps, b_piles, b_heights, b_spots, n_room =>
    if r_guests ≤ v5 then (
      some (v4, t_guests, t_kinds, t_figures, t_minutes, t_settings, t_hooks, t_letters, t_letterCount, n_room, n_order, n_weights, n_black, n_lifts, n_begins, n_ends, n_has, n_lifted, n_allLifts, n_doneAt, y_going, y_coming, y_holds, y_latest, b_heaps, b_piles, b_heights, b_spots))
    else (
      if v5 = p2 then (
        fX8_inTheWayOf_J103 (fX8_inTheWayOf_L25 fuel r_guests r_kinds r_figures r_minutes r_settings r_hooks r_letters r_letterCount ad_t p2 n) v3 v4 v5 t_guests t_kinds t_figures t_minutes t_settings t_hooks t_letters t_letterCount n_order n_weights n_black n_lifts n_begins n_ends n_has n_lifted n_allLifts n_doneAt y_going y_coming y_holds y_latest b_heaps b_piles b_heights b_spots n_room)
      else (
        (fX5_copyFrom fuel t_guests t_kinds t_figures t_minutes t_settings t_hooks t_letters t_letterCount r_guests r_kinds r_figures r_minutes r_settings r_hooks r_letters r_letterCount).bind fun o_6 =>
        (fX5_dismiss fuel o_6.1 o_6.2.1 o_6.2.2.1 o_6.2.2.2.1 o_6.2.2.2.2.2.1 v5).bind fun o_7 =>
        (fX3_pass fuel n_order n_weights n_black n_lifts n_begins n_ends n_has n_lifted n_allLifts n_doneAt y_going y_coming y_holds y_latest b_heaps b_piles b_heights b_spots o_7.1 o_7.2.1 o_7.2.2.1 o_7.2.2.2.1 o_6.2.2.2.2.1 o_7.2.2.2.2 o_6.2.2.2.2.2.2.1 o_6.2.2.2.2.2.2.2).bind fun o_8 =>
        if p2 ≤ v5 then (
          zg (zin p2 10) <|
          if v3 ≤ (o_8.2.2.2.2.1 p2.toNatClampNeg) then (
            fX8_inTheWayOf_J103 (fX8_inTheWayOf_L25 fuel r_guests r_kinds r_figures r_minutes r_settings r_hooks r_letters r_letterCount ad_t p2 n) v3 v4 v5 o_7.1 o_7.2.1 o_7.2.2.1 o_7.2.2.2.1 o_6.2.2.2.2.1 o_7.2.2.2.2 o_6.2.2.2.2.2.2.1 o_6.2.2.2.2.2.2.2 o_8.2.1 o_8.2.2.1 o_8.2.2.2.1 o_8.2.2.2.2.1 o_8.2.2.2.2.2.1 o_8.2.2.2.2.2.2.1 o_8.2.2.2.2.2.2.2.1 o_8.2.2.2.2.2.2.2.2.1 o_8.2.2.2.2.2.2.2.2.2.1 o_8.2.2.2.2.2.2.2.2.2.2.1 o_8.2.2.2.2.2.2.2.2.2.2.2.1 o_8.2.2.2.2.2.2.2.2.2.2.2.2.1 o_8.2.2.2.2.2.2.2.2.2.2.2.2.2.1 o_8.2.2.2.2.2.2.2.2.2.2.2.2.2.2.1 o_8.2.2.2.2.2.2.2.2.2.2.2.2.2.2.2.1 o_8.2.2.2.2.2.2.2.2.2.2.2.2.2.2.2.2.1 o_8.2.2.2.2.2.2.2.2.2.2.2.2.2.2.2.2.2.1 o_8.2.2.2.2.2.2.2.2.2.2.2.2.2.2.2.2.2.2 (ad_t 0))
          else (
            zlet ((v4 ||| (((1 : Int32) <<< (v5 &&& 31))))) fun v4_12 =>
            fX8_inTheWayOf_J103 (fX8_inTheWayOf_L25 fuel r_guests r_kinds r_figures r_minutes r_settings r_hooks r_letters r_letterCount ad_t p2 n) v3 v4_12 v5 o_7.1 o_7.2.1 o_7.2.2.1 o_7.2.2.2.1 o_6.2.2.2.2.1 o_7.2.2.2.2 o_6.2.2.2.2.2.2.1 o_6.2.2.2.2.2.2.2 o_8.2.1 o_8.2.2.1 o_8.2.2.2.1 o_8.2.2.2.2.1 o_8.2.2.2.2.2.1 o_8.2.2.2.2.2.2.1 o_8.2.2.2.2.2.2.2.1 o_8.2.2.2.2.2.2.2.2.1 o_8.2.2.2.2.2.2.2.2.2.1 o_8.2.2.2.2.2.2.2.2.2.2.1 o_8.2.2.2.2.2.2.2.2.2.2.2.1 o_8.2.2.2.2.2.2.2.2.2.2.2.2.1 o_8.2.2.2.2.2.2.2.2.2.2.2.2.2.1 o_8.2.2.2.2.2.2.2.2.2.2.2.2.2.2.1 o_8.2.2.2.2.2.2.2.2.2.2.2.2.2.2.2.1 o_8.2.2.2.2.2.2.2.2.2.2.2.2.2.2.2.2.1 o_8.2.2.2.2.2.2.2.2.2.2.2.2.2.2.2.2.2.1 o_8.2.2.2.2.2.2.2.2.2.2.2.2.2.2.2.2.2.2 (ad_t 0)))
        else (
          zg (zin (p2 - 1) 10) <|
          if v3 ≤ ((o_8.2.2.2.2.1 (p2 - 1).toNatClampNeg)) then (
            fX8_inTheWayOf_J103 (fX8_inTheWayOf_L25 fuel r_guests r_kinds r_figures r_minutes r_settings r_hooks r_letters r_letterCount ad_t p2 n) v3 v4 v5 o_7.1 o_7.2.1 o_7.2.2.1 o_7.2.2.2.1 o_6.2.2.2.2.1 o_7.2.2.2.2 o_6.2.2.2.2.2.2.1 o_6.2.2.2.2.2.2.2 o_8.2.1 o_8.2.2.1 o_8.2.2.2.1 o_8.2.2.2.2.1 o_8.2.2.2.2.2.1 o_8.2.2.2.2.2.2.1 o_8.2.2.2.2.2.2.2.1 o_8.2.2.2.2.2.2.2.2.1 o_8.2.2.2.2.2.2.2.2.2.1 o_8.2.2.2.2.2.2.2.2.2.2.1 o_8.2.2.2.2.2.2.2.2.2.2.2.1 o_8.2.2.2.2.2.2.2.2.2.2.2.2.1 o_8.2.2.2.2.2.2.2.2.2.2.2.2.2.1 o_8.2.2.2.2.2.2.2.2.2.2.2.2.2.2.1 o_8.2.2.2.2.2.2.2.2.2.2.2.2.2.2.2.1 o_8.2.2.2.2.2.2.2.2.2.2.2.2.2.2.2.2.1 o_8.2.2.2.2.2.2.2.2.2.2.2.2.2.2.2.2.2.1 o_8.2.2.2.2.2.2.2.2.2.2.2.2.2.2.2.2.2.2 (ad_t 0))
          else (
            zlet ((v4 ||| (((1 : Int32) <<< (v5 &&& 31))))) fun v4_15 =>
            fX8_inTheWayOf_J103 (fX8_inTheWayOf_L25 fuel r_guests r_kinds r_figures r_minutes r_settings r_hooks r_letters r_letterCount ad_t p2 n) v3 v4_15 v5 o_7.1 o_7.2.1 o_7.2.2.1 o_7.2.2.2.1 o_6.2.2.2.2.1 o_7.2.2.2.2 o_6.2.2.2.2.2.2.1 o_6.2.2.2.2.2.2.2 o_8.2.1 o_8.2.2.1 o_8.2.2.2.1 o_8.2.2.2.2.1 o_8.2.2.2.2.2.1 o_8.2.2.2.2.2.2.1 o_8.2.2.2.2.2.2.2.1 o_8.2.2.2.2.2.2.2.2.1 o_8.2.2.2.2.2.2.2.2.2.1 o_8.2.2.2.2.2.2.2.2.2.2.1 o_8.2.2.2.2.2.2.2.2.2.2.2.1 o_8.2.2.2.2.2.2.2.2.2.2.2.2.1 o_8.2.2.2.2.2.2.2.2.2.2.2.2.2.1 o_8.2.2.2.2.2.2.2.2.2.2.2.2.2.2.1 o_8.2.2.2.2.2.2.2.2.2.2.2.2.2.2.2.1 o_8.2.2.2.2.2.2.2.2.2.2.2.2.2.2.2.2.1 o_8.2.2.2.2.2.2.2.2.2.2.2.2.2.2.2.2.2.1 o_8.2.2.2.2.2.2.2.2.2.2.2.2.2.2.2.2.2.2 (ad_t 0)))))
def fX8_inTheWayOf (fuel : Nat) (t_guests : Int32) (t_kinds : Nat → Int32) (t_figures : Nat → Int32) (t_minutes : Nat → Int32) (t_settings : Nat → Int32) (t_hooks : Int32) (t_letters : Nat → Int32) (t_letterCount : Int32) (n_room : Nat) (n_order : Nat → Int32) (n_weights : Nat → Int32) (n_black : Nat → Int32) (n_lifts : Nat → Int32) (n_begins : Nat → Int32) (n_ends : Nat → Int32) (n_has : Nat → Int32) (n_lifted : Nat → Int32) (n_allLifts : Int32) (n_doneAt : Int32) (y_going : Nat → Int32) (y_coming : Nat → Int32) (y_holds : Int32) (y_latest : Int32) (b_heaps : Int32) (b_piles : Nat → Nat → Int32) (b_heights : Nat → Int32) (b_spots : Nat → Int32) (r_guests : Int32) (r_kinds : Nat → Int32) (r_figures : Nat → Int32) (r_minutes : Nat → Int32) (r_settings : Nat → Int32) (r_hooks : Int32) (r_letters : Nat → Int32) (r_letterCount : Int32) (ad_t : Nat → Nat) (ad_r : Nat → Nat) (p2 : Int32) : Option (Int32 × Int32 × (Nat → Int32) × (Nat → Int32) × (Nat → Int32) × (Nat → Int32) × Int32 × (Nat → Int32) × Int32 × Nat × (Nat → Int32) × (Nat → Int32) × (Nat → Int32) × (Nat → Int32) × (Nat → Int32) × (Nat → Int32) × (Nat → Int32) × (Nat → Int32) × Int32 × Int32 × (Nat → Int32) × (Nat → Int32) × Int32 × Int32 × Int32 × (Nat → Nat → Int32) × (Nat → Int32) × (Nat → Int32)) :=
  (fX3_pass fuel n_order n_weights n_black n_lifts n_begins n_ends n_has n_lifted n_allLifts n_doneAt y_going y_coming y_holds y_latest b_heaps b_piles b_heights b_spots r_guests r_kinds r_figures r_minutes r_settings r_hooks r_letters r_letterCount).bind fun o_1 =>
  zg (zin p2 10) <|
  zlet (o_1.2.2.2.2.1 p2.toNatClampNeg) fun v3_3 =>
  fX8_inTheWayOf_L25 fuel r_guests r_kinds r_figures r_minutes r_settings r_hooks r_letters r_letterCount ad_t p2 fuel v3_3 0 0 t_guests t_kinds t_figures t_minutes t_settings t_hooks t_letters t_letterCount o_1.2.1 o_1.2.2.1 o_1.2.2.2.1 o_1.2.2.2.2.1 o_1.2.2.2.2.2.1 o_1.2.2.2.2.2.2.1 o_1.2.2.2.2.2.2.2.1 o_1.2.2.2.2.2.2.2.2.1 o_1.2.2.2.2.2.2.2.2.2.1 o_1.2.2.2.2.2.2.2.2.2.2.1 o_1.2.2.2.2.2.2.2.2.2.2.2.1 o_1.2.2.2.2.2.2.2.2.2.2.2.2.1 o_1.2.2.2.2.2.2.2.2.2.2.2.2.2.1 o_1.2.2.2.2.2.2.2.2.2.2.2.2.2.2.1 o_1.2.2.2.2.2.2.2.2.2.2.2.2.2.2.2.1 o_1.2.2.2.2.2.2.2.2.2.2.2.2.2.2.2.2.1 o_1.2.2.2.2.2.2.2.2.2.2.2.2.2.2.2.2.2.1 o_1.2.2.2.2.2.2.2.2.2.2.2.2.2.2.2.2.2.2 (ad_r 0)
def fX8_restOfTwo_J123 (v4 : Int32) (q_firstsLifts : Nat → Int32) (q_othersLifts : Nat → Int32) (t_guests : Int32) (t_kinds : Nat → Int32) (t_figures : Nat → Int32) (t_minutes : Nat → Int32) (t_settings : Nat → Int32) (t_hooks : Int32) (t_letters : Nat → Int32) (t_letterCount : Int32) (n_order : Nat → Int32) (n_weights : Nat → Int32) (n_black : Nat → Int32) (n_lifts : Nat → Int32) (n_begins : Nat → Int32) (n_ends : Nat → Int32) (n_has : Nat → Int32) (n_lifted : Nat → Int32) (n_allLifts : Int32) (n_doneAt : Int32) (y_going : Nat → Int32) (y_coming : Nat → Int32) (y_holds : Int32) (y_latest : Int32) (b_heaps : Int32) (b_piles : Nat → Nat → Int32) (b_heights : Nat → Int32) (b_spots : Nat → Int32) (n_room : Nat) : Option (Int32 × (Nat → Int32) × (Nat → Int32) × Int32 × (Nat → Int32) × (Nat → Int32) × (Nat → Int32) × (Nat → Int32) × Int32 × (Nat → Int32) × Int32 × Nat × (Nat → Int32) × (Nat → Int32) × (Nat → Int32) × (Nat → Int32) × (Nat → Int32) × (Nat → Int32) × (Nat → Int32) × (Nat → Int32) × Int32 × Int32 × (Nat → Int32) × (Nat → Int32) × Int32 × Int32 × Int32 × (Nat → Nat → Int32) × (Nat → Int32) × (Nat → Int32)) :=
  some ((((10 * (v4 / 3))) + (v4 - v4 / 3 * 3)), q_firstsLifts, q_othersLifts, t_guests, t_kinds, t_figures, t_minutes, t_settings, t_hooks, t_letters, t_letterCount, n_room, n_order, n_weights, n_black, n_lifts, n_begins, n_ends, n_has, n_lifted, n_allLifts, n_doneAt, y_going, y_coming, y_holds, y_latest, b_heaps, b_piles, b_heights, b_spots)
def fX8_restOfTwo_L107 (fuel : Nat) : Nat → Int32 → (Nat → Int32) → (Nat → Int32) → Int32 → (Nat → Int32) → (Nat → Int32) → (Nat → Int32) → (Nat → Int32) → Int32 → (Nat → Int32) → Int32 → (Nat → Int32) → (Nat → Int32) → (Nat → Int32) → (Nat → Int32) → (Nat → Int32) → (Nat → Int32) → (Nat → Int32) → (Nat → Int32) → Int32 → Int32 → (Nat → Int32) → (Nat → Int32) → Int32 → Int32 → Int32 → (Nat → Nat → Int32) → (Nat → Int32) → (Nat → Int32) → Nat → Option (Int32 × (Nat → Int32) × (Nat → Int32) × Int32 × (Nat → Int32) × (Nat → Int32) × (Nat → Int32) × (Nat → Int32) × Int32 × (Nat → Int32) × Int32 × Nat × (Nat → Int32) × (Nat → Int32) × (Nat → Int32) × (Nat → Int32) × (Nat → Int32) × (Nat → Int32) × (Nat → Int32) × (Nat → Int32) × Int32 × Int32 × (Nat → Int32) × (Nat → Int32) × Int32 × Int32 × Int32 × (Nat → Nat → Int32) × (Nat → Int32) × (Nat → Int32))
  | 0, _, _, _, _, _, _, _, _, _, _, _, _, _, _, _, _, _, _, _, _, _, _, _, _, _, _, _, _, _, _ => none
  | n + 1, v4, q_firstsLifts, q_othersLifts, t_guests, t_kinds, t_figures, t_minutes, t_settings, t_hooks, t_letters, t_letterCount, n_order, n_weights, n_black, n_lifts, n_begins, n_ends, n_has, n_lifted, n_allLifts, n_doneAt, y_going, y_coming, y_holds, y_latest, b_heaps, b_piles, b_heights, b_spots, n_room =>
    if 9 ≤ v4 then (
      some ((-4), q_firstsLifts, q_othersLifts, t_guests, t_kinds, t_figures, t_minutes, t_settings, t_hooks, t_letters, t_letterCount, n_room, n_order, n_weights, n_black, n_lifts, n_begins, n_ends, n_has, n_lifted, n_allLifts, n_doneAt, y_going, y_coming, y_holds, y_latest, b_heaps, b_piles, b_heights, b_spots))
    else (
      (fX8_rests fuel q_firstsLifts q_othersLifts v4).bind fun o_15 =>
      if o_15 = 0 then (
        zlet (v4 + 1) fun v4_17 =>
        fX8_restOfTwo_L107 fuel n v4_17 q_firstsLifts q_othersLifts t_guests t_kinds t_figures t_minutes t_settings t_hooks t_letters t_letterCount n_order n_weights n_black n_lifts n_begins n_ends n_has n_lifted n_allLifts n_doneAt y_going y_coming y_holds y_latest b_heaps b_piles b_heights b_spots n_room)
      else (
        fX8_restOfTwo_J123 v4 q_firstsLifts q_othersLifts t_guests t_kinds t_figures t_minutes t_settings t_hooks t_letters t_letterCount n_order n_weights n_black n_lifts n_begins n_ends n_has n_lifted n_allLifts n_doneAt y_going y_coming y_holds y_latest b_heaps b_piles b_heights b_spots n_room))
def fX8_restOfTwo_J104 (fuel : Nat) (q_firstsLifts : Nat → Int32) (q_othersLifts : Nat → Int32) (t_guests : Int32) (t_kinds : Nat → Int32) (t_figures : Nat → Int32) (t_minutes : Nat → Int32) (t_settings : Nat → Int32) (t_hooks : Int32) (t_letters : Nat → Int32) (t_letterCount : Int32) (n_order : Nat → Int32) (n_weights : Nat → Int32) (n_black : Nat → Int32) (n_lifts : Nat → Int32) (n_begins : Nat → Int32) (n_ends : Nat → Int32) (n_has : Nat → Int32) (n_lifted : Nat → Int32) (n_allLifts : Int32) (n_doneAt : Int32) (y_going : Nat → Int32) (y_coming : Nat → Int32) (y_holds : Int32) (y_latest : Int32) (b_heaps : Int32) (b_piles : Nat → Nat → Int32) (b_heights : Nat → Int32) (b_spots : Nat → Int32) (n_room : Nat) : Option (Int32 × (Nat → Int32) × (Nat → Int32) × Int32 × (Nat → Int32) × (Nat → Int32) × (Nat → Int32) × (Nat → Int32) × Int32 × (Nat → Int32) × Int32 × Nat × (Nat → Int32) × (Nat → Int32) × (Nat → Int32) × (Nat → Int32) × (Nat → Int32) × (Nat → Int32) × (Nat → Int32) × (Nat → Int32) × Int32 × Int32 × (Nat → Int32) × (Nat → Int32) × Int32 × Int32 × Int32 × (Nat → Nat → Int32) × (Nat → Int32) × (Nat → Int32)) :=
  fX8_restOfTwo_L107 fuel fuel 0 q_firstsLifts q_othersLifts t_guests t_kinds t_figures t_minutes t_settings t_hooks t_letters t_letterCount n_order n_weights n_black n_lifts n_begins n_ends n_has n_lifted n_allLifts n_doneAt y_going y_coming y_holds y_latest b_heaps b_piles b_heights b_spots n_room
def fX8_restOfTwo_L3 (fuel : Nat) (r_guests : Int32) (r_kinds : Nat → Int32) (r_figures : Nat → Int32) (r_minutes : Nat → Int32) (r_settings : Nat → Int32) (r_hooks : Int32) (r_letters : Nat → Int32) (r_letterCount : Int32) (ad_t : Nat → Nat) (p2 : Int32) (p3 : Int32) : Nat → Int32 → (Nat → Int32) → (Nat → Int32) → Int32 → (Nat → Int32) → (Nat → Int32) → (Nat → Int32) → (Nat → Int32) → Int32 → (Nat → Int32) → Int32 → (Nat → Int32) → (Nat → Int32) → (Nat → Int32) → (Nat → Int32) → (Nat → Int32) → (Nat → Int32) → (Nat → Int32) → (Nat → Int32) → Int32 → Int32 → (Nat → Int32) → (Nat → Int32) → Int32 → Int32 → Int32 → (Nat → Nat → Int32) → (Nat → Int32) → (Nat → Int32) → Nat → Option (Int32 × (Nat → Int32) × (Nat → Int32) × Int32 × (Nat → Int32) × (Nat → Int32) × (Nat → Int32) × (Nat → Int32) × Int32 × (Nat → Int32) × Int32 × Nat × (Nat → Int32) × (Nat → Int32) × (Nat → Int32) × (Nat → Int32) × (Nat → Int32) × (Nat → Int32) × (Nat → Int32) × (Nat → Int32) × Int32 × Int32 × (Nat → Int32) × (Nat → Int32) × Int32 × Int32 × Int32 × (Nat → Nat → Int32) × (Nat → Int32) × (Nat → Int32))
  | 0, _, _, _, _, _, _, _, _, _, _, _, _, _, _, _, _, _, _, _, _, _, _, _, _, _, _, _, _, _, _ => none
  | n + 1, v4, q_firstsLifts, q_othersLifts, t_guests, t_kinds, t_figures, t_minutes, t_settings, t_hooks, t_letters, t_letterCount, n_order, n_weights, n_black, n_lifts, n_begins, n_ends, n_has, n_lifted, n_allLifts, n_doneAt, y_going, y_coming, y_holds, y_latest, b_heaps, b_piles, b_heights, b_spots, n_room =>
    if 9 ≤ v4 then (
      fX8_restOfTwo_J104 fuel q_firstsLifts q_othersLifts t_guests t_kinds t_figures t_minutes t_settings t_hooks t_letters t_letterCount n_order n_weights n_black n_lifts n_begins n_ends n_has n_lifted n_allLifts n_doneAt y_going y_coming y_holds y_latest b_heaps b_piles b_heights b_spots n_room)
    else (
      (fX5_copyFrom fuel t_guests t_kinds t_figures t_minutes t_settings t_hooks t_letters t_letterCount r_guests r_kinds r_figures r_minutes r_settings r_hooks r_letters r_letterCount).bind fun o_2 =>
      zg (zin p2 10) <|
      zlet (((o_2.2.2.2.1 p2.toNatClampNeg) + ((5 * (v4 / 3))))) fun x_4 =>
      zlet (upd o_2.2.2.2.1 p2.toNatClampNeg x_4) fun t_minutes_5 =>
      zg (zin p3 10) <|
      zlet (((t_minutes_5 p3.toNatClampNeg) + ((5 * (v4 - v4 / 3 * 3))))) fun x_7 =>
      zlet (upd t_minutes_5 p3.toNatClampNeg x_7) fun t_minutes_8 =>
      (fX3_pass fuel n_order n_weights n_black n_lifts n_begins n_ends n_has n_lifted n_allLifts n_doneAt y_going y_coming y_holds y_latest b_heaps b_piles b_heights b_spots o_2.1 o_2.2.1 o_2.2.2.1 t_minutes_8 o_2.2.2.2.2.1 o_2.2.2.2.2.2.1 o_2.2.2.2.2.2.2.1 o_2.2.2.2.2.2.2.2).bind fun o_9 =>
      zg (zin v4 9) <|
      zlet (upd q_firstsLifts v4.toNatClampNeg (o_9.2.2.2.2.1 p2.toNatClampNeg)) fun q_firstsLifts_11 =>
      zlet (upd q_othersLifts v4.toNatClampNeg (o_9.2.2.2.2.1 p3.toNatClampNeg)) fun q_othersLifts_12 =>
      zlet (v4 + 1) fun v4_13 =>
      fX8_restOfTwo_L3 fuel r_guests r_kinds r_figures r_minutes r_settings r_hooks r_letters r_letterCount ad_t p2 p3 n v4_13 q_firstsLifts_11 q_othersLifts_12 o_2.1 o_2.2.1 o_2.2.2.1 t_minutes_8 o_2.2.2.2.2.1 o_2.2.2.2.2.2.1 o_2.2.2.2.2.2.2.1 o_2.2.2.2.2.2.2.2 o_9.2.1 o_9.2.2.1 o_9.2.2.2.1 o_9.2.2.2.2.1 o_9.2.2.2.2.2.1 o_9.2.2.2.2.2.2.1 o_9.2.2.2.2.2.2.2.1 o_9.2.2.2.2.2.2.2.2.1 o_9.2.2.2.2.2.2.2.2.2.1 o_9.2.2.2.2.2.2.2.2.2.2.1 o_9.2.2.2.2.2.2.2.2.2.2.2.1 o_9.2.2.2.2.2.2.2.2.2.2.2.2.1 o_9.2.2.2.2.2.2.2.2.2.2.2.2.2.1 o_9.2.2.2.2.2.2.2.2.2.2.2.2.2.2.1 o_9.2.2.2.2.2.2.2.2.2.2.2.2.2.2.2.1 o_9.2.2.2.2.2.2.2.2.2.2.2.2.2.2.2.2.1 o_9.2.2.2.2.2.2.2.2.2.2.2.2.2.2.2.2.2.1 o_9.2.2.2.2.2.2.2.2.2.2.2.2.2.2.2.2.2.2 (ad_t 0))
def fX8_restOfTwo (fuel : Nat) (q_firstsLifts : Nat → Int32) (q_othersLifts : Nat → Int32) (t_guests : Int32) (t_kinds : Nat → Int32) (t_figures : Nat → Int32) (t_minutes : Nat → Int32) (t_settings : Nat → Int32) (t_hooks : Int32) (t_letters : Nat → Int32) (t_letterCount : Int32) (n_room : Nat) (n_order : Nat → Int32) (n_weights : Nat → Int32) (n_black : Nat → Int32) (n_lifts : Nat → Int32) (n_begins : Nat → Int32) (n_ends : Nat → Int32) (n_has : Nat → Int32) (n_lifted : Nat → Int32) (n_allLifts : Int32) (n_doneAt : Int32) (y_going : Nat → Int32) (y_coming : Nat → Int32) (y_holds : Int32) (y_latest : Int32) (b_heaps : Int32) (b_piles : Nat → Nat → Int32) (b_heights : Nat → Int32) (b_spots : Nat → Int32) (r_guests : Int32) (r_kinds : Nat → Int32) (r_figures : Nat → Int32) (r_minutes : Nat → Int32) (r_settings : Nat → Int32) (r_hooks : Int32) (r_letters : Nat → Int32) (r_letterCount : Int32) (ad_t : Nat → Nat) (p2 : Int32) (p3 : Int32) : Option (Int32 × (Nat → Int32) × (Nat → Int32) × Int32 × (Nat → Int32) × (Nat → Int32) × (Nat → Int32) × (Nat → Int32) × Int32 × (Nat → Int32) × Int32 × Nat × (Nat → Int32) × (Nat → Int32) × (Nat → Int32) × (Nat → Int32) × (Nat → Int32) × (Nat → Int32) × (Nat → Int32) × (Nat → Int32) × Int32 × Int32 × (Nat → Int32) × (Nat → Int32) × Int32 × Int32 × Int32 × (Nat → Nat → Int32) × (Nat → Int32) × (Nat → Int32)) :=
  fX8_restOfTwo_L3 fuel r_guests r_kinds r_figures r_minutes r_settings r_hooks r_letters r_letterCount ad_t p2 p3 fuel 0 q_firstsLifts q_othersLifts t_guests t_kinds t_figures t_minutes t_settings t_hooks t_letters t_letterCount n_order n_weights n_black n_lifts n_begins n_ends n_has n_lifted n_allLifts n_doneAt y_going y_coming y_holds y_latest b_heaps b_piles b_heights b_spots n_room
def fX8_tryNights_J69 (fuel : Nat) (ad_t : Nat → Nat) (k26 : Int32 → Int32 → Int32 → Int32 → Int32 → (Nat → Int32) → (Nat → Int32) → (Nat → Int32) → (Nat → Int32) → Int32 → (Nat → Int32) → Int32 → (Nat → Int32) → (Nat → Int32) → (Nat → Int32) → (Nat → Int32) → (Nat → Int32) → (Nat → Int32) → (Nat → Int32) → (Nat → Int32) → Int32 → Int32 → (Nat → Int32) → (Nat → Int32) → Int32 → Int32 → Int32 → (Nat → Nat → Int32) → (Nat → Int32) → (Nat → Int32) → Nat → Option (Int32 × Int32 × Int32 × Int32 × (Nat → Int32) × (Nat → Int32) × (Nat → Int32) × (Nat → Int32) × Int32 × (Nat → Int32) × Int32 × Nat × (Nat → Int32) × (Nat → Int32) × (Nat → Int32) × (Nat → Int32) × (Nat → Int32) × (Nat → Int32) × (Nat → Int32) × (Nat → Int32) × Int32 × Int32 × (Nat → Int32) × (Nat → Int32) × Int32 × Int32 × Int32 × (Nat → Nat → Int32) × (Nat → Int32) × (Nat → Int32))) (v4 : Int32) (q_seed : Int32) (q_sumOfLifts : Int32) (q_sumOfMissers : Int32) (t_guests : Int32) (t_kinds : Nat → Int32) (t_figures : Nat → Int32) (t_minutes : Nat → Int32) (t_settings : Nat → Int32) (t_hooks : Int32) (t_letters : Nat → Int32) (t_letterCount : Int32) (n_order : Nat → Int32) (n_weights : Nat → Int32) (n_black : Nat → Int32) (n_lifts : Nat → Int32) (n_begins : Nat → Int32) (n_ends : Nat → Int32) (n_has : Nat → Int32) (n_lifted : Nat → Int32) (n_allLifts : Int32) (n_doneAt : Int32) (y_going : Nat → Int32) (y_coming : Nat → Int32) (y_holds : Int32) (y_latest : Int32) (b_heaps : Int32) (b_piles : Nat → Nat → Int32) (b_heights : Nat → Int32) (b_spots : Nat → Int32) (n_room : Nat) : Option (Int32 × Int32 × Int32 × Int32 × (Nat → Int32) × (Nat → Int32) × (Nat → Int32) × (Nat → Int32) × Int32 × (Nat → Int32) × Int32 × Nat × (Nat → Int32) × (Nat → Int32) × (Nat → Int32) × (Nat → Int32) × (Nat → Int32) × (Nat → Int32) × (Nat → Int32) × (Nat → Int32) × Int32 × Int32 × (Nat → Int32) × (Nat → Int32) × Int32 × Int32 × Int32 × (Nat → Nat → Int32) × (Nat → Int32) × (Nat → Int32)) :=
  (fX3_pass fuel n_order n_weights n_black n_lifts n_begins n_ends n_has n_lifted n_allLifts n_doneAt y_going y_coming y_holds y_latest b_heaps b_piles b_heights b_spots t_guests t_kinds t_figures t_minutes t_settings t_hooks t_letters t_letterCount).bind fun o_8 =>
  zlet (q_sumOfLifts + o_8.1) fun sumOfLifts_9 =>
  (fX3_missers fuel o_8.2.2.2.2.2.2.1 o_8.2.2.2.2.2.2.2.2.2.2.2.1 t_guests t_kinds t_figures).bind fun o_10 =>
  (fJ6_bitCount_0f7a4 fuel o_10).bind fun o_11 =>
  zlet (q_sumOfMissers + o_11) fun sumOfMissers_12 =>
  zlet (v4 + 1) fun v4_13 =>
  k26 v4_13 q_seed sumOfLifts_9 sumOfMissers_12 t_guests t_kinds t_figures t_minutes t_settings t_hooks t_letters t_letterCount o_8.2.1 o_8.2.2.1 o_8.2.2.2.1 o_8.2.2.2.2.1 o_8.2.2.2.2.2.1 o_8.2.2.2.2.2.2.1 o_8.2.2.2.2.2.2.2.1 o_8.2.2.2.2.2.2.2.2.1 o_8.2.2.2.2.2.2.2.2.2.1 o_8.2.2.2.2.2.2.2.2.2.2.1 o_8.2.2.2.2.2.2.2.2.2.2.2.1 o_8.2.2.2.2.2.2.2.2.2.2.2.2.1 o_8.2.2.2.2.2.2.2.2.2.2.2.2.2.1 o_8.2.2.2.2.2.2.2.2.2.2.2.2.2.2.1 o_8.2.2.2.2.2.2.2.2.2.2.2.2.2.2.2.1 o_8.2.2.2.2.2.2.2.2.2.2.2.2.2.2.2.2.1 o_8.2.2.2.2.2.2.2.2.2.2.2.2.2.2.2.2.2.1 o_8.2.2.2.2.2.2.2.2.2.2.2.2.2.2.2.2.2.2 (ad_t 0)
def fX8_tryNights_L35 (fuel : Nat) (ad_t : Nat → Nat) (k26 : Int32 → Int32 → Int32 → Int32 → Int32 → (Nat → Int32) → (Nat → Int32) → (Nat → Int32) → (Nat → Int32) → Int32 → (Nat → Int32) → Int32 → (Nat → Int32) → (Nat → Int32) → (Nat → Int32) → (Nat → Int32) → (Nat → Int32) → (Nat → Int32) → (Nat → Int32) → (Nat → Int32) → Int32 → Int32 → (Nat → Int32) → (Nat → Int32) → Int32 → Int32 → Int32 → (Nat → Nat → Int32) → (Nat → Int32) → (Nat → Int32) → Nat → Option (Int32 × Int32 × Int32 × Int32 × (Nat → Int32) × (Nat → Int32) × (Nat → Int32) × (Nat → Int32) × Int32 × (Nat → Int32) × Int32 × Nat × (Nat → Int32) × (Nat → Int32) × (Nat → Int32) × (Nat → Int32) × (Nat → Int32) × (Nat → Int32) × (Nat → Int32) × (Nat → Int32) × Int32 × Int32 × (Nat → Int32) × (Nat → Int32) × Int32 × Int32 × Int32 × (Nat → Nat → Int32) × (Nat → Int32) × (Nat → Int32))) : Nat → Int32 → Int32 → Int32 → Int32 → Int32 → Int32 → (Nat → Int32) → (Nat → Int32) → (Nat → Int32) → (Nat → Int32) → Int32 → (Nat → Int32) → Int32 → (Nat → Int32) → (Nat → Int32) → (Nat → Int32) → (Nat → Int32) → (Nat → Int32) → (Nat → Int32) → (Nat → Int32) → (Nat → Int32) → Int32 → Int32 → (Nat → Int32) → (Nat → Int32) → Int32 → Int32 → Int32 → (Nat → Nat → Int32) → (Nat → Int32) → (Nat → Int32) → Nat → Option (Int32 × Int32 × Int32 × Int32 × (Nat → Int32) × (Nat → Int32) × (Nat → Int32) × (Nat → Int32) × Int32 × (Nat → Int32) × Int32 × Nat × (Nat → Int32) × (Nat → Int32) × (Nat → Int32) × (Nat → Int32) × (Nat → Int32) × (Nat → Int32) × (Nat → Int32) × (Nat → Int32) × Int32 × Int32 × (Nat → Int32) × (Nat → Int32) × Int32 × Int32 × Int32 × (Nat → Nat → Int32) × (Nat → Int32) × (Nat → Int32))
  | 0, _, _, _, _, _, _, _, _, _, _, _, _, _, _, _, _, _, _, _, _, _, _, _, _, _, _, _, _, _, _, _, _ => none
  | n + 1, v4, v5, q_seed, q_sumOfLifts, q_sumOfMissers, t_guests, t_kinds, t_figures, t_minutes, t_settings, t_hooks, t_letters, t_letterCount, n_order, n_weights, n_black, n_lifts, n_begins, n_ends, n_has, n_lifted, n_allLifts, n_doneAt, y_going, y_coming, y_holds, y_latest, b_heaps, b_piles, b_heights, b_spots, n_room =>
    if t_guests ≤ v5 then (
      fX8_tryNights_J69 fuel ad_t k26 v4 q_seed q_sumOfLifts q_sumOfMissers t_guests t_kinds t_figures t_minutes t_settings t_hooks t_letters t_letterCount n_order n_weights n_black n_lifts n_begins n_ends n_has n_lifted n_allLifts n_doneAt y_going y_coming y_holds y_latest b_heaps b_piles b_heights b_spots n_room)
    else (
      (fX8_draw fuel q_seed 60).bind fun o_4 =>
      zg (zin v5 10) <|
      zlet (upd t_minutes v5.toNatClampNeg o_4.1) fun t_minutes_6 =>
      zlet (v5 + 1) fun v5_7 =>
      fX8_tryNights_L35 fuel ad_t k26 n v4 v5_7 o_4.2 q_sumOfLifts q_sumOfMissers t_guests t_kinds t_figures t_minutes_6 t_settings t_hooks t_letters t_letterCount n_order n_weights n_black n_lifts n_begins n_ends n_has n_lifted n_allLifts n_doneAt y_going y_coming y_holds y_latest b_heaps b_piles b_heights b_spots n_room)
def fX8_tryNights_L26 (fuel : Nat) (ad_t : Nat → Nat) (p2 : Int32) : Nat → Int32 → Int32 → Int32 → Int32 → Int32 → (Nat → Int32) → (Nat → Int32) → (Nat → Int32) → (Nat → Int32) → Int32 → (Nat → Int32) → Int32 → (Nat → Int32) → (Nat → Int32) → (Nat → Int32) → (Nat → Int32) → (Nat → Int32) → (Nat → Int32) → (Nat → Int32) → (Nat → Int32) → Int32 → Int32 → (Nat → Int32) → (Nat → Int32) → Int32 → Int32 → Int32 → (Nat → Nat → Int32) → (Nat → Int32) → (Nat → Int32) → Nat → Option (Int32 × Int32 × Int32 × Int32 × (Nat → Int32) × (Nat → Int32) × (Nat → Int32) × (Nat → Int32) × Int32 × (Nat → Int32) × Int32 × Nat × (Nat → Int32) × (Nat → Int32) × (Nat → Int32) × (Nat → Int32) × (Nat → Int32) × (Nat → Int32) × (Nat → Int32) × (Nat → Int32) × Int32 × Int32 × (Nat → Int32) × (Nat → Int32) × Int32 × Int32 × Int32 × (Nat → Nat → Int32) × (Nat → Int32) × (Nat → Int32))
  | 0, _, _, _, _, _, _, _, _, _, _, _, _, _, _, _, _, _, _, _, _, _, _, _, _, _, _, _, _, _, _, _ => none
  | n + 1, v4, q_seed, q_sumOfLifts, q_sumOfMissers, t_guests, t_kinds, t_figures, t_minutes, t_settings, t_hooks, t_letters, t_letterCount, n_order, n_weights, n_black, n_lifts, n_begins, n_ends, n_has, n_lifted, n_allLifts, n_doneAt, y_going, y_coming, y_holds, y_latest, b_heaps, b_piles, b_heights, b_spots, n_room =>
    if p2 ≤ v4 then (
      some (q_seed, q_sumOfLifts, q_sumOfMissers, t_guests, t_kinds, t_figures, t_minutes, t_settings, t_hooks, t_letters, t_letterCount, n_room, n_order, n_weights, n_black, n_lifts, n_begins, n_ends, n_has, n_lifted, n_allLifts, n_doneAt, y_going, y_coming, y_holds, y_latest, b_heaps, b_piles, b_heights, b_spots))
    else (
      fX8_tryNights_L35 fuel ad_t (fX8_tryNights_L26 fuel ad_t p2 n) fuel v4 0 q_seed q_sumOfLifts q_sumOfMissers t_guests t_kinds t_figures t_minutes t_settings t_hooks t_letters t_letterCount n_order n_weights n_black n_lifts n_begins n_ends n_has n_lifted n_allLifts n_doneAt y_going y_coming y_holds y_latest b_heaps b_piles b_heights b_spots n_room)
def fX8_tryNights (fuel : Nat) (q_seed : Int32) (q_sumOfLifts : Int32) (q_sumOfMissers : Int32) (t_guests : Int32) (t_kinds : Nat → Int32) (t_figures : Nat → Int32) (t_minutes : Nat → Int32) (t_settings : Nat → Int32) (t_hooks : Int32) (t_letters : Nat → Int32) (t_letterCount : Int32) (n_room : Nat) (n_order : Nat → Int32) (n_weights : Nat → Int32) (n_black : Nat → Int32) (n_lifts : Nat → Int32) (n_begins : Nat → Int32) (n_ends : Nat → Int32) (n_has : Nat → Int32) (n_lifted : Nat → Int32) (n_allLifts : Int32) (n_doneAt : Int32) (y_going : Nat → Int32) (y_coming : Nat → Int32) (y_holds : Int32) (y_latest : Int32) (b_heaps : Int32) (b_piles : Nat → Nat → Int32) (b_heights : Nat → Int32) (b_spots : Nat → Int32) (r_guests : Int32) (r_kinds : Nat → Int32) (r_figures : Nat → Int32) (r_minutes : Nat → Int32) (r_settings : Nat → Int32) (r_hooks : Int32) (r_letters : Nat → Int32) (r_letterCount : Int32) (ad_t : Nat → Nat) (p2 : Int32) (p3 : Int32) : Option (Int32 × Int32 × Int32 × Int32 × (Nat → Int32) × (Nat → Int32) × (Nat → Int32) × (Nat → Int32) × Int32 × (Nat → Int32) × Int32 × Nat × (Nat → Int32) × (Nat → Int32) × (Nat → Int32) × (Nat → Int32) × (Nat → Int32) × (Nat → Int32) × (Nat → Int32) × (Nat → Int32) × Int32 × Int32 × (Nat → Int32) × (Nat → Int32) × Int32 × Int32 × Int32 × (Nat → Nat → Int32) × (Nat → Int32) × (Nat → Int32)) :=
  (fX5_copyFrom fuel t_guests t_kinds t_figures t_minutes t_settings t_hooks t_letters t_letterCount r_guests r_kinds r_figures r_minutes r_settings r_hooks r_letters r_letterCount).bind fun o_1 =>
  fX8_tryNights_L26 fuel ad_t p2 fuel 0 p3 0 0 o_1.1 o_1.2.1 o_1.2.2.1 o_1.2.2.2.1 o_1.2.2.2.2.1 o_1.2.2.2.2.2.1 o_1.2.2.2.2.2.2.1 o_1.2.2.2.2.2.2.2 n_order n_weights n_black n_lifts n_begins n_ends n_has n_lifted n_allLifts n_doneAt y_going y_coming y_holds y_latest b_heaps b_piles b_heights b_spots n_room
