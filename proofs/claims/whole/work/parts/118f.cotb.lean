def fX9_areHooks (fuel : Nat) (d_guests : Int32) (p1 : Int32) : Option (Int32) :=
  if p1 < 0 then (
    some (0))
  else (
    if 3 < p1 then (
      some (0))
    else (
      if d_guests < p1 then (
        some (0))
      else (
        some (1))))
def fX9_refusalOf (fuel : Nat) (s_holds : Nat → Int32) (p1 : Int32) (p2 : Int32) : Option (Int32) :=
  (fX9_isShelf fuel p1).bind fun o_1 =>
  if o_1 = 0 then (
    some ((-1)))
  else (
    zg (zin p1 8) <|
    if (s_holds p1.toNatClampNeg) = 0 then (
      some ((-11)))
    else (
      if (s_holds p1.toNatClampNeg) = p2 then (
        some (0))
      else (
        some ((-12)))))
def fX9_refusalOfBytes (fuel : Nat) (s_holds : Nat → Int32) (s_sort : Nat → Int32) (p1 : Int32) : Option (Int32) :=
  (fX9_refusalOf fuel s_holds p1 2).bind fun o_1 =>
  if o_1 = 0 then (
    zg (zin p1 8) <|
    if (s_sort p1.toNatClampNeg) = 0 then (
      some (0))
    else (
      some ((-12))))
  else (
    some (o_1))
def fX9_comes (fuel : Nat) (s_holds : Nat → Int32) (s_kind : Nat → Int32) (s_figure : Nat → Int32) (d_guests : Int32) (d_kinds : Nat → Int32) (d_figures : Nat → Int32) (d_minutes : Nat → Int32) (p1 : Int32) (p2 : Int32) : Option (Int32 × Int32 × (Nat → Int32) × (Nat → Int32) × (Nat → Int32)) :=
  (fX9_isShelf fuel p1).bind fun o_1 =>
  if o_1 = 0 then (
    some ((-1), d_guests, d_kinds, d_figures, d_minutes))
  else (
    (fX9_isMinute fuel p2).bind fun o_3 =>
    if o_3 = 0 then (
      some ((-1), d_guests, d_kinds, d_figures, d_minutes))
    else (
      (fX9_refusalOf fuel s_holds p1 1).bind fun o_5 =>
      if o_5 = 0 then (
        zg (zin p1 8) <|
        (fX5_welcome fuel d_guests d_kinds d_figures d_minutes (s_kind p1.toNatClampNeg) (s_figure p1.toNatClampNeg) p2).bind fun o_8 =>
        some (o_8.1, o_8.2.1, o_8.2.2.1, o_8.2.2.2.1, o_8.2.2.2.2))
      else (
        some (o_5, d_guests, d_kinds, d_figures, d_minutes))))
def fX9_leaves (fuel : Nat) (d_guests : Int32) (d_kinds : Nat → Int32) (d_figures : Nat → Int32) (d_minutes : Nat → Int32) (d_hooks : Int32) (p1 : Int32) : Option (Int32 × Int32 × (Nat → Int32) × (Nat → Int32) × (Nat → Int32) × Int32) :=
  (fX5_hasGuest fuel d_guests p1).bind fun o_1 =>
  if o_1 = 0 then (
    some ((-1), d_guests, d_kinds, d_figures, d_minutes, d_hooks))
  else (
    (fX5_dismiss fuel d_guests d_kinds d_figures d_minutes d_hooks p1).bind fun o_3 =>
    some (o_3.1, o_3.1, o_3.2.1, o_3.2.2.1, o_3.2.2.2.1, o_3.2.2.2.2))
def fX9_goes (fuel : Nat) (d_guests : Int32) (d_minutes : Nat → Int32) (p1 : Int32) (p2 : Int32) : Option (Int32 × (Nat → Int32)) :=
  (fX5_hasGuest fuel d_guests p1).bind fun o_1 =>
  if o_1 = 0 then (
    some ((-1), d_minutes))
  else (
    (fX9_isMinute fuel p2).bind fun o_3 =>
    if o_3 = 0 then (
      some ((-1), d_minutes))
    else (
      zg (zin p1 10) <|
      zlet (d_minutes p1.toNatClampNeg) fun v3_6 =>
      zlet (upd d_minutes p1.toNatClampNeg p2) fun d_minutes_7 =>
      some (v3_6, d_minutes_7)))
def fX9_hook (fuel : Nat) (d_guests : Int32) (d_hooks : Int32) (p1 : Int32) : Option (Int32 × Int32) :=
  (fX5_hasGuest fuel d_guests p1).bind fun o_1 =>
  if o_1 = 0 then (
    some ((-1), d_hooks))
  else (
    (fX5_toggleHook fuel d_hooks p1).bind fun o_3 =>
    some (o_3.1, o_3.2))
def fX9_set (fuel : Nat) (d_settings : Nat → Int32) (p1 : Int32) (p2 : Int32) : Option (Int32 × (Nat → Int32)) :=
  (fX5_allows fuel p1 p2).bind fun o_1 =>
  if o_1 = 0 then (
    some ((-1), d_settings))
  else (
    zg (zin p1 4) <|
    zlet (d_settings p1.toNatClampNeg) fun v3_4 =>
    zlet (upd d_settings p1.toNatClampNeg p2) fun d_settings_5 =>
    some (v3_4, d_settings_5))
def fX9_image (fuel : Nat) (x_hasPicture : Int32) (d_guests : Int32) (d_kinds : Nat → Int32) (d_figures : Nat → Int32) (d_minutes : Nat → Int32) (d_settings : Nat → Int32) (d_hooks : Int32) (d_letters : Nat → Int32) (d_letterCount : Int32) (p_guests : Int32) (p_kinds : Nat → Int32) (p_figures : Nat → Int32) (p_minutes : Nat → Int32) (p_settings : Nat → Int32) (p_hooks : Int32) (p_letters : Nat → Int32) (p_letterCount : Int32) : Option (Int32 × Int32 × Int32 × (Nat → Int32) × (Nat → Int32) × (Nat → Int32) × (Nat → Int32) × Int32 × (Nat → Int32) × Int32) :=
  (fX5_copyFrom fuel p_guests p_kinds p_figures p_minutes p_settings p_hooks p_letters p_letterCount d_guests d_kinds d_figures d_minutes d_settings d_hooks d_letters d_letterCount).bind fun o_1 =>
  some (d_guests, 1, o_1.1, o_1.2.1, o_1.2.2.1, o_1.2.2.2.1, o_1.2.2.2.2.1, o_1.2.2.2.2.2.1, o_1.2.2.2.2.2.2.1, o_1.2.2.2.2.2.2.2)
def fX9_restore (fuel : Nat) (x_hasPicture : Int32) (d_guests : Int32) (d_kinds : Nat → Int32) (d_figures : Nat → Int32) (d_minutes : Nat → Int32) (d_settings : Nat → Int32) (d_hooks : Int32) (d_letters : Nat → Int32) (d_letterCount : Int32) (p_guests : Int32) (p_kinds : Nat → Int32) (p_figures : Nat → Int32) (p_minutes : Nat → Int32) (p_settings : Nat → Int32) (p_hooks : Int32) (p_letters : Nat → Int32) (p_letterCount : Int32) : Option (Int32 × Int32 × (Nat → Int32) × (Nat → Int32) × (Nat → Int32) × (Nat → Int32) × Int32 × (Nat → Int32) × Int32) :=
  if x_hasPicture = 0 then (
    some ((-3), d_guests, d_kinds, d_figures, d_minutes, d_settings, d_hooks, d_letters, d_letterCount))
  else (
    (fX5_copyFrom fuel d_guests d_kinds d_figures d_minutes d_settings d_hooks d_letters d_letterCount p_guests p_kinds p_figures p_minutes p_settings p_hooks p_letters p_letterCount).bind fun o_2 =>
    some (o_2.1, o_2.1, o_2.2.1, o_2.2.2.1, o_2.2.2.2.1, o_2.2.2.2.2.1, o_2.2.2.2.2.2.1, o_2.2.2.2.2.2.2.1, o_2.2.2.2.2.2.2.2))
def fX9_count (fuel : Nat) (d_guests : Int32) (d_kinds : Nat → Int32) (d_figures : Nat → Int32) (d_settings : Nat → Int32) (d_hooks : Int32) (d_letterCount : Int32) (p1 : Int32) : Option (Int32) :=
  if p1 = 0 then (
    some (d_guests))
  else (
    if p1 = 1 then (
      some ((d_settings 0)))
    else (
      if p1 = 2 then (
        some ((d_settings 1)))
      else (
        if p1 = 3 then (
          some ((d_settings 2)))
        else (
          if p1 = 4 then (
            some ((d_settings 3)))
          else (
            if p1 = 5 then (
              some (d_hooks))
            else (
              if p1 = 6 then (
                some (d_letterCount))
              else (
                if p1 = 7 then (
                  (fX5_allWeights fuel d_guests d_kinds d_figures).bind fun o_9 =>
                  some (o_9))
                else (
                  some ((-1))))))))))
def fX9_keep (fuel : Nat) (s_holds : Nat → Int32) (s_kind : Nat → Int32) (s_figure : Nat → Int32) (s_size : Nat → Int32) (p1 : Int32) (p2 : Int32) (p3 : Int32) (p4 : Int32) : Option (Int32 × (Nat → Int32) × (Nat → Int32) × (Nat → Int32) × (Nat → Int32)) :=
  (fX9_isShelf fuel p1).bind fun o_1 =>
  if o_1 = 0 then (
    some ((-1), s_holds, s_kind, s_figure, s_size))
  else (
    (fX9_isFirstOrSecond fuel p2).bind fun o_3 =>
    if o_3 = 0 then (
      some ((-1), s_holds, s_kind, s_figure, s_size))
    else (
      if p2 = 0 then (
        zg (zin p1 8) <|
        (fX7_becomeEmpty fuel s_holds s_size p1.toNatClampNeg).bind fun o_13 =>
        some (0, o_13.1, s_kind, s_figure, o_13.2))
      else (
        (fX1_isKind fuel p3).bind fun o_6 =>
        if o_6 = 0 then (
          some ((-1), s_holds, s_kind, s_figure, s_size))
        else (
          if p4 < 0 then (
            some ((-1), s_holds, s_kind, s_figure, s_size))
          else (
            if p4 ≤ 9 then (
              zg (zin p1 8) <|
              (fX7_becomeCoat fuel s_holds s_kind s_figure s_size p1.toNatClampNeg p3 p4).bind fun o_11 =>
              some (0, o_11.1, o_11.2.1, o_11.2.2.1, o_11.2.2.2))
            else (
              some ((-1), s_holds, s_kind, s_figure, s_size)))))))
def fX9_row (fuel : Nat) (s_holds : Nat → Int32) (s_sort : Nat → Int32) (s_size : Nat → Int32) (s_el : Nat → Nat → Int32) (p1 : Int32) (p2 : Int32) (p3 : Int32) : Option (Int32 × (Nat → Int32) × (Nat → Int32) × (Nat → Int32) × (Nat → Nat → Int32)) :=
  (fX9_isShelf fuel p1).bind fun o_1 =>
  if o_1 = 0 then (
    some ((-1), s_holds, s_sort, s_size, s_el))
  else (
    if p2 < 0 then (
      some ((-1), s_holds, s_sort, s_size, s_el))
    else (
      if 2 < p2 then (
        some ((-1), s_holds, s_sort, s_size, s_el))
      else (
        if p3 ≤ 100 then (
          if 0 ≤ p3 then (
            zg (zin p1 8) <|
            (fX7_becomeRow fuel s_holds s_sort s_size s_el p1.toNatClampNeg p2 p3).bind fun o_8 =>
            some (0, o_8.1, o_8.2.1, o_8.2.2.1, o_8.2.2.2))
          else (
            some ((-14), s_holds, s_sort, s_size, s_el)))
        else (
          some ((-1), s_holds, s_sort, s_size, s_el)))))
def fX9_put (fuel : Nat) (s_holds : Nat → Int32) (s_sort : Nat → Int32) (s_size : Nat → Int32) (s_el : Nat → Nat → Int32) (p1 : Int32) (p2 : Int32) (p3 : Int32) : Option (Int32 × (Nat → Nat → Int32)) :=
  (fX9_refusalOf fuel s_holds p1 2).bind fun o_1 =>
  if o_1 = 0 then (
    zg (zin p1 8) <|
    (fX7_hasPlace fuel s_size p1.toNatClampNeg p2).bind fun o_4 =>
    if o_4 = 0 then (
      some ((-13), s_el))
    else (
      (fX7_cutToSort fuel s_sort p1.toNatClampNeg p3).bind fun o_6 =>
      zg (zin p2 100) <|
      zlet (va_up s_el p1.toNatClampNeg (upd (s_el p1.toNatClampNeg) p2.toNatClampNeg o_6)) fun s_el_8 =>
      some (0, s_el_8)))
  else (
    some (o_1, s_el))
def fX9_copy (fuel : Nat) (s_holds : Nat → Int32) (s_sort : Nat → Int32) (s_size : Nat → Int32) (s_el : Nat → Nat → Int32) (p1 : Int32) (p2 : Int32) (p3 : Int32) (p4 : Int32) (p5 : Int32) : Option (Int32 × (Nat → Nat → Int32)) :=
  (fX9_isShelf fuel p1).bind fun o_1 =>
  if o_1 = 0 then (
    some ((-1), s_el))
  else (
    (fX9_isShelf fuel p3).bind fun o_3 =>
    if o_3 = 0 then (
      some ((-1), s_el))
    else (
      zg (zin p1 8) <|
      zg (zin p3 8) <|
      if (s_holds p1.toNatClampNeg) = 0 then (
        some ((-11), s_el))
      else (
        if (s_holds p3.toNatClampNeg) = 0 then (
          some ((-11), s_el))
        else (
          if (s_holds p1.toNatClampNeg) = 2 then (
            if (s_holds p3.toNatClampNeg) = 2 then (
              if (s_sort p1.toNatClampNeg) = (s_sort p3.toNatClampNeg) then (
                (fX7_hasStretch fuel s_size p1.toNatClampNeg p2 p5).bind fun o_12 =>
                if o_12 = 0 then (
                  some ((-13), s_el))
                else (
                  (fX7_hasStretch fuel s_size p3.toNatClampNeg p4 p5).bind fun o_14 =>
                  if o_14 = 0 then (
                    some ((-13), s_el))
                  else (
                    zg (decide (¬ p2 < 0 ∧ ¬ p4 < 0 ∧ ¬ p5 < 0 ∧ p2.toNatClampNeg + p5.toNatClampNeg ≤ 100 ∧ p4.toNatClampNeg + p5.toNatClampNeg ≤ 100)) <|
                    zlet (va_up s_el p3.toNatClampNeg (va_cpy (s_el p1.toNatClampNeg) (s_el p3.toNatClampNeg) p2.toNatClampNeg p4.toNatClampNeg p5.toNatClampNeg)) fun s_el_17 =>
                    some (p5, s_el_17))))
              else (
                some ((-12), s_el)))
            else (
              some ((-12), s_el)))
          else (
            some ((-12), s_el))))))
def fX9_cost (fuel : Nat) (s_holds : Nat → Int32) (s_kind : Nat → Int32) (s_figure : Nat → Int32) (p1 : Int32) : Option (Int32) :=
  (fX9_refusalOf fuel s_holds p1 1).bind fun o_1 =>
  if o_1 = 0 then (
    zg (zin p1 8) <|
    (fX1_price fuel (s_kind p1.toNatClampNeg) (s_figure p1.toNatClampNeg)).bind fun o_4 =>
    some (o_4))
  else (
    some (o_1))
def fX9_rule_J65 (fuel : Nat) (s_size : Nat → Int32) (s_el : Nat → Nat → Int32) (p1 : Int32) (d_letters : Nat → Int32) (d_letterCount : Int32) : Option (Int32 × (Nat → Int32) × Int32) :=
  zg (zin p1 8) <|
  (fX5_takeLetters fuel s_size s_el d_letters d_letterCount p1.toNatClampNeg 0 (s_size p1.toNatClampNeg)).bind fun o_12 =>
  some (o_12.2, o_12.1, o_12.2)
def fX9_rule_L34 (fuel : Nat) (s_size : Nat → Int32) (s_el : Nat → Nat → Int32) (p1 : Int32) : Nat → Int32 → (Nat → Int32) → Int32 → Option (Int32 × (Nat → Int32) × Int32)
  | 0, _, _, _ => none
  | n + 1, v4, d_letters, d_letterCount =>
    zg (zin p1 8) <|
    if (s_size p1.toNatClampNeg) ≤ v4 then (
      fX9_rule_J65 fuel s_size s_el p1 d_letters d_letterCount)
    else (
      zg (zin v4 100) <|
      (fX6_isLetterOfRule fuel (s_el p1.toNatClampNeg v4.toNatClampNeg)).bind fun o_8 =>
      if o_8 = 0 then (
        some ((-13), d_letters, d_letterCount))
      else (
        zlet (v4 + 1) fun v4_10 =>
        fX9_rule_L34 fuel s_size s_el p1 n v4_10 d_letters d_letterCount))
def fX9_rule (fuel : Nat) (s_holds : Nat → Int32) (s_sort : Nat → Int32) (s_size : Nat → Int32) (s_el : Nat → Nat → Int32) (d_letters : Nat → Int32) (d_letterCount : Int32) (p1 : Int32) : Option (Int32 × (Nat → Int32) × Int32) :=
  (fX9_refusalOfBytes fuel s_holds s_sort p1).bind fun o_1 =>
  if o_1 = 0 then (
    zg (zin p1 8) <|
    if (s_size p1.toNatClampNeg) ≤ 6 then (
      fX9_rule_L34 fuel s_size s_el p1 fuel 0 d_letters d_letterCount)
    else (
      some ((-13), d_letters, d_letterCount)))
  else (
    some (o_1, d_letters, d_letterCount))
def fX9_order (fuel : Nat) (d_guests : Int32) (d_kinds : Nat → Int32) (d_figures : Nat → Int32) (d_minutes : Nat → Int32) (n_room : Nat) (n_order : Nat → Int32) (n_weights : Nat → Int32) (n_black : Nat → Int32) (y_going : Nat → Int32) (y_coming : Nat → Int32) (ad_d : Nat → Nat) (p1 : Int32) : Option (Int32 × Nat × (Nat → Int32) × (Nat → Int32) × (Nat → Int32) × (Nat → Int32) × (Nat → Int32)) :=
  if 0 ≤ p1 then (
    (fX3_begin fuel n_order n_weights n_black y_going y_coming d_guests d_kinds d_figures d_minutes).bind fun o_2 =>
    if d_guests ≤ p1 then (
      some ((-4), (ad_d 0), o_2.1, o_2.2.1, o_2.2.2.1, o_2.2.2.2.1, o_2.2.2.2.2))
    else (
      zg (zin p1 10) <|
      some ((o_2.1 p1.toNatClampNeg), (ad_d 0), o_2.1, o_2.2.1, o_2.2.2.1, o_2.2.2.2.1, o_2.2.2.2.2)))
  else (
    some ((-1), n_room, n_order, n_weights, n_black, y_going, y_coming))
def fX9_fewest (fuel : Nat) (d_guests : Int32) (d_kinds : Nat → Int32) (d_figures : Nat → Int32) (d_minutes : Nat → Int32) (q_row : Nat → Int32) (m_order : Nat → Int32) (m_weights : Nat → Int32) (m_black : Nat → Int32) (z_going : Nat → Int32) (z_coming : Nat → Int32) : Option (Int32 × (Nat → Int32) × (Nat → Int32) × (Nat → Int32) × (Nat → Int32) × (Nat → Int32) × (Nat → Int32)) :=
  (fX8_fewestHeaps fuel q_row m_order m_weights m_black z_going z_coming d_guests d_kinds d_figures d_minutes).bind fun o_1 =>
  some (o_1.1, o_1.2.1, o_1.2.2.1, o_1.2.2.2.1, o_1.2.2.2.2.1, o_1.2.2.2.2.2.1, o_1.2.2.2.2.2.2)
def fX9_shown (fuel : Nat) (d_guests : Int32) (d_kinds : Nat → Int32) (d_figures : Nat → Int32) (d_minutes : Nat → Int32) (q_row : Nat → Int32) (m_room : Nat) (m_order : Nat → Int32) (m_weights : Nat → Int32) (m_black : Nat → Int32) (z_going : Nat → Int32) (z_coming : Nat → Int32) (ad_d : Nat → Nat) (p1 : Int32) : Option (Int32 × (Nat → Int32) × Nat × (Nat → Int32) × (Nat → Int32) × (Nat → Int32) × (Nat → Int32) × (Nat → Int32)) :=
  if 0 ≤ p1 then (
    (fX8_shownGuest fuel q_row m_order m_weights m_black z_going z_coming d_guests d_kinds d_figures d_minutes p1).bind fun o_2 =>
    some (o_2.1, o_2.2.1, (ad_d 0), o_2.2.2.1, o_2.2.2.2.1, o_2.2.2.2.2.1, o_2.2.2.2.2.2.1, o_2.2.2.2.2.2.2))
  else (
    some ((-1), q_row, m_room, m_order, m_weights, m_black, z_going, z_coming))
def fX9_then (fuel : Nat) (d_guests : Int32) (d_kinds : Nat → Int32) (d_figures : Nat → Int32) (d_minutes : Nat → Int32) (d_settings : Nat → Int32) (d_hooks : Int32) (d_letters : Nat → Int32) (d_letterCount : Int32) (n_room : Nat) (n_order : Nat → Int32) (n_weights : Nat → Int32) (n_black : Nat → Int32) (n_lifts : Nat → Int32) (n_begins : Nat → Int32) (n_ends : Nat → Int32) (n_has : Nat → Int32) (n_lifted : Nat → Int32) (n_allLifts : Int32) (n_doneAt : Int32) (y_going : Nat → Int32) (y_coming : Nat → Int32) (y_holds : Int32) (y_latest : Int32) (b_heaps : Int32) (b_piles : Nat → Nat → Int32) (b_heights : Nat → Int32) (b_spots : Nat → Int32) (ad_d : Nat → Nat) (p1 : Int32) (p2 : Int32) (p3 : Int32) : Option (Int32 × Nat × (Nat → Int32) × (Nat → Int32) × (Nat → Int32) × (Nat → Int32) × (Nat → Int32) × (Nat → Int32) × (Nat → Int32) × (Nat → Int32) × Int32 × Int32 × (Nat → Int32) × (Nat → Int32) × Int32 × Int32 × Int32 × (Nat → Nat → Int32) × (Nat → Int32) × (Nat → Int32)) :=
  if p1 < 0 then (
    some ((-1), n_room, n_order, n_weights, n_black, n_lifts, n_begins, n_ends, n_has, n_lifted, n_allLifts, n_doneAt, y_going, y_coming, y_holds, y_latest, b_heaps, b_piles, b_heights, b_spots))
  else (
    if d_guests < p1 then (
      some ((-1), n_room, n_order, n_weights, n_black, n_lifts, n_begins, n_ends, n_has, n_lifted, n_allLifts, n_doneAt, y_going, y_coming, y_holds, y_latest, b_heaps, b_piles, b_heights, b_spots))
    else (
      (fX9_isHeap fuel p2).bind fun o_3 =>
      if o_3 = 0 then (
        some ((-1), n_room, n_order, n_weights, n_black, n_lifts, n_begins, n_ends, n_has, n_lifted, n_allLifts, n_doneAt, y_going, y_coming, y_holds, y_latest, b_heaps, b_piles, b_heights, b_spots))
      else (
        if 0 ≤ p3 then (
          (fX3_begin fuel n_order n_weights n_black y_going y_coming d_guests d_kinds d_figures d_minutes).bind fun o_6 =>
          (fX2_layAll fuel o_6.2.2.2.1 o_6.2.2.2.2 y_holds y_latest b_heaps b_piles b_heights b_spots d_guests d_settings d_hooks d_letters d_letterCount).bind fun o_7 =>
          (fX3_letGo fuel o_6.1 o_6.2.1 o_6.2.2.1 n_lifts n_begins n_ends n_has n_lifted n_allLifts n_doneAt o_6.2.2.2.1 o_7.2.2.1 o_7.2.2.2.1 o_7.2.2.2.2.1 o_7.2.2.2.2.2 d_guests d_settings p1 (-4)).bind fun o_8 =>
          (fX0_coatAt fuel o_8.2.2.2.2.2.2.2.2.1 o_8.2.2.2.2.2.2.2.2.2.1 p2 p3).bind fun o_9 =>
          some (o_9, (ad_d 0), o_6.1, o_6.2.1, o_6.2.2.1, o_8.2.1, o_8.2.2.1, o_8.2.2.2.1, o_8.2.2.2.2.1, o_8.2.2.2.2.2.1, o_8.2.2.2.2.2.2.1, o_8.2.2.2.2.2.2.2.1, o_6.2.2.2.1, o_6.2.2.2.2, o_7.1, o_7.2.1, o_7.2.2.1, o_8.2.2.2.2.2.2.2.2.1, o_8.2.2.2.2.2.2.2.2.2.1, o_8.2.2.2.2.2.2.2.2.2.2))
        else (
          some ((-1), n_room, n_order, n_weights, n_black, n_lifts, n_begins, n_ends, n_has, n_lifted, n_allLifts, n_doneAt, y_going, y_coming, y_holds, y_latest, b_heaps, b_piles, b_heights, b_spots)))))
def fX9_bestTurn (fuel : Nat) (d_guests : Int32) (d_kinds : Nat → Int32) (d_figures : Nat → Int32) (d_minutes : Nat → Int32) (d_settings : Nat → Int32) (d_hooks : Int32) (d_letters : Nat → Int32) (d_letterCount : Int32) (q_found : Int32) (q_foundLifts : Int32) (m_order : Nat → Int32) (m_weights : Nat → Int32) (m_black : Nat → Int32) (m_lifts : Nat → Int32) (m_begins : Nat → Int32) (m_ends : Nat → Int32) (m_has : Nat → Int32) (m_lifted : Nat → Int32) (m_allLifts : Int32) (m_doneAt : Int32) (z_going : Nat → Int32) (z_coming : Nat → Int32) (z_holds : Int32) (z_latest : Int32) (c_heaps : Int32) (c_piles : Nat → Nat → Int32) (c_heights : Nat → Int32) (c_spots : Nat → Int32) : Option (Int32 × Int32 × Int32 × (Nat → Int32) × (Nat → Int32) × (Nat → Int32) × (Nat → Int32) × (Nat → Int32) × (Nat → Int32) × (Nat → Int32) × (Nat → Int32) × Int32 × Int32 × (Nat → Int32) × (Nat → Int32) × Int32 × Int32 × Int32 × (Nat → Nat → Int32) × (Nat → Int32) × (Nat → Int32)) :=
  (fX8_bestMinuteToTurn fuel q_found q_foundLifts m_order m_weights m_black m_lifts m_begins m_ends m_has m_lifted m_allLifts m_doneAt z_going z_coming z_holds z_latest c_heaps c_piles c_heights c_spots d_guests d_kinds d_figures d_minutes d_settings d_hooks d_letters d_letterCount).bind fun o_1 =>
  some (o_1.1, o_1.2.1, o_1.2.2.1, o_1.2.2.2.1, o_1.2.2.2.2.1, o_1.2.2.2.2.2.1, o_1.2.2.2.2.2.2.1, o_1.2.2.2.2.2.2.2.1, o_1.2.2.2.2.2.2.2.2.1, o_1.2.2.2.2.2.2.2.2.2.1, o_1.2.2.2.2.2.2.2.2.2.2.1, o_1.2.2.2.2.2.2.2.2.2.2.2.1, o_1.2.2.2.2.2.2.2.2.2.2.2.2.1, o_1.2.2.2.2.2.2.2.2.2.2.2.2.2.1, o_1.2.2.2.2.2.2.2.2.2.2.2.2.2.2.1, o_1.2.2.2.2.2.2.2.2.2.2.2.2.2.2.2.1, o_1.2.2.2.2.2.2.2.2.2.2.2.2.2.2.2.2.1, o_1.2.2.2.2.2.2.2.2.2.2.2.2.2.2.2.2.2.1, o_1.2.2.2.2.2.2.2.2.2.2.2.2.2.2.2.2.2.2.1, o_1.2.2.2.2.2.2.2.2.2.2.2.2.2.2.2.2.2.2.2.1, o_1.2.2.2.2.2.2.2.2.2.2.2.2.2.2.2.2.2.2.2.2)
def fX9_mean (fuel : Nat) (d_guests : Int32) (d_kinds : Nat → Int32) (d_figures : Nat → Int32) (d_minutes : Nat → Int32) (d_settings : Nat → Int32) (d_hooks : Int32) (d_letters : Nat → Int32) (d_letterCount : Int32) (q_found : Int32) (q_foundLifts : Int32) (q_mostLifts : Int32) (q_sumOfLifts : Int32) (m_room : Nat) (m_order : Nat → Int32) (m_weights : Nat → Int32) (m_black : Nat → Int32) (m_lifts : Nat → Int32) (m_begins : Nat → Int32) (m_ends : Nat → Int32) (m_has : Nat → Int32) (m_lifted : Nat → Int32) (m_allLifts : Int32) (m_doneAt : Int32) (z_going : Nat → Int32) (z_coming : Nat → Int32) (z_holds : Int32) (z_latest : Int32) (c_heaps : Int32) (c_piles : Nat → Nat → Int32) (c_heights : Nat → Int32) (c_spots : Nat → Int32) (ad_d : Nat → Nat) (p1 : Int32) : Option (Int64 × Int32 × Int32 × Int32 × Int32 × Nat × (Nat → Int32) × (Nat → Int32) × (Nat → Int32) × (Nat → Int32) × (Nat → Int32) × (Nat → Int32) × (Nat → Int32) × (Nat → Int32) × Int32 × Int32 × (Nat → Int32) × (Nat → Int32) × Int32 × Int32 × Int32 × (Nat → Nat → Int32) × (Nat → Int32) × (Nat → Int32)) :=
  (fX9_isFirstOrSecond fuel p1).bind fun o_1 =>
  if o_1 = 0 then (
    some ((-1000000001), q_found, q_foundLifts, q_mostLifts, q_sumOfLifts, m_room, m_order, m_weights, m_black, m_lifts, m_begins, m_ends, m_has, m_lifted, m_allLifts, m_doneAt, z_going, z_coming, z_holds, z_latest, c_heaps, c_piles, c_heights, c_spots))
  else (
    if d_guests ≤ 5 then (
      (fX8_tryAllGoings fuel q_found q_foundLifts q_mostLifts q_sumOfLifts m_order m_weights m_black m_lifts m_begins m_ends m_has m_lifted m_allLifts m_doneAt z_going z_coming z_holds z_latest c_heaps c_piles c_heights c_spots d_guests d_kinds d_figures d_minutes d_settings d_hooks d_letters d_letterCount).bind fun o_4 =>
      (fX4_howMany fuel d_guests).bind fun o_5 =>
      (fX4_greatestDivisor fuel o_4.2.2.2.1 o_5).bind fun o_6 =>
      if 1 ≤ o_6 then (
        if p1 = 0 then (
          zg (decide (¬ o_6 = 0)) <|
          some ((Int32.toInt64 (o_4.2.2.2.1 / o_6)), o_4.1, o_4.2.1, o_4.2.2.1, o_4.2.2.2.1, (ad_d 0), o_4.2.2.2.2.1, o_4.2.2.2.2.2.1, o_4.2.2.2.2.2.2.1, o_4.2.2.2.2.2.2.2.1, o_4.2.2.2.2.2.2.2.2.1, o_4.2.2.2.2.2.2.2.2.2.1, o_4.2.2.2.2.2.2.2.2.2.2.1, o_4.2.2.2.2.2.2.2.2.2.2.2.1, o_4.2.2.2.2.2.2.2.2.2.2.2.2.1, o_4.2.2.2.2.2.2.2.2.2.2.2.2.2.1, o_4.2.2.2.2.2.2.2.2.2.2.2.2.2.2.1, o_4.2.2.2.2.2.2.2.2.2.2.2.2.2.2.2.1, o_4.2.2.2.2.2.2.2.2.2.2.2.2.2.2.2.2.1, o_4.2.2.2.2.2.2.2.2.2.2.2.2.2.2.2.2.2.1, o_4.2.2.2.2.2.2.2.2.2.2.2.2.2.2.2.2.2.2.1, o_4.2.2.2.2.2.2.2.2.2.2.2.2.2.2.2.2.2.2.2.1, o_4.2.2.2.2.2.2.2.2.2.2.2.2.2.2.2.2.2.2.2.2.1, o_4.2.2.2.2.2.2.2.2.2.2.2.2.2.2.2.2.2.2.2.2.2))
        else (
          zg (decide (¬ o_6 = 0)) <|
          some ((Int32.toInt64 (o_5 / o_6)), o_4.1, o_4.2.1, o_4.2.2.1, o_4.2.2.2.1, (ad_d 0), o_4.2.2.2.2.1, o_4.2.2.2.2.2.1, o_4.2.2.2.2.2.2.1, o_4.2.2.2.2.2.2.2.1, o_4.2.2.2.2.2.2.2.2.1, o_4.2.2.2.2.2.2.2.2.2.1, o_4.2.2.2.2.2.2.2.2.2.2.1, o_4.2.2.2.2.2.2.2.2.2.2.2.1, o_4.2.2.2.2.2.2.2.2.2.2.2.2.1, o_4.2.2.2.2.2.2.2.2.2.2.2.2.2.1, o_4.2.2.2.2.2.2.2.2.2.2.2.2.2.2.1, o_4.2.2.2.2.2.2.2.2.2.2.2.2.2.2.2.1, o_4.2.2.2.2.2.2.2.2.2.2.2.2.2.2.2.2.1, o_4.2.2.2.2.2.2.2.2.2.2.2.2.2.2.2.2.2.1, o_4.2.2.2.2.2.2.2.2.2.2.2.2.2.2.2.2.2.2.1, o_4.2.2.2.2.2.2.2.2.2.2.2.2.2.2.2.2.2.2.2.1, o_4.2.2.2.2.2.2.2.2.2.2.2.2.2.2.2.2.2.2.2.2.1, o_4.2.2.2.2.2.2.2.2.2.2.2.2.2.2.2.2.2.2.2.2.2)))
      else (
        some (0, o_4.1, o_4.2.1, o_4.2.2.1, o_4.2.2.2.1, (ad_d 0), o_4.2.2.2.2.1, o_4.2.2.2.2.2.1, o_4.2.2.2.2.2.2.1, o_4.2.2.2.2.2.2.2.1, o_4.2.2.2.2.2.2.2.2.1, o_4.2.2.2.2.2.2.2.2.2.1, o_4.2.2.2.2.2.2.2.2.2.2.1, o_4.2.2.2.2.2.2.2.2.2.2.2.1, o_4.2.2.2.2.2.2.2.2.2.2.2.2.1, o_4.2.2.2.2.2.2.2.2.2.2.2.2.2.1, o_4.2.2.2.2.2.2.2.2.2.2.2.2.2.2.1, o_4.2.2.2.2.2.2.2.2.2.2.2.2.2.2.2.1, o_4.2.2.2.2.2.2.2.2.2.2.2.2.2.2.2.2.1, o_4.2.2.2.2.2.2.2.2.2.2.2.2.2.2.2.2.2.1, o_4.2.2.2.2.2.2.2.2.2.2.2.2.2.2.2.2.2.2.1, o_4.2.2.2.2.2.2.2.2.2.2.2.2.2.2.2.2.2.2.2.1, o_4.2.2.2.2.2.2.2.2.2.2.2.2.2.2.2.2.2.2.2.2.1, o_4.2.2.2.2.2.2.2.2.2.2.2.2.2.2.2.2.2.2.2.2.2)))
    else (
      some ((-1000000003), q_found, q_foundLifts, q_mostLifts, q_sumOfLifts, m_room, m_order, m_weights, m_black, m_lifts, m_begins, m_ends, m_has, m_lifted, m_allLifts, m_doneAt, z_going, z_coming, z_holds, z_latest, c_heaps, c_piles, c_heights, c_spots)))
def fX9_orders (fuel : Nat) (d_guests : Int32) (d_kinds : Nat → Int32) (d_figures : Nat → Int32) (d_minutes : Nat → Int32) (d_settings : Nat → Int32) (d_hooks : Int32) (d_letters : Nat → Int32) (d_letterCount : Int32) (q_found : Int32) (q_foundLifts : Int32) (q_mostLifts : Int32) (q_sumOfLifts : Int32) (m_room : Nat) (m_order : Nat → Int32) (m_weights : Nat → Int32) (m_black : Nat → Int32) (m_lifts : Nat → Int32) (m_begins : Nat → Int32) (m_ends : Nat → Int32) (m_has : Nat → Int32) (m_lifted : Nat → Int32) (m_allLifts : Int32) (m_doneAt : Int32) (z_going : Nat → Int32) (z_coming : Nat → Int32) (z_holds : Int32) (z_latest : Int32) (c_heaps : Int32) (c_piles : Nat → Nat → Int32) (c_heights : Nat → Int32) (c_spots : Nat → Int32) (ad_d : Nat → Nat) (p1 : Int32) : Option (Int32 × Int32 × Int32 × Int32 × Int32 × Nat × (Nat → Int32) × (Nat → Int32) × (Nat → Int32) × (Nat → Int32) × (Nat → Int32) × (Nat → Int32) × (Nat → Int32) × (Nat → Int32) × Int32 × Int32 × (Nat → Int32) × (Nat → Int32) × Int32 × Int32 × Int32 × (Nat → Nat → Int32) × (Nat → Int32) × (Nat → Int32)) :=
  (fX9_isFirstOrSecond fuel p1).bind fun o_1 =>
  if o_1 = 0 then (
    some ((-1), q_found, q_foundLifts, q_mostLifts, q_sumOfLifts, m_room, m_order, m_weights, m_black, m_lifts, m_begins, m_ends, m_has, m_lifted, m_allLifts, m_doneAt, z_going, z_coming, z_holds, z_latest, c_heaps, c_piles, c_heights, c_spots))
  else (
    if d_guests ≤ 5 then (
      (fX8_tryAllGoings fuel q_found q_foundLifts q_mostLifts q_sumOfLifts m_order m_weights m_black m_lifts m_begins m_ends m_has m_lifted m_allLifts m_doneAt z_going z_coming z_holds z_latest c_heaps c_piles c_heights c_spots d_guests d_kinds d_figures d_minutes d_settings d_hooks d_letters d_letterCount).bind fun o_4 =>
      if p1 = 0 then (
        some (o_4.2.2.1, o_4.1, o_4.2.1, o_4.2.2.1, o_4.2.2.2.1, (ad_d 0), o_4.2.2.2.2.1, o_4.2.2.2.2.2.1, o_4.2.2.2.2.2.2.1, o_4.2.2.2.2.2.2.2.1, o_4.2.2.2.2.2.2.2.2.1, o_4.2.2.2.2.2.2.2.2.2.1, o_4.2.2.2.2.2.2.2.2.2.2.1, o_4.2.2.2.2.2.2.2.2.2.2.2.1, o_4.2.2.2.2.2.2.2.2.2.2.2.2.1, o_4.2.2.2.2.2.2.2.2.2.2.2.2.2.1, o_4.2.2.2.2.2.2.2.2.2.2.2.2.2.2.1, o_4.2.2.2.2.2.2.2.2.2.2.2.2.2.2.2.1, o_4.2.2.2.2.2.2.2.2.2.2.2.2.2.2.2.2.1, o_4.2.2.2.2.2.2.2.2.2.2.2.2.2.2.2.2.2.1, o_4.2.2.2.2.2.2.2.2.2.2.2.2.2.2.2.2.2.2.1, o_4.2.2.2.2.2.2.2.2.2.2.2.2.2.2.2.2.2.2.2.1, o_4.2.2.2.2.2.2.2.2.2.2.2.2.2.2.2.2.2.2.2.2.1, o_4.2.2.2.2.2.2.2.2.2.2.2.2.2.2.2.2.2.2.2.2.2))
      else (
        some (o_4.2.1, o_4.1, o_4.2.1, o_4.2.2.1, o_4.2.2.2.1, (ad_d 0), o_4.2.2.2.2.1, o_4.2.2.2.2.2.1, o_4.2.2.2.2.2.2.1, o_4.2.2.2.2.2.2.2.1, o_4.2.2.2.2.2.2.2.2.1, o_4.2.2.2.2.2.2.2.2.2.1, o_4.2.2.2.2.2.2.2.2.2.2.1, o_4.2.2.2.2.2.2.2.2.2.2.2.1, o_4.2.2.2.2.2.2.2.2.2.2.2.2.1, o_4.2.2.2.2.2.2.2.2.2.2.2.2.2.1, o_4.2.2.2.2.2.2.2.2.2.2.2.2.2.2.1, o_4.2.2.2.2.2.2.2.2.2.2.2.2.2.2.2.1, o_4.2.2.2.2.2.2.2.2.2.2.2.2.2.2.2.2.1, o_4.2.2.2.2.2.2.2.2.2.2.2.2.2.2.2.2.2.1, o_4.2.2.2.2.2.2.2.2.2.2.2.2.2.2.2.2.2.2.1, o_4.2.2.2.2.2.2.2.2.2.2.2.2.2.2.2.2.2.2.2.1, o_4.2.2.2.2.2.2.2.2.2.2.2.2.2.2.2.2.2.2.2.2.1, o_4.2.2.2.2.2.2.2.2.2.2.2.2.2.2.2.2.2.2.2.2.2)))
    else (
      some ((-3), q_found, q_foundLifts, q_mostLifts, q_sumOfLifts, m_room, m_order, m_weights, m_black, m_lifts, m_begins, m_ends, m_has, m_lifted, m_allLifts, m_doneAt, z_going, z_coming, z_holds, z_latest, c_heaps, c_piles, c_heights, c_spots)))
def fX9_reads (fuel : Nat) (s_holds : Nat → Int32) (s_size : Nat → Int32) (s_el : Nat → Nat → Int32) (d_guests : Int32) (d_kinds : Nat → Int32) (d_figures : Nat → Int32) (d_minutes : Nat → Int32) (d_settings : Nat → Int32) (d_hooks : Int32) (d_letters : Nat → Int32) (d_letterCount : Int32) (q_found : Int32) (q_foundLifts : Int32) (m_room : Nat) (m_order : Nat → Int32) (m_weights : Nat → Int32) (m_black : Nat → Int32) (z_going : Nat → Int32) (z_coming : Nat → Int32) (z_holds : Int32) (z_latest : Int32) (c_heaps : Int32) (c_piles : Nat → Nat → Int32) (c_heights : Nat → Int32) (c_spots : Nat → Int32) (ad_d : Nat → Nat) (p1 : Int32) (p2 : Int32) : Option (Int32 × Int32 × Int32 × Nat × (Nat → Int32) × (Nat → Int32) × (Nat → Int32) × (Nat → Int32) × (Nat → Int32) × Int32 × Int32 × Int32 × (Nat → Nat → Int32) × (Nat → Int32) × (Nat → Int32)) :=
  (fX9_isShelf fuel p1).bind fun o_1 =>
  if o_1 = 0 then (
    some ((-1), q_found, q_foundLifts, m_room, m_order, m_weights, m_black, z_going, z_coming, z_holds, z_latest, c_heaps, c_piles, c_heights, c_spots))
  else (
    (fX9_isFirstOrSecond fuel p2).bind fun o_3 =>
    if o_3 = 0 then (
      some ((-1), q_found, q_foundLifts, m_room, m_order, m_weights, m_black, z_going, z_coming, z_holds, z_latest, c_heaps, c_piles, c_heights, c_spots))
    else (
      (fX9_refusalOf fuel s_holds p1 2).bind fun o_5 =>
      if o_5 = 0 then (
        if d_guests ≤ 6 then (
          zg (zin p1 8) <|
          (fX8_tryAllComings fuel s_size s_el q_found q_foundLifts m_order m_weights m_black z_going z_coming z_holds z_latest c_heaps c_piles c_heights c_spots d_guests d_kinds d_figures d_minutes d_settings d_hooks d_letters d_letterCount p1.toNatClampNeg).bind fun o_9 =>
          if p2 = 0 then (
            some (o_9.1, o_9.2.1, o_9.2.2.1, (ad_d 0), o_9.2.2.2.1, o_9.2.2.2.2.1, o_9.2.2.2.2.2.1, o_9.2.2.2.2.2.2.1, o_9.2.2.2.2.2.2.2.1, o_9.2.2.2.2.2.2.2.2.1, o_9.2.2.2.2.2.2.2.2.2.1, o_9.2.2.2.2.2.2.2.2.2.2.1, o_9.2.2.2.2.2.2.2.2.2.2.2.1, o_9.2.2.2.2.2.2.2.2.2.2.2.2.1, o_9.2.2.2.2.2.2.2.2.2.2.2.2.2))
          else (
            some (o_9.2.1, o_9.2.1, o_9.2.2.1, (ad_d 0), o_9.2.2.2.1, o_9.2.2.2.2.1, o_9.2.2.2.2.2.1, o_9.2.2.2.2.2.2.1, o_9.2.2.2.2.2.2.2.1, o_9.2.2.2.2.2.2.2.2.1, o_9.2.2.2.2.2.2.2.2.2.1, o_9.2.2.2.2.2.2.2.2.2.2.1, o_9.2.2.2.2.2.2.2.2.2.2.2.1, o_9.2.2.2.2.2.2.2.2.2.2.2.2.1, o_9.2.2.2.2.2.2.2.2.2.2.2.2.2)))
        else (
          some ((-3), q_found, q_foundLifts, m_room, m_order, m_weights, m_black, z_going, z_coming, z_holds, z_latest, c_heaps, c_piles, c_heights, c_spots)))
      else (
        some (o_5, q_found, q_foundLifts, m_room, m_order, m_weights, m_black, z_going, z_coming, z_holds, z_latest, c_heaps, c_piles, c_heights, c_spots))))
def fX9_laid (fuel : Nat) (d_guests : Int32) (d_kinds : Nat → Int32) (d_figures : Nat → Int32) (d_minutes : Nat → Int32) (d_settings : Nat → Int32) (d_hooks : Int32) (d_letters : Nat → Int32) (d_letterCount : Int32) (n_order : Nat → Int32) (n_weights : Nat → Int32) (n_black : Nat → Int32) (y_going : Nat → Int32) (y_coming : Nat → Int32) (y_holds : Int32) (y_latest : Int32) (b_heaps : Int32) (b_piles : Nat → Nat → Int32) (b_heights : Nat → Int32) (b_spots : Nat → Int32) : Option ((Nat → Int32) × (Nat → Int32) × (Nat → Int32) × (Nat → Int32) × (Nat → Int32) × Int32 × Int32 × Int32 × (Nat → Nat → Int32) × (Nat → Int32) × (Nat → Int32)) :=
  (fX3_begin fuel n_order n_weights n_black y_going y_coming d_guests d_kinds d_figures d_minutes).bind fun o_1 =>
  (fX2_layAll fuel o_1.2.2.2.1 o_1.2.2.2.2 y_holds y_latest b_heaps b_piles b_heights b_spots d_guests d_settings d_hooks d_letters d_letterCount).bind fun o_2 =>
  some (o_1.1, o_1.2.1, o_1.2.2.1, o_1.2.2.2.1, o_1.2.2.2.2, o_2.1, o_2.2.1, o_2.2.2.1, o_2.2.2.2.1, o_2.2.2.2.2.1, o_2.2.2.2.2.2)
def fX9_room (fuel : Nat) (s_holds : Nat → Int32) (s_sort : Nat → Int32) (s_size : Nat → Int32) (s_el : Nat → Nat → Int32) (d_guests : Int32) (d_kinds : Nat → Int32) (d_figures : Nat → Int32) (d_minutes : Nat → Int32) (d_settings : Nat → Int32) (d_hooks : Int32) (d_letters : Nat → Int32) (d_letterCount : Int32) (t_guests : Int32) (t_kinds : Nat → Int32) (t_figures : Nat → Int32) (t_minutes : Nat → Int32) (t_settings : Nat → Int32) (t_hooks : Int32) (t_letters : Nat → Int32) (t_letterCount : Int32) (p1 : Int32) : Option (Int32 × Int32 × (Nat → Int32) × (Nat → Int32) × (Nat → Int32) × (Nat → Int32) × Int32 × (Nat → Int32) × Int32 × Int32 × (Nat → Int32) × (Nat → Int32) × (Nat → Int32) × (Nat → Int32) × Int32 × (Nat → Int32) × Int32) :=
  (fX9_refusalOfBytes fuel s_holds s_sort p1).bind fun o_1 =>
  if o_1 = 0 then (
    zg (zin p1 8) <|
    (fX6_brokenAt fuel s_size s_el p1.toNatClampNeg).bind fun o_4 =>
    if o_4 < 0 then (
      (fX5_copyFrom fuel t_guests t_kinds t_figures t_minutes t_settings t_hooks t_letters t_letterCount d_guests d_kinds d_figures d_minutes d_settings d_hooks d_letters d_letterCount).bind fun o_6 =>
      (fX6_senselessAt fuel s_size s_el o_6.1 o_6.2.1 o_6.2.2.1 o_6.2.2.2.1 o_6.2.2.2.2.1 o_6.2.2.2.2.2.1 o_6.2.2.2.2.2.2.1 o_6.2.2.2.2.2.2.2 p1.toNatClampNeg).bind fun o_7 =>
      if o_7.1 < 0 then (
        (fX5_copyFrom fuel d_guests d_kinds d_figures d_minutes d_settings d_hooks d_letters d_letterCount o_7.2.1 o_7.2.2.1 o_7.2.2.2.1 o_7.2.2.2.2.1 o_7.2.2.2.2.2.1 o_7.2.2.2.2.2.2.1 o_7.2.2.2.2.2.2.2.1 o_7.2.2.2.2.2.2.2.2).bind fun o_9 =>
        (fX6_statementsIn fuel s_size s_el p1.toNatClampNeg).bind fun o_10 =>
        some (o_10, o_9.1, o_9.2.1, o_9.2.2.1, o_9.2.2.2.1, o_9.2.2.2.2.1, o_9.2.2.2.2.2.1, o_9.2.2.2.2.2.2.1, o_9.2.2.2.2.2.2.2, o_7.2.1, o_7.2.2.1, o_7.2.2.2.1, o_7.2.2.2.2.1, o_7.2.2.2.2.2.1, o_7.2.2.2.2.2.2.1, o_7.2.2.2.2.2.2.2.1, o_7.2.2.2.2.2.2.2.2))
      else (
        some (((-2000) - o_7.1), d_guests, d_kinds, d_figures, d_minutes, d_settings, d_hooks, d_letters, d_letterCount, o_7.2.1, o_7.2.2.1, o_7.2.2.2.1, o_7.2.2.2.2.1, o_7.2.2.2.2.2.1, o_7.2.2.2.2.2.2.1, o_7.2.2.2.2.2.2.2.1, o_7.2.2.2.2.2.2.2.2)))
    else (
      some (((-1000) - o_4), d_guests, d_kinds, d_figures, d_minutes, d_settings, d_hooks, d_letters, d_letterCount, t_guests, t_kinds, t_figures, t_minutes, t_settings, t_hooks, t_letters, t_letterCount)))
  else (
    some (o_1, d_guests, d_kinds, d_figures, d_minutes, d_settings, d_hooks, d_letters, d_letterCount, t_guests, t_kinds, t_figures, t_minutes, t_settings, t_hooks, t_letters, t_letterCount))
def fX9_guest (fuel : Nat) (d_guests : Int32) (d_kinds : Nat → Int32) (d_figures : Nat → Int32) (d_minutes : Nat → Int32) (d_settings : Nat → Int32) (d_hooks : Int32) (d_letters : Nat → Int32) (d_letterCount : Int32) (n_room : Nat) (n_order : Nat → Int32) (n_weights : Nat → Int32) (n_black : Nat → Int32) (y_going : Nat → Int32) (y_coming : Nat → Int32) (y_holds : Int32) (y_latest : Int32) (b_heaps : Int32) (b_piles : Nat → Nat → Int32) (b_heights : Nat → Int32) (b_spots : Nat → Int32) (ad_d : Nat → Nat) (p1 : Int32) (p2 : Int32) : Option (Int32 × Nat × (Nat → Int32) × (Nat → Int32) × (Nat → Int32) × (Nat → Int32) × (Nat → Int32) × Int32 × Int32 × Int32 × (Nat → Nat → Int32) × (Nat → Int32) × (Nat → Int32)) :=
  (fX5_hasGuest fuel d_guests p1).bind fun o_1 =>
  if o_1 = 0 then (
    some ((-1), n_room, n_order, n_weights, n_black, y_going, y_coming, y_holds, y_latest, b_heaps, b_piles, b_heights, b_spots))
  else (
    if p2 = 0 then (
      zg (zin p1 10) <|
      some ((d_kinds p1.toNatClampNeg), n_room, n_order, n_weights, n_black, y_going, y_coming, y_holds, y_latest, b_heaps, b_piles, b_heights, b_spots))
    else (
      if p2 = 1 then (
        zg (zin p1 10) <|
        some ((d_figures p1.toNatClampNeg), n_room, n_order, n_weights, n_black, y_going, y_coming, y_holds, y_latest, b_heaps, b_piles, b_heights, b_spots))
      else (
        if p2 = 2 then (
          zg (zin p1 10) <|
          some ((d_minutes p1.toNatClampNeg), n_room, n_order, n_weights, n_black, y_going, y_coming, y_holds, y_latest, b_heaps, b_piles, b_heights, b_spots))
        else (
          if p2 = 3 then (
            (fX5_goingMinute fuel d_kinds d_figures d_minutes p1).bind fun o_10 =>
            some (o_10, n_room, n_order, n_weights, n_black, y_going, y_coming, y_holds, y_latest, b_heaps, b_piles, b_heights, b_spots))
          else (
            if p2 = 4 then (
              (fX5_weightOf fuel d_kinds d_figures p1).bind fun o_12 =>
              some (o_12, n_room, n_order, n_weights, n_black, y_going, y_coming, y_holds, y_latest, b_heaps, b_piles, b_heights, b_spots))
            else (
              if p2 = 5 then (
                zg (zin p1 10) <|
                (fX1_isBlack fuel (d_kinds p1.toNatClampNeg)).bind fun o_15 =>
                if o_15 = 0 then (
                  some (0, n_room, n_order, n_weights, n_black, y_going, y_coming, y_holds, y_latest, b_heaps, b_piles, b_heights, b_spots))
                else (
                  some (1, n_room, n_order, n_weights, n_black, y_going, y_coming, y_holds, y_latest, b_heaps, b_piles, b_heights, b_spots)))
              else (
                if p2 = 6 then (
                  (fX5_spareOf fuel d_kinds d_figures p1).bind fun o_18 =>
                  some (o_18, n_room, n_order, n_weights, n_black, y_going, y_coming, y_holds, y_latest, b_heaps, b_piles, b_heights, b_spots))
                else (
                  if p2 = 7 then (
                    (fX5_hasHook fuel d_hooks p1).bind fun o_20 =>
                    if o_20 = 0 then (
                      some (0, n_room, n_order, n_weights, n_black, y_going, y_coming, y_holds, y_latest, b_heaps, b_piles, b_heights, b_spots))
                    else (
                      some (1, n_room, n_order, n_weights, n_black, y_going, y_coming, y_holds, y_latest, b_heaps, b_piles, b_heights, b_spots)))
                  else (
                    if p2 = 8 then (
                      (fX9_laid fuel d_guests d_kinds d_figures d_minutes d_settings d_hooks d_letters d_letterCount n_order n_weights n_black y_going y_coming y_holds y_latest b_heaps b_piles b_heights b_spots).bind fun o_23 =>
                      zg (zin p1 10) <|
                      some ((o_23.2.2.2.2.2.2.2.2.2.2 p1.toNatClampNeg), (ad_d 0), o_23.1, o_23.2.1, o_23.2.2.1, o_23.2.2.2.1, o_23.2.2.2.2.1, o_23.2.2.2.2.2.1, o_23.2.2.2.2.2.2.1, o_23.2.2.2.2.2.2.2.1, o_23.2.2.2.2.2.2.2.2.1, o_23.2.2.2.2.2.2.2.2.2.1, o_23.2.2.2.2.2.2.2.2.2.2))
                    else (
                      some ((-1), n_room, n_order, n_weights, n_black, y_going, y_coming, y_holds, y_latest, b_heaps, b_piles, b_heights, b_spots)))))))))))
def fX9_heap (fuel : Nat) (d_guests : Int32) (d_kinds : Nat → Int32) (d_figures : Nat → Int32) (d_minutes : Nat → Int32) (d_settings : Nat → Int32) (d_hooks : Int32) (d_letters : Nat → Int32) (d_letterCount : Int32) (n_room : Nat) (n_order : Nat → Int32) (n_weights : Nat → Int32) (n_black : Nat → Int32) (y_going : Nat → Int32) (y_coming : Nat → Int32) (y_holds : Int32) (y_latest : Int32) (b_heaps : Int32) (b_piles : Nat → Nat → Int32) (b_heights : Nat → Int32) (b_spots : Nat → Int32) (ad_d : Nat → Nat) (p1 : Int32) (p2 : Int32) : Option (Int32 × Nat × (Nat → Int32) × (Nat → Int32) × (Nat → Int32) × (Nat → Int32) × (Nat → Int32) × Int32 × Int32 × Int32 × (Nat → Nat → Int32) × (Nat → Int32) × (Nat → Int32)) :=
  (fX9_isHeap fuel p1).bind fun o_1 =>
  if o_1 = 0 then (
    some ((-1), n_room, n_order, n_weights, n_black, y_going, y_coming, y_holds, y_latest, b_heaps, b_piles, b_heights, b_spots))
  else (
    if (-1) ≤ p2 then (
      (fX9_laid fuel d_guests d_kinds d_figures d_minutes d_settings d_hooks d_letters d_letterCount n_order n_weights n_black y_going y_coming y_holds y_latest b_heaps b_piles b_heights b_spots).bind fun o_4 =>
      if p2 = (-1) then (
        zg (zin p1 3) <|
        some ((o_4.2.2.2.2.2.2.2.2.2.1 p1.toNatClampNeg), (ad_d 0), o_4.1, o_4.2.1, o_4.2.2.1, o_4.2.2.2.1, o_4.2.2.2.2.1, o_4.2.2.2.2.2.1, o_4.2.2.2.2.2.2.1, o_4.2.2.2.2.2.2.2.1, o_4.2.2.2.2.2.2.2.2.1, o_4.2.2.2.2.2.2.2.2.2.1, o_4.2.2.2.2.2.2.2.2.2.2))
      else (
        (fX0_coatAt fuel o_4.2.2.2.2.2.2.2.2.1 o_4.2.2.2.2.2.2.2.2.2.1 p1 p2).bind fun o_6 =>
        some (o_6, (ad_d 0), o_4.1, o_4.2.1, o_4.2.2.1, o_4.2.2.2.1, o_4.2.2.2.2.1, o_4.2.2.2.2.2.1, o_4.2.2.2.2.2.2.1, o_4.2.2.2.2.2.2.2.1, o_4.2.2.2.2.2.2.2.2.1, o_4.2.2.2.2.2.2.2.2.2.1, o_4.2.2.2.2.2.2.2.2.2.2)))
    else (
      some ((-1), n_room, n_order, n_weights, n_black, y_going, y_coming, y_holds, y_latest, b_heaps, b_piles, b_heights, b_spots)))
def fX9_above (fuel : Nat) (d_guests : Int32) (d_kinds : Nat → Int32) (d_figures : Nat → Int32) (d_minutes : Nat → Int32) (d_settings : Nat → Int32) (d_hooks : Int32) (d_letters : Nat → Int32) (d_letterCount : Int32) (n_room : Nat) (n_order : Nat → Int32) (n_weights : Nat → Int32) (n_black : Nat → Int32) (y_going : Nat → Int32) (y_coming : Nat → Int32) (y_holds : Int32) (y_latest : Int32) (b_heaps : Int32) (b_piles : Nat → Nat → Int32) (b_heights : Nat → Int32) (b_spots : Nat → Int32) (ad_d : Nat → Nat) (p1 : Int32) : Option (Int32 × Nat × (Nat → Int32) × (Nat → Int32) × (Nat → Int32) × (Nat → Int32) × (Nat → Int32) × Int32 × Int32 × Int32 × (Nat → Nat → Int32) × (Nat → Int32) × (Nat → Int32)) :=
  (fX5_hasGuest fuel d_guests p1).bind fun o_1 =>
  if o_1 = 0 then (
    some ((-1), n_room, n_order, n_weights, n_black, y_going, y_coming, y_holds, y_latest, b_heaps, b_piles, b_heights, b_spots))
  else (
    (fX9_laid fuel d_guests d_kinds d_figures d_minutes d_settings d_hooks d_letters d_letterCount n_order n_weights n_black y_going y_coming y_holds y_latest b_heaps b_piles b_heights b_spots).bind fun o_3 =>
    (fX0_coatsAbove fuel o_3.2.2.2.2.2.2.2.2.1 o_3.2.2.2.2.2.2.2.2.2.1 o_3.2.2.2.2.2.2.2.2.2.2 p1).bind fun o_4 =>
    some (o_4, (ad_d 0), o_3.1, o_3.2.1, o_3.2.2.1, o_3.2.2.2.1, o_3.2.2.2.2.1, o_3.2.2.2.2.2.1, o_3.2.2.2.2.2.2.1, o_3.2.2.2.2.2.2.2.1, o_3.2.2.2.2.2.2.2.2.1, o_3.2.2.2.2.2.2.2.2.2.1, o_3.2.2.2.2.2.2.2.2.2.2))
def fX9_fate (fuel : Nat) (d_guests : Int32) (d_kinds : Nat → Int32) (d_figures : Nat → Int32) (d_minutes : Nat → Int32) (d_settings : Nat → Int32) (d_hooks : Int32) (d_letters : Nat → Int32) (d_letterCount : Int32) (n_room : Nat) (n_order : Nat → Int32) (n_weights : Nat → Int32) (n_black : Nat → Int32) (n_lifts : Nat → Int32) (n_begins : Nat → Int32) (n_ends : Nat → Int32) (n_has : Nat → Int32) (n_lifted : Nat → Int32) (n_allLifts : Int32) (n_doneAt : Int32) (y_going : Nat → Int32) (y_coming : Nat → Int32) (y_holds : Int32) (y_latest : Int32) (b_heaps : Int32) (b_piles : Nat → Nat → Int32) (b_heights : Nat → Int32) (b_spots : Nat → Int32) (ad_d : Nat → Nat) (p1 : Int32) (p2 : Int32) : Option (Int32 × Nat × (Nat → Int32) × (Nat → Int32) × (Nat → Int32) × (Nat → Int32) × (Nat → Int32) × (Nat → Int32) × (Nat → Int32) × (Nat → Int32) × Int32 × Int32 × (Nat → Int32) × (Nat → Int32) × Int32 × Int32 × Int32 × (Nat → Nat → Int32) × (Nat → Int32) × (Nat → Int32)) :=
  (fX5_hasGuest fuel d_guests p1).bind fun o_1 =>
  if o_1 = 0 then (
    some ((-1), n_room, n_order, n_weights, n_black, n_lifts, n_begins, n_ends, n_has, n_lifted, n_allLifts, n_doneAt, y_going, y_coming, y_holds, y_latest, b_heaps, b_piles, b_heights, b_spots))
  else (
    (fX3_pass fuel n_order n_weights n_black n_lifts n_begins n_ends n_has n_lifted n_allLifts n_doneAt y_going y_coming y_holds y_latest b_heaps b_piles b_heights b_spots d_guests d_kinds d_figures d_minutes d_settings d_hooks d_letters d_letterCount).bind fun o_3 =>
    if p2 = 0 then (
      zg (zin p1 10) <|
      some ((o_3.2.2.2.2.1 p1.toNatClampNeg), (ad_d 0), o_3.2.1, o_3.2.2.1, o_3.2.2.2.1, o_3.2.2.2.2.1, o_3.2.2.2.2.2.1, o_3.2.2.2.2.2.2.1, o_3.2.2.2.2.2.2.2.1, o_3.2.2.2.2.2.2.2.2.1, o_3.2.2.2.2.2.2.2.2.2.1, o_3.2.2.2.2.2.2.2.2.2.2.1, o_3.2.2.2.2.2.2.2.2.2.2.2.1, o_3.2.2.2.2.2.2.2.2.2.2.2.2.1, o_3.2.2.2.2.2.2.2.2.2.2.2.2.2.1, o_3.2.2.2.2.2.2.2.2.2.2.2.2.2.2.1, o_3.2.2.2.2.2.2.2.2.2.2.2.2.2.2.2.1, o_3.2.2.2.2.2.2.2.2.2.2.2.2.2.2.2.2.1, o_3.2.2.2.2.2.2.2.2.2.2.2.2.2.2.2.2.2.1, o_3.2.2.2.2.2.2.2.2.2.2.2.2.2.2.2.2.2.2))
    else (
      if p2 = 1 then (
        zg (zin p1 10) <|
        some ((o_3.2.2.2.2.2.1 p1.toNatClampNeg), (ad_d 0), o_3.2.1, o_3.2.2.1, o_3.2.2.2.1, o_3.2.2.2.2.1, o_3.2.2.2.2.2.1, o_3.2.2.2.2.2.2.1, o_3.2.2.2.2.2.2.2.1, o_3.2.2.2.2.2.2.2.2.1, o_3.2.2.2.2.2.2.2.2.2.1, o_3.2.2.2.2.2.2.2.2.2.2.1, o_3.2.2.2.2.2.2.2.2.2.2.2.1, o_3.2.2.2.2.2.2.2.2.2.2.2.2.1, o_3.2.2.2.2.2.2.2.2.2.2.2.2.2.1, o_3.2.2.2.2.2.2.2.2.2.2.2.2.2.2.1, o_3.2.2.2.2.2.2.2.2.2.2.2.2.2.2.2.1, o_3.2.2.2.2.2.2.2.2.2.2.2.2.2.2.2.2.1, o_3.2.2.2.2.2.2.2.2.2.2.2.2.2.2.2.2.2.1, o_3.2.2.2.2.2.2.2.2.2.2.2.2.2.2.2.2.2.2))
      else (
        if p2 = 2 then (
          zg (zin p1 10) <|
          some ((o_3.2.2.2.2.2.2.1 p1.toNatClampNeg), (ad_d 0), o_3.2.1, o_3.2.2.1, o_3.2.2.2.1, o_3.2.2.2.2.1, o_3.2.2.2.2.2.1, o_3.2.2.2.2.2.2.1, o_3.2.2.2.2.2.2.2.1, o_3.2.2.2.2.2.2.2.2.1, o_3.2.2.2.2.2.2.2.2.2.1, o_3.2.2.2.2.2.2.2.2.2.2.1, o_3.2.2.2.2.2.2.2.2.2.2.2.1, o_3.2.2.2.2.2.2.2.2.2.2.2.2.1, o_3.2.2.2.2.2.2.2.2.2.2.2.2.2.1, o_3.2.2.2.2.2.2.2.2.2.2.2.2.2.2.1, o_3.2.2.2.2.2.2.2.2.2.2.2.2.2.2.2.1, o_3.2.2.2.2.2.2.2.2.2.2.2.2.2.2.2.2.1, o_3.2.2.2.2.2.2.2.2.2.2.2.2.2.2.2.2.2.1, o_3.2.2.2.2.2.2.2.2.2.2.2.2.2.2.2.2.2.2))
        else (
          if p2 = 3 then (
            zg (zin p1 10) <|
            some ((o_3.2.2.2.2.2.2.2.1 p1.toNatClampNeg), (ad_d 0), o_3.2.1, o_3.2.2.1, o_3.2.2.2.1, o_3.2.2.2.2.1, o_3.2.2.2.2.2.1, o_3.2.2.2.2.2.2.1, o_3.2.2.2.2.2.2.2.1, o_3.2.2.2.2.2.2.2.2.1, o_3.2.2.2.2.2.2.2.2.2.1, o_3.2.2.2.2.2.2.2.2.2.2.1, o_3.2.2.2.2.2.2.2.2.2.2.2.1, o_3.2.2.2.2.2.2.2.2.2.2.2.2.1, o_3.2.2.2.2.2.2.2.2.2.2.2.2.2.1, o_3.2.2.2.2.2.2.2.2.2.2.2.2.2.2.1, o_3.2.2.2.2.2.2.2.2.2.2.2.2.2.2.2.1, o_3.2.2.2.2.2.2.2.2.2.2.2.2.2.2.2.2.1, o_3.2.2.2.2.2.2.2.2.2.2.2.2.2.2.2.2.2.1, o_3.2.2.2.2.2.2.2.2.2.2.2.2.2.2.2.2.2.2))
          else (
            if p2 = 4 then (
              (fX3_placeOf fuel o_3.2.1 d_guests p1).bind fun o_13 =>
              some (o_13, (ad_d 0), o_3.2.1, o_3.2.2.1, o_3.2.2.2.1, o_3.2.2.2.2.1, o_3.2.2.2.2.2.1, o_3.2.2.2.2.2.2.1, o_3.2.2.2.2.2.2.2.1, o_3.2.2.2.2.2.2.2.2.1, o_3.2.2.2.2.2.2.2.2.2.1, o_3.2.2.2.2.2.2.2.2.2.2.1, o_3.2.2.2.2.2.2.2.2.2.2.2.1, o_3.2.2.2.2.2.2.2.2.2.2.2.2.1, o_3.2.2.2.2.2.2.2.2.2.2.2.2.2.1, o_3.2.2.2.2.2.2.2.2.2.2.2.2.2.2.1, o_3.2.2.2.2.2.2.2.2.2.2.2.2.2.2.2.1, o_3.2.2.2.2.2.2.2.2.2.2.2.2.2.2.2.2.1, o_3.2.2.2.2.2.2.2.2.2.2.2.2.2.2.2.2.2.1, o_3.2.2.2.2.2.2.2.2.2.2.2.2.2.2.2.2.2.2))
            else (
              if p2 = 5 then (
                zg (zin p1 10) <|
                some ((o_3.2.2.2.2.2.2.2.2.1 p1.toNatClampNeg), (ad_d 0), o_3.2.1, o_3.2.2.1, o_3.2.2.2.1, o_3.2.2.2.2.1, o_3.2.2.2.2.2.1, o_3.2.2.2.2.2.2.1, o_3.2.2.2.2.2.2.2.1, o_3.2.2.2.2.2.2.2.2.1, o_3.2.2.2.2.2.2.2.2.2.1, o_3.2.2.2.2.2.2.2.2.2.2.1, o_3.2.2.2.2.2.2.2.2.2.2.2.1, o_3.2.2.2.2.2.2.2.2.2.2.2.2.1, o_3.2.2.2.2.2.2.2.2.2.2.2.2.2.1, o_3.2.2.2.2.2.2.2.2.2.2.2.2.2.2.1, o_3.2.2.2.2.2.2.2.2.2.2.2.2.2.2.2.1, o_3.2.2.2.2.2.2.2.2.2.2.2.2.2.2.2.2.1, o_3.2.2.2.2.2.2.2.2.2.2.2.2.2.2.2.2.2.1, o_3.2.2.2.2.2.2.2.2.2.2.2.2.2.2.2.2.2.2))
              else (
                some ((-1), (ad_d 0), o_3.2.1, o_3.2.2.1, o_3.2.2.2.1, o_3.2.2.2.2.1, o_3.2.2.2.2.2.1, o_3.2.2.2.2.2.2.1, o_3.2.2.2.2.2.2.2.1, o_3.2.2.2.2.2.2.2.2.1, o_3.2.2.2.2.2.2.2.2.2.1, o_3.2.2.2.2.2.2.2.2.2.2.1, o_3.2.2.2.2.2.2.2.2.2.2.2.1, o_3.2.2.2.2.2.2.2.2.2.2.2.2.1, o_3.2.2.2.2.2.2.2.2.2.2.2.2.2.1, o_3.2.2.2.2.2.2.2.2.2.2.2.2.2.2.1, o_3.2.2.2.2.2.2.2.2.2.2.2.2.2.2.2.1, o_3.2.2.2.2.2.2.2.2.2.2.2.2.2.2.2.2.1, o_3.2.2.2.2.2.2.2.2.2.2.2.2.2.2.2.2.2.1, o_3.2.2.2.2.2.2.2.2.2.2.2.2.2.2.2.2.2.2))))))))
def fX9_sums (fuel : Nat) (d_guests : Int32) (d_kinds : Nat → Int32) (d_figures : Nat → Int32) (d_minutes : Nat → Int32) (d_settings : Nat → Int32) (d_hooks : Int32) (d_letters : Nat → Int32) (d_letterCount : Int32) (n_order : Nat → Int32) (n_weights : Nat → Int32) (n_black : Nat → Int32) (n_lifts : Nat → Int32) (n_begins : Nat → Int32) (n_ends : Nat → Int32) (n_has : Nat → Int32) (n_lifted : Nat → Int32) (n_allLifts : Int32) (n_doneAt : Int32) (y_going : Nat → Int32) (y_coming : Nat → Int32) (y_holds : Int32) (y_latest : Int32) (b_heaps : Int32) (b_piles : Nat → Nat → Int32) (b_heights : Nat → Int32) (b_spots : Nat → Int32) (p1 : Int32) : Option (Int32 × (Nat → Int32) × (Nat → Int32) × (Nat → Int32) × (Nat → Int32) × (Nat → Int32) × (Nat → Int32) × (Nat → Int32) × (Nat → Int32) × Int32 × Int32 × (Nat → Int32) × (Nat → Int32) × Int32 × Int32 × Int32 × (Nat → Nat → Int32) × (Nat → Int32) × (Nat → Int32)) :=
  (fX3_pass fuel n_order n_weights n_black n_lifts n_begins n_ends n_has n_lifted n_allLifts n_doneAt y_going y_coming y_holds y_latest b_heaps b_piles b_heights b_spots d_guests d_kinds d_figures d_minutes d_settings d_hooks d_letters d_letterCount).bind fun o_1 =>
  if p1 = 0 then (
    some (o_1.2.2.2.2.2.2.2.2.2.1, o_1.2.1, o_1.2.2.1, o_1.2.2.2.1, o_1.2.2.2.2.1, o_1.2.2.2.2.2.1, o_1.2.2.2.2.2.2.1, o_1.2.2.2.2.2.2.2.1, o_1.2.2.2.2.2.2.2.2.1, o_1.2.2.2.2.2.2.2.2.2.1, o_1.2.2.2.2.2.2.2.2.2.2.1, o_1.2.2.2.2.2.2.2.2.2.2.2.1, o_1.2.2.2.2.2.2.2.2.2.2.2.2.1, o_1.2.2.2.2.2.2.2.2.2.2.2.2.2.1, o_1.2.2.2.2.2.2.2.2.2.2.2.2.2.2.1, o_1.2.2.2.2.2.2.2.2.2.2.2.2.2.2.2.1, o_1.2.2.2.2.2.2.2.2.2.2.2.2.2.2.2.2.1, o_1.2.2.2.2.2.2.2.2.2.2.2.2.2.2.2.2.2.1, o_1.2.2.2.2.2.2.2.2.2.2.2.2.2.2.2.2.2.2))
  else (
    if p1 = 1 then (
      (fX3_allWaiting fuel o_1.2.2.2.2.2.1 o_1.2.2.2.2.2.2.2.2.2.2.2.1 d_guests).bind fun o_4 =>
      some (o_4, o_1.2.1, o_1.2.2.1, o_1.2.2.2.1, o_1.2.2.2.2.1, o_1.2.2.2.2.2.1, o_1.2.2.2.2.2.2.1, o_1.2.2.2.2.2.2.2.1, o_1.2.2.2.2.2.2.2.2.1, o_1.2.2.2.2.2.2.2.2.2.1, o_1.2.2.2.2.2.2.2.2.2.2.1, o_1.2.2.2.2.2.2.2.2.2.2.2.1, o_1.2.2.2.2.2.2.2.2.2.2.2.2.1, o_1.2.2.2.2.2.2.2.2.2.2.2.2.2.1, o_1.2.2.2.2.2.2.2.2.2.2.2.2.2.2.1, o_1.2.2.2.2.2.2.2.2.2.2.2.2.2.2.2.1, o_1.2.2.2.2.2.2.2.2.2.2.2.2.2.2.2.2.1, o_1.2.2.2.2.2.2.2.2.2.2.2.2.2.2.2.2.2.1, o_1.2.2.2.2.2.2.2.2.2.2.2.2.2.2.2.2.2.2))
    else (
      if p1 = 2 then (
        (fX3_howManyHaveAnothers fuel o_1.2.2.2.2.2.2.2.1 d_guests).bind fun o_6 =>
        some (o_6, o_1.2.1, o_1.2.2.1, o_1.2.2.2.1, o_1.2.2.2.2.1, o_1.2.2.2.2.2.1, o_1.2.2.2.2.2.2.1, o_1.2.2.2.2.2.2.2.1, o_1.2.2.2.2.2.2.2.2.1, o_1.2.2.2.2.2.2.2.2.2.1, o_1.2.2.2.2.2.2.2.2.2.2.1, o_1.2.2.2.2.2.2.2.2.2.2.2.1, o_1.2.2.2.2.2.2.2.2.2.2.2.2.1, o_1.2.2.2.2.2.2.2.2.2.2.2.2.2.1, o_1.2.2.2.2.2.2.2.2.2.2.2.2.2.2.1, o_1.2.2.2.2.2.2.2.2.2.2.2.2.2.2.2.1, o_1.2.2.2.2.2.2.2.2.2.2.2.2.2.2.2.2.1, o_1.2.2.2.2.2.2.2.2.2.2.2.2.2.2.2.2.2.1, o_1.2.2.2.2.2.2.2.2.2.2.2.2.2.2.2.2.2.2))
      else (
        if p1 = 3 then (
          (fX3_howManyHaveNone fuel o_1.2.2.2.2.2.2.2.1 d_guests).bind fun o_8 =>
          some (o_8, o_1.2.1, o_1.2.2.1, o_1.2.2.2.1, o_1.2.2.2.2.1, o_1.2.2.2.2.2.1, o_1.2.2.2.2.2.2.1, o_1.2.2.2.2.2.2.2.1, o_1.2.2.2.2.2.2.2.2.1, o_1.2.2.2.2.2.2.2.2.2.1, o_1.2.2.2.2.2.2.2.2.2.2.1, o_1.2.2.2.2.2.2.2.2.2.2.2.1, o_1.2.2.2.2.2.2.2.2.2.2.2.2.1, o_1.2.2.2.2.2.2.2.2.2.2.2.2.2.1, o_1.2.2.2.2.2.2.2.2.2.2.2.2.2.2.1, o_1.2.2.2.2.2.2.2.2.2.2.2.2.2.2.2.1, o_1.2.2.2.2.2.2.2.2.2.2.2.2.2.2.2.2.1, o_1.2.2.2.2.2.2.2.2.2.2.2.2.2.2.2.2.2.1, o_1.2.2.2.2.2.2.2.2.2.2.2.2.2.2.2.2.2.2))
        else (
          if p1 = 4 then (
            (fX3_lastEnd fuel o_1.2.2.2.2.2.2.1 d_guests).bind fun o_10 =>
            some (o_10, o_1.2.1, o_1.2.2.1, o_1.2.2.2.1, o_1.2.2.2.2.1, o_1.2.2.2.2.2.1, o_1.2.2.2.2.2.2.1, o_1.2.2.2.2.2.2.2.1, o_1.2.2.2.2.2.2.2.2.1, o_1.2.2.2.2.2.2.2.2.2.1, o_1.2.2.2.2.2.2.2.2.2.2.1, o_1.2.2.2.2.2.2.2.2.2.2.2.1, o_1.2.2.2.2.2.2.2.2.2.2.2.2.1, o_1.2.2.2.2.2.2.2.2.2.2.2.2.2.1, o_1.2.2.2.2.2.2.2.2.2.2.2.2.2.2.1, o_1.2.2.2.2.2.2.2.2.2.2.2.2.2.2.2.1, o_1.2.2.2.2.2.2.2.2.2.2.2.2.2.2.2.2.1, o_1.2.2.2.2.2.2.2.2.2.2.2.2.2.2.2.2.2.1, o_1.2.2.2.2.2.2.2.2.2.2.2.2.2.2.2.2.2.2))
          else (
            if p1 = 5 then (
              (fX3_missers fuel o_1.2.2.2.2.2.2.1 o_1.2.2.2.2.2.2.2.2.2.2.2.1 d_guests d_kinds d_figures).bind fun o_12 =>
              (fJ6_bitCount_0f7a4 fuel o_12).bind fun o_13 =>
              some (o_13, o_1.2.1, o_1.2.2.1, o_1.2.2.2.1, o_1.2.2.2.2.1, o_1.2.2.2.2.2.1, o_1.2.2.2.2.2.2.1, o_1.2.2.2.2.2.2.2.1, o_1.2.2.2.2.2.2.2.2.1, o_1.2.2.2.2.2.2.2.2.2.1, o_1.2.2.2.2.2.2.2.2.2.2.1, o_1.2.2.2.2.2.2.2.2.2.2.2.1, o_1.2.2.2.2.2.2.2.2.2.2.2.2.1, o_1.2.2.2.2.2.2.2.2.2.2.2.2.2.1, o_1.2.2.2.2.2.2.2.2.2.2.2.2.2.2.1, o_1.2.2.2.2.2.2.2.2.2.2.2.2.2.2.2.1, o_1.2.2.2.2.2.2.2.2.2.2.2.2.2.2.2.2.1, o_1.2.2.2.2.2.2.2.2.2.2.2.2.2.2.2.2.2.1, o_1.2.2.2.2.2.2.2.2.2.2.2.2.2.2.2.2.2.2))
            else (
              some ((-1), o_1.2.1, o_1.2.2.1, o_1.2.2.2.1, o_1.2.2.2.2.1, o_1.2.2.2.2.2.1, o_1.2.2.2.2.2.2.1, o_1.2.2.2.2.2.2.2.1, o_1.2.2.2.2.2.2.2.2.1, o_1.2.2.2.2.2.2.2.2.2.1, o_1.2.2.2.2.2.2.2.2.2.2.1, o_1.2.2.2.2.2.2.2.2.2.2.2.1, o_1.2.2.2.2.2.2.2.2.2.2.2.2.1, o_1.2.2.2.2.2.2.2.2.2.2.2.2.2.1, o_1.2.2.2.2.2.2.2.2.2.2.2.2.2.2.1, o_1.2.2.2.2.2.2.2.2.2.2.2.2.2.2.2.1, o_1.2.2.2.2.2.2.2.2.2.2.2.2.2.2.2.2.1, o_1.2.2.2.2.2.2.2.2.2.2.2.2.2.2.2.2.2.1, o_1.2.2.2.2.2.2.2.2.2.2.2.2.2.2.2.2.2.2)))))))
def fX9_missing (fuel : Nat) (d_guests : Int32) (d_kinds : Nat → Int32) (d_figures : Nat → Int32) (d_minutes : Nat → Int32) (d_settings : Nat → Int32) (d_hooks : Int32) (d_letters : Nat → Int32) (d_letterCount : Int32) (n_order : Nat → Int32) (n_weights : Nat → Int32) (n_black : Nat → Int32) (n_lifts : Nat → Int32) (n_begins : Nat → Int32) (n_ends : Nat → Int32) (n_has : Nat → Int32) (n_lifted : Nat → Int32) (n_allLifts : Int32) (n_doneAt : Int32) (y_going : Nat → Int32) (y_coming : Nat → Int32) (y_holds : Int32) (y_latest : Int32) (b_heaps : Int32) (b_piles : Nat → Nat → Int32) (b_heights : Nat → Int32) (b_spots : Nat → Int32) : Option (Int32 × (Nat → Int32) × (Nat → Int32) × (Nat → Int32) × (Nat → Int32) × (Nat → Int32) × (Nat → Int32) × (Nat → Int32) × (Nat → Int32) × Int32 × Int32 × (Nat → Int32) × (Nat → Int32) × Int32 × Int32 × Int32 × (Nat → Nat → Int32) × (Nat → Int32) × (Nat → Int32)) :=
  (fX3_pass fuel n_order n_weights n_black n_lifts n_begins n_ends n_has n_lifted n_allLifts n_doneAt y_going y_coming y_holds y_latest b_heaps b_piles b_heights b_spots d_guests d_kinds d_figures d_minutes d_settings d_hooks d_letters d_letterCount).bind fun o_1 =>
  (fX3_missers fuel o_1.2.2.2.2.2.2.1 o_1.2.2.2.2.2.2.2.2.2.2.2.1 d_guests d_kinds d_figures).bind fun o_2 =>
  some (o_2, o_1.2.1, o_1.2.2.1, o_1.2.2.2.1, o_1.2.2.2.2.1, o_1.2.2.2.2.2.1, o_1.2.2.2.2.2.2.1, o_1.2.2.2.2.2.2.2.1, o_1.2.2.2.2.2.2.2.2.1, o_1.2.2.2.2.2.2.2.2.2.1, o_1.2.2.2.2.2.2.2.2.2.2.1, o_1.2.2.2.2.2.2.2.2.2.2.2.1, o_1.2.2.2.2.2.2.2.2.2.2.2.2.1, o_1.2.2.2.2.2.2.2.2.2.2.2.2.2.1, o_1.2.2.2.2.2.2.2.2.2.2.2.2.2.2.1, o_1.2.2.2.2.2.2.2.2.2.2.2.2.2.2.2.1, o_1.2.2.2.2.2.2.2.2.2.2.2.2.2.2.2.2.1, o_1.2.2.2.2.2.2.2.2.2.2.2.2.2.2.2.2.2.1, o_1.2.2.2.2.2.2.2.2.2.2.2.2.2.2.2.2.2.2)
def fX9_least (fuel : Nat) (d_guests : Int32) (d_kinds : Nat → Int32) (d_figures : Nat → Int32) (d_minutes : Nat → Int32) (d_settings : Nat → Int32) (d_hooks : Int32) (q_row : Nat → Int32) (q_found : Int32) (q_foundLifts : Int32) (m_room : Nat) (m_order : Nat → Int32) (m_weights : Nat → Int32) (m_black : Nat → Int32) (m_lifts : Nat → Int32) (m_begins : Nat → Int32) (m_ends : Nat → Int32) (m_has : Nat → Int32) (m_lifted : Nat → Int32) (m_allLifts : Int32) (m_doneAt : Int32) (z_going : Nat → Int32) (z_coming : Nat → Int32) (c_heaps : Int32) (c_piles : Nat → Nat → Int32) (c_heights : Nat → Int32) (c_spots : Nat → Int32) (ad_d : Nat → Nat) (p1 : Int32) : Option (Int32 × (Nat → Int32) × Int32 × Int32 × Nat × (Nat → Int32) × (Nat → Int32) × (Nat → Int32) × (Nat → Int32) × (Nat → Int32) × (Nat → Int32) × (Nat → Int32) × (Nat → Int32) × Int32 × Int32 × (Nat → Int32) × (Nat → Int32) × Int32 × (Nat → Nat → Int32) × (Nat → Int32) × (Nat → Int32)) :=
  (fX9_isFirstOrSecond fuel p1).bind fun o_1 =>
  if o_1 = 0 then (
    some ((-1), q_row, q_found, q_foundLifts, m_room, m_order, m_weights, m_black, m_lifts, m_begins, m_ends, m_has, m_lifted, m_allLifts, m_doneAt, z_going, z_coming, c_heaps, c_piles, c_heights, c_spots))
  else (
    if d_guests ≤ 6 then (
      (fX8_tryAllLayings fuel q_row q_found q_foundLifts m_order m_weights m_black m_lifts m_begins m_ends m_has m_lifted m_allLifts m_doneAt z_going z_coming c_heaps c_piles c_heights c_spots d_guests d_kinds d_figures d_minutes d_settings d_hooks).bind fun o_4 =>
      if p1 = 0 then (
        some (o_4.2.2.1, o_4.1, o_4.2.1, o_4.2.2.1, (ad_d 0), o_4.2.2.2.1, o_4.2.2.2.2.1, o_4.2.2.2.2.2.1, o_4.2.2.2.2.2.2.1, o_4.2.2.2.2.2.2.2.1, o_4.2.2.2.2.2.2.2.2.1, o_4.2.2.2.2.2.2.2.2.2.1, o_4.2.2.2.2.2.2.2.2.2.2.1, o_4.2.2.2.2.2.2.2.2.2.2.2.1, o_4.2.2.2.2.2.2.2.2.2.2.2.2.1, o_4.2.2.2.2.2.2.2.2.2.2.2.2.2.1, o_4.2.2.2.2.2.2.2.2.2.2.2.2.2.2.1, o_4.2.2.2.2.2.2.2.2.2.2.2.2.2.2.2.1, o_4.2.2.2.2.2.2.2.2.2.2.2.2.2.2.2.2.1, o_4.2.2.2.2.2.2.2.2.2.2.2.2.2.2.2.2.2.1, o_4.2.2.2.2.2.2.2.2.2.2.2.2.2.2.2.2.2.2))
      else (
        some (o_4.2.1, o_4.1, o_4.2.1, o_4.2.2.1, (ad_d 0), o_4.2.2.2.1, o_4.2.2.2.2.1, o_4.2.2.2.2.2.1, o_4.2.2.2.2.2.2.1, o_4.2.2.2.2.2.2.2.1, o_4.2.2.2.2.2.2.2.2.1, o_4.2.2.2.2.2.2.2.2.2.1, o_4.2.2.2.2.2.2.2.2.2.2.1, o_4.2.2.2.2.2.2.2.2.2.2.2.1, o_4.2.2.2.2.2.2.2.2.2.2.2.2.1, o_4.2.2.2.2.2.2.2.2.2.2.2.2.2.1, o_4.2.2.2.2.2.2.2.2.2.2.2.2.2.2.1, o_4.2.2.2.2.2.2.2.2.2.2.2.2.2.2.2.1, o_4.2.2.2.2.2.2.2.2.2.2.2.2.2.2.2.2.1, o_4.2.2.2.2.2.2.2.2.2.2.2.2.2.2.2.2.2.1, o_4.2.2.2.2.2.2.2.2.2.2.2.2.2.2.2.2.2.2)))
    else (
      some ((-3), q_row, q_found, q_foundLifts, m_room, m_order, m_weights, m_black, m_lifts, m_begins, m_ends, m_has, m_lifted, m_allLifts, m_doneAt, z_going, z_coming, c_heaps, c_piles, c_heights, c_spots)))
def fX9_backs (fuel : Nat) (d_guests : Int32) (d_kinds : Nat → Int32) (d_figures : Nat → Int32) (d_minutes : Nat → Int32) (d_settings : Nat → Int32) (d_hooks : Int32) (d_letters : Nat → Int32) (d_letterCount : Int32) (t_guests : Int32) (t_kinds : Nat → Int32) (t_figures : Nat → Int32) (t_minutes : Nat → Int32) (t_settings : Nat → Int32) (t_hooks : Int32) (t_letters : Nat → Int32) (t_letterCount : Int32) (m_room : Nat) (m_order : Nat → Int32) (m_weights : Nat → Int32) (m_black : Nat → Int32) (m_lifts : Nat → Int32) (m_begins : Nat → Int32) (m_ends : Nat → Int32) (m_has : Nat → Int32) (m_lifted : Nat → Int32) (m_allLifts : Int32) (m_doneAt : Int32) (z_going : Nat → Int32) (z_coming : Nat → Int32) (z_holds : Int32) (z_latest : Int32) (c_heaps : Int32) (c_piles : Nat → Nat → Int32) (c_heights : Nat → Int32) (c_spots : Nat → Int32) (ad_t : Nat → Nat) (p1 : Int32) : Option (Int32 × Int32 × (Nat → Int32) × (Nat → Int32) × (Nat → Int32) × (Nat → Int32) × Int32 × (Nat → Int32) × Int32 × Nat × (Nat → Int32) × (Nat → Int32) × (Nat → Int32) × (Nat → Int32) × (Nat → Int32) × (Nat → Int32) × (Nat → Int32) × (Nat → Int32) × Int32 × Int32 × (Nat → Int32) × (Nat → Int32) × Int32 × Int32 × Int32 × (Nat → Nat → Int32) × (Nat → Int32) × (Nat → Int32)) :=
  (fX5_allows fuel 2 p1).bind fun o_1 =>
  if o_1 = 0 then (
    some ((-1), t_guests, t_kinds, t_figures, t_minutes, t_settings, t_hooks, t_letters, t_letterCount, m_room, m_order, m_weights, m_black, m_lifts, m_begins, m_ends, m_has, m_lifted, m_allLifts, m_doneAt, z_going, z_coming, z_holds, z_latest, c_heaps, c_piles, c_heights, c_spots))
  else (
    (fX8_liftsWith fuel t_guests t_kinds t_figures t_minutes t_settings t_hooks t_letters t_letterCount m_order m_weights m_black m_lifts m_begins m_ends m_has m_lifted m_allLifts m_doneAt z_going z_coming z_holds z_latest c_heaps c_piles c_heights c_spots d_guests d_kinds d_figures d_minutes d_settings d_hooks d_letters d_letterCount 2 p1).bind fun o_3 =>
    some (o_3.1, o_3.2.1, o_3.2.2.1, o_3.2.2.2.1, o_3.2.2.2.2.1, o_3.2.2.2.2.2.1, o_3.2.2.2.2.2.2.1, o_3.2.2.2.2.2.2.2.1, o_3.2.2.2.2.2.2.2.2.1, (ad_t 0), o_3.2.2.2.2.2.2.2.2.2.1, o_3.2.2.2.2.2.2.2.2.2.2.1, o_3.2.2.2.2.2.2.2.2.2.2.2.1, o_3.2.2.2.2.2.2.2.2.2.2.2.2.1, o_3.2.2.2.2.2.2.2.2.2.2.2.2.2.1, o_3.2.2.2.2.2.2.2.2.2.2.2.2.2.2.1, o_3.2.2.2.2.2.2.2.2.2.2.2.2.2.2.2.1, o_3.2.2.2.2.2.2.2.2.2.2.2.2.2.2.2.2.1, o_3.2.2.2.2.2.2.2.2.2.2.2.2.2.2.2.2.2.1, o_3.2.2.2.2.2.2.2.2.2.2.2.2.2.2.2.2.2.2.1, o_3.2.2.2.2.2.2.2.2.2.2.2.2.2.2.2.2.2.2.2.1, o_3.2.2.2.2.2.2.2.2.2.2.2.2.2.2.2.2.2.2.2.2.1, o_3.2.2.2.2.2.2.2.2.2.2.2.2.2.2.2.2.2.2.2.2.2.1, o_3.2.2.2.2.2.2.2.2.2.2.2.2.2.2.2.2.2.2.2.2.2.2.1, o_3.2.2.2.2.2.2.2.2.2.2.2.2.2.2.2.2.2.2.2.2.2.2.2.1, o_3.2.2.2.2.2.2.2.2.2.2.2.2.2.2.2.2.2.2.2.2.2.2.2.2.1, o_3.2.2.2.2.2.2.2.2.2.2.2.2.2.2.2.2.2.2.2.2.2.2.2.2.2.1, o_3.2.2.2.2.2.2.2.2.2.2.2.2.2.2.2.2.2.2.2.2.2.2.2.2.2.2))
def fX9_bestBack_J49 (k18 : Int32 → Int32 → Int32 → Int32 → (Nat → Int32) → (Nat → Int32) → (Nat → Int32) → (Nat → Int32) → Int32 → (Nat → Int32) → Int32 → (Nat → Int32) → (Nat → Int32) → (Nat → Int32) → (Nat → Int32) → (Nat → Int32) → (Nat → Int32) → (Nat → Int32) → (Nat → Int32) → Int32 → Int32 → (Nat → Int32) → (Nat → Int32) → Int32 → Int32 → Int32 → (Nat → Nat → Int32) → (Nat → Int32) → (Nat → Int32) → Option (Int32 × Int32 × (Nat → Int32) × (Nat → Int32) × (Nat → Int32) × (Nat → Int32) × Int32 × (Nat → Int32) × Int32 × (Nat → Int32) × (Nat → Int32) × (Nat → Int32) × (Nat → Int32) × (Nat → Int32) × (Nat → Int32) × (Nat → Int32) × (Nat → Int32) × Int32 × Int32 × (Nat → Int32) × (Nat → Int32) × Int32 × Int32 × Int32 × (Nat → Nat → Int32) × (Nat → Int32) × (Nat → Int32))) (v1 : Int32) (v2 : Int32) (v3 : Int32) (t_guests : Int32) (t_kinds : Nat → Int32) (t_figures : Nat → Int32) (t_minutes : Nat → Int32) (t_settings : Nat → Int32) (t_hooks : Int32) (t_letters : Nat → Int32) (t_letterCount : Int32) (m_order : Nat → Int32) (m_weights : Nat → Int32) (m_black : Nat → Int32) (m_lifts : Nat → Int32) (m_begins : Nat → Int32) (m_ends : Nat → Int32) (m_has : Nat → Int32) (m_lifted : Nat → Int32) (m_allLifts : Int32) (m_doneAt : Int32) (z_going : Nat → Int32) (z_coming : Nat → Int32) (z_holds : Int32) (z_latest : Int32) (c_heaps : Int32) (c_piles : Nat → Nat → Int32) (c_heights : Nat → Int32) (c_spots : Nat → Int32) : Option (Int32 × Int32 × (Nat → Int32) × (Nat → Int32) × (Nat → Int32) × (Nat → Int32) × Int32 × (Nat → Int32) × Int32 × (Nat → Int32) × (Nat → Int32) × (Nat → Int32) × (Nat → Int32) × (Nat → Int32) × (Nat → Int32) × (Nat → Int32) × (Nat → Int32) × Int32 × Int32 × (Nat → Int32) × (Nat → Int32) × Int32 × Int32 × Int32 × (Nat → Nat → Int32) × (Nat → Int32) × (Nat → Int32)) :=
  zlet (v3 + 1) fun v3_5 =>
  k18 v1 v2 v3_5 t_guests t_kinds t_figures t_minutes t_settings t_hooks t_letters t_letterCount m_order m_weights m_black m_lifts m_begins m_ends m_has m_lifted m_allLifts m_doneAt z_going z_coming z_holds z_latest c_heaps c_piles c_heights c_spots
def fX9_bestBack_L18 (fuel : Nat) (d_guests : Int32) (d_kinds : Nat → Int32) (d_figures : Nat → Int32) (d_minutes : Nat → Int32) (d_settings : Nat → Int32) (d_hooks : Int32) (d_letters : Nat → Int32) (d_letterCount : Int32) : Nat → Int32 → Int32 → Int32 → Int32 → (Nat → Int32) → (Nat → Int32) → (Nat → Int32) → (Nat → Int32) → Int32 → (Nat → Int32) → Int32 → (Nat → Int32) → (Nat → Int32) → (Nat → Int32) → (Nat → Int32) → (Nat → Int32) → (Nat → Int32) → (Nat → Int32) → (Nat → Int32) → Int32 → Int32 → (Nat → Int32) → (Nat → Int32) → Int32 → Int32 → Int32 → (Nat → Nat → Int32) → (Nat → Int32) → (Nat → Int32) → Option (Int32 × Int32 × (Nat → Int32) × (Nat → Int32) × (Nat → Int32) × (Nat → Int32) × Int32 × (Nat → Int32) × Int32 × (Nat → Int32) × (Nat → Int32) × (Nat → Int32) × (Nat → Int32) × (Nat → Int32) × (Nat → Int32) × (Nat → Int32) × (Nat → Int32) × Int32 × Int32 × (Nat → Int32) × (Nat → Int32) × Int32 × Int32 × Int32 × (Nat → Nat → Int32) × (Nat → Int32) × (Nat → Int32))
  | 0, _, _, _, _, _, _, _, _, _, _, _, _, _, _, _, _, _, _, _, _, _, _, _, _, _, _, _, _, _ => none
  | n + 1, v1, v2, v3, t_guests, t_kinds, t_figures, t_minutes, t_settings, t_hooks, t_letters, t_letterCount, m_order, m_weights, m_black, m_lifts, m_begins, m_ends, m_has, m_lifted, m_allLifts, m_doneAt, z_going, z_coming, z_holds, z_latest, c_heaps, c_piles, c_heights, c_spots =>
    if 2 < v3 then (
      some (v1, t_guests, t_kinds, t_figures, t_minutes, t_settings, t_hooks, t_letters, t_letterCount, m_order, m_weights, m_black, m_lifts, m_begins, m_ends, m_has, m_lifted, m_allLifts, m_doneAt, z_going, z_coming, z_holds, z_latest, c_heaps, c_piles, c_heights, c_spots))
    else (
      (fX8_liftsWith fuel t_guests t_kinds t_figures t_minutes t_settings t_hooks t_letters t_letterCount m_order m_weights m_black m_lifts m_begins m_ends m_has m_lifted m_allLifts m_doneAt z_going z_coming z_holds z_latest c_heaps c_piles c_heights c_spots d_guests d_kinds d_figures d_minutes d_settings d_hooks d_letters d_letterCount 2 v3).bind fun o_3 =>
      if v2 ≤ o_3.1 then (
        fX9_bestBack_J49 (fX9_bestBack_L18 fuel d_guests d_kinds d_figures d_minutes d_settings d_hooks d_letters d_letterCount n) v1 v2 v3 o_3.2.1 o_3.2.2.1 o_3.2.2.2.1 o_3.2.2.2.2.1 o_3.2.2.2.2.2.1 o_3.2.2.2.2.2.2.1 o_3.2.2.2.2.2.2.2.1 o_3.2.2.2.2.2.2.2.2.1 o_3.2.2.2.2.2.2.2.2.2.1 o_3.2.2.2.2.2.2.2.2.2.2.1 o_3.2.2.2.2.2.2.2.2.2.2.2.1 o_3.2.2.2.2.2.2.2.2.2.2.2.2.1 o_3.2.2.2.2.2.2.2.2.2.2.2.2.2.1 o_3.2.2.2.2.2.2.2.2.2.2.2.2.2.2.1 o_3.2.2.2.2.2.2.2.2.2.2.2.2.2.2.2.1 o_3.2.2.2.2.2.2.2.2.2.2.2.2.2.2.2.2.1 o_3.2.2.2.2.2.2.2.2.2.2.2.2.2.2.2.2.2.1 o_3.2.2.2.2.2.2.2.2.2.2.2.2.2.2.2.2.2.2.1 o_3.2.2.2.2.2.2.2.2.2.2.2.2.2.2.2.2.2.2.2.1 o_3.2.2.2.2.2.2.2.2.2.2.2.2.2.2.2.2.2.2.2.2.1 o_3.2.2.2.2.2.2.2.2.2.2.2.2.2.2.2.2.2.2.2.2.2.1 o_3.2.2.2.2.2.2.2.2.2.2.2.2.2.2.2.2.2.2.2.2.2.2.1 o_3.2.2.2.2.2.2.2.2.2.2.2.2.2.2.2.2.2.2.2.2.2.2.2.1 o_3.2.2.2.2.2.2.2.2.2.2.2.2.2.2.2.2.2.2.2.2.2.2.2.2.1 o_3.2.2.2.2.2.2.2.2.2.2.2.2.2.2.2.2.2.2.2.2.2.2.2.2.2.1 o_3.2.2.2.2.2.2.2.2.2.2.2.2.2.2.2.2.2.2.2.2.2.2.2.2.2.2)
      else (
        fX9_bestBack_J49 (fX9_bestBack_L18 fuel d_guests d_kinds d_figures d_minutes d_settings d_hooks d_letters d_letterCount n) v3 o_3.1 v3 o_3.2.1 o_3.2.2.1 o_3.2.2.2.1 o_3.2.2.2.2.1 o_3.2.2.2.2.2.1 o_3.2.2.2.2.2.2.1 o_3.2.2.2.2.2.2.2.1 o_3.2.2.2.2.2.2.2.2.1 o_3.2.2.2.2.2.2.2.2.2.1 o_3.2.2.2.2.2.2.2.2.2.2.1 o_3.2.2.2.2.2.2.2.2.2.2.2.1 o_3.2.2.2.2.2.2.2.2.2.2.2.2.1 o_3.2.2.2.2.2.2.2.2.2.2.2.2.2.1 o_3.2.2.2.2.2.2.2.2.2.2.2.2.2.2.1 o_3.2.2.2.2.2.2.2.2.2.2.2.2.2.2.2.1 o_3.2.2.2.2.2.2.2.2.2.2.2.2.2.2.2.2.1 o_3.2.2.2.2.2.2.2.2.2.2.2.2.2.2.2.2.2.1 o_3.2.2.2.2.2.2.2.2.2.2.2.2.2.2.2.2.2.2.1 o_3.2.2.2.2.2.2.2.2.2.2.2.2.2.2.2.2.2.2.2.1 o_3.2.2.2.2.2.2.2.2.2.2.2.2.2.2.2.2.2.2.2.2.1 o_3.2.2.2.2.2.2.2.2.2.2.2.2.2.2.2.2.2.2.2.2.2.1 o_3.2.2.2.2.2.2.2.2.2.2.2.2.2.2.2.2.2.2.2.2.2.2.1 o_3.2.2.2.2.2.2.2.2.2.2.2.2.2.2.2.2.2.2.2.2.2.2.2.1 o_3.2.2.2.2.2.2.2.2.2.2.2.2.2.2.2.2.2.2.2.2.2.2.2.2.1 o_3.2.2.2.2.2.2.2.2.2.2.2.2.2.2.2.2.2.2.2.2.2.2.2.2.2.1 o_3.2.2.2.2.2.2.2.2.2.2.2.2.2.2.2.2.2.2.2.2.2.2.2.2.2.2))
def fX9_bestBack (fuel : Nat) (d_guests : Int32) (d_kinds : Nat → Int32) (d_figures : Nat → Int32) (d_minutes : Nat → Int32) (d_settings : Nat → Int32) (d_hooks : Int32) (d_letters : Nat → Int32) (d_letterCount : Int32) (t_guests : Int32) (t_kinds : Nat → Int32) (t_figures : Nat → Int32) (t_minutes : Nat → Int32) (t_settings : Nat → Int32) (t_hooks : Int32) (t_letters : Nat → Int32) (t_letterCount : Int32) (m_order : Nat → Int32) (m_weights : Nat → Int32) (m_black : Nat → Int32) (m_lifts : Nat → Int32) (m_begins : Nat → Int32) (m_ends : Nat → Int32) (m_has : Nat → Int32) (m_lifted : Nat → Int32) (m_allLifts : Int32) (m_doneAt : Int32) (z_going : Nat → Int32) (z_coming : Nat → Int32) (z_holds : Int32) (z_latest : Int32) (c_heaps : Int32) (c_piles : Nat → Nat → Int32) (c_heights : Nat → Int32) (c_spots : Nat → Int32) : Option (Int32 × Int32 × (Nat → Int32) × (Nat → Int32) × (Nat → Int32) × (Nat → Int32) × Int32 × (Nat → Int32) × Int32 × (Nat → Int32) × (Nat → Int32) × (Nat → Int32) × (Nat → Int32) × (Nat → Int32) × (Nat → Int32) × (Nat → Int32) × (Nat → Int32) × Int32 × Int32 × (Nat → Int32) × (Nat → Int32) × Int32 × Int32 × Int32 × (Nat → Nat → Int32) × (Nat → Int32) × (Nat → Int32)) :=
  (fX8_liftsWith fuel t_guests t_kinds t_figures t_minutes t_settings t_hooks t_letters t_letterCount m_order m_weights m_black m_lifts m_begins m_ends m_has m_lifted m_allLifts m_doneAt z_going z_coming z_holds z_latest c_heaps c_piles c_heights c_spots d_guests d_kinds d_figures d_minutes d_settings d_hooks d_letters d_letterCount 2 0).bind fun o_1 =>
  fX9_bestBack_L18 fuel d_guests d_kinds d_figures d_minutes d_settings d_hooks d_letters d_letterCount fuel 0 o_1.1 1 o_1.2.1 o_1.2.2.1 o_1.2.2.2.1 o_1.2.2.2.2.1 o_1.2.2.2.2.2.1 o_1.2.2.2.2.2.2.1 o_1.2.2.2.2.2.2.2.1 o_1.2.2.2.2.2.2.2.2.1 o_1.2.2.2.2.2.2.2.2.2.1 o_1.2.2.2.2.2.2.2.2.2.2.1 o_1.2.2.2.2.2.2.2.2.2.2.2.1 o_1.2.2.2.2.2.2.2.2.2.2.2.2.1 o_1.2.2.2.2.2.2.2.2.2.2.2.2.2.1 o_1.2.2.2.2.2.2.2.2.2.2.2.2.2.2.1 o_1.2.2.2.2.2.2.2.2.2.2.2.2.2.2.2.1 o_1.2.2.2.2.2.2.2.2.2.2.2.2.2.2.2.2.1 o_1.2.2.2.2.2.2.2.2.2.2.2.2.2.2.2.2.2.1 o_1.2.2.2.2.2.2.2.2.2.2.2.2.2.2.2.2.2.2.1 o_1.2.2.2.2.2.2.2.2.2.2.2.2.2.2.2.2.2.2.2.1 o_1.2.2.2.2.2.2.2.2.2.2.2.2.2.2.2.2.2.2.2.2.1 o_1.2.2.2.2.2.2.2.2.2.2.2.2.2.2.2.2.2.2.2.2.2.1 o_1.2.2.2.2.2.2.2.2.2.2.2.2.2.2.2.2.2.2.2.2.2.2.1 o_1.2.2.2.2.2.2.2.2.2.2.2.2.2.2.2.2.2.2.2.2.2.2.2.1 o_1.2.2.2.2.2.2.2.2.2.2.2.2.2.2.2.2.2.2.2.2.2.2.2.2.1 o_1.2.2.2.2.2.2.2.2.2.2.2.2.2.2.2.2.2.2.2.2.2.2.2.2.2.1 o_1.2.2.2.2.2.2.2.2.2.2.2.2.2.2.2.2.2.2.2.2.2.2.2.2.2.2
def fX9_whom (fuel : Nat) (d_guests : Int32) (d_kinds : Nat → Int32) (d_figures : Nat → Int32) (d_minutes : Nat → Int32) (d_settings : Nat → Int32) (d_hooks : Int32) (d_letters : Nat → Int32) (d_letterCount : Int32) (q_found : Int32) (q_foundLifts : Int32) (t_guests : Int32) (t_kinds : Nat → Int32) (t_figures : Nat → Int32) (t_minutes : Nat → Int32) (t_settings : Nat → Int32) (t_hooks : Int32) (t_letters : Nat → Int32) (t_letterCount : Int32) (m_room : Nat) (m_order : Nat → Int32) (m_weights : Nat → Int32) (m_black : Nat → Int32) (m_lifts : Nat → Int32) (m_begins : Nat → Int32) (m_ends : Nat → Int32) (m_has : Nat → Int32) (m_lifted : Nat → Int32) (m_allLifts : Int32) (m_doneAt : Int32) (z_going : Nat → Int32) (z_coming : Nat → Int32) (z_holds : Int32) (z_latest : Int32) (c_heaps : Int32) (c_piles : Nat → Nat → Int32) (c_heights : Nat → Int32) (c_spots : Nat → Int32) (ad_t : Nat → Nat) (p1 : Int32) (p2 : Int32) : Option (Int32 × Int32 × Int32 × Int32 × (Nat → Int32) × (Nat → Int32) × (Nat → Int32) × (Nat → Int32) × Int32 × (Nat → Int32) × Int32 × Nat × (Nat → Int32) × (Nat → Int32) × (Nat → Int32) × (Nat → Int32) × (Nat → Int32) × (Nat → Int32) × (Nat → Int32) × (Nat → Int32) × Int32 × Int32 × (Nat → Int32) × (Nat → Int32) × Int32 × Int32 × Int32 × (Nat → Nat → Int32) × (Nat → Int32) × (Nat → Int32)) :=
  (fX9_areHooks fuel d_guests p1).bind fun o_1 =>
  if o_1 = 0 then (
    some ((-1), q_found, q_foundLifts, t_guests, t_kinds, t_figures, t_minutes, t_settings, t_hooks, t_letters, t_letterCount, m_room, m_order, m_weights, m_black, m_lifts, m_begins, m_ends, m_has, m_lifted, m_allLifts, m_doneAt, z_going, z_coming, z_holds, z_latest, c_heaps, c_piles, c_heights, c_spots))
  else (
    (fX9_isFirstOrSecond fuel p2).bind fun o_3 =>
    if o_3 = 0 then (
      some ((-1), q_found, q_foundLifts, t_guests, t_kinds, t_figures, t_minutes, t_settings, t_hooks, t_letters, t_letterCount, m_room, m_order, m_weights, m_black, m_lifts, m_begins, m_ends, m_has, m_lifted, m_allLifts, m_doneAt, z_going, z_coming, z_holds, z_latest, c_heaps, c_piles, c_heights, c_spots))
    else (
      (fX8_tryHooks fuel q_found q_foundLifts t_guests t_kinds t_figures t_minutes t_settings t_hooks t_letters t_letterCount m_room m_order m_weights m_black m_lifts m_begins m_ends m_has m_lifted m_allLifts m_doneAt z_going z_coming z_holds z_latest c_heaps c_piles c_heights c_spots d_guests d_kinds d_figures d_minutes d_settings d_hooks d_letters d_letterCount ad_t p1).bind fun o_5 =>
      if p2 = 0 then (
        some (o_5.1, o_5.1, o_5.2.1, o_5.2.2.1, o_5.2.2.2.1, o_5.2.2.2.2.1, o_5.2.2.2.2.2.1, o_5.2.2.2.2.2.2.1, o_5.2.2.2.2.2.2.2.1, o_5.2.2.2.2.2.2.2.2.1, o_5.2.2.2.2.2.2.2.2.2.1, o_5.2.2.2.2.2.2.2.2.2.2.1, o_5.2.2.2.2.2.2.2.2.2.2.2.1, o_5.2.2.2.2.2.2.2.2.2.2.2.2.1, o_5.2.2.2.2.2.2.2.2.2.2.2.2.2.1, o_5.2.2.2.2.2.2.2.2.2.2.2.2.2.2.1, o_5.2.2.2.2.2.2.2.2.2.2.2.2.2.2.2.1, o_5.2.2.2.2.2.2.2.2.2.2.2.2.2.2.2.2.1, o_5.2.2.2.2.2.2.2.2.2.2.2.2.2.2.2.2.2.1, o_5.2.2.2.2.2.2.2.2.2.2.2.2.2.2.2.2.2.2.1, o_5.2.2.2.2.2.2.2.2.2.2.2.2.2.2.2.2.2.2.2.1, o_5.2.2.2.2.2.2.2.2.2.2.2.2.2.2.2.2.2.2.2.2.1, o_5.2.2.2.2.2.2.2.2.2.2.2.2.2.2.2.2.2.2.2.2.2.1, o_5.2.2.2.2.2.2.2.2.2.2.2.2.2.2.2.2.2.2.2.2.2.2.1, o_5.2.2.2.2.2.2.2.2.2.2.2.2.2.2.2.2.2.2.2.2.2.2.2.1, o_5.2.2.2.2.2.2.2.2.2.2.2.2.2.2.2.2.2.2.2.2.2.2.2.2.1, o_5.2.2.2.2.2.2.2.2.2.2.2.2.2.2.2.2.2.2.2.2.2.2.2.2.2.1, o_5.2.2.2.2.2.2.2.2.2.2.2.2.2.2.2.2.2.2.2.2.2.2.2.2.2.2.1, o_5.2.2.2.2.2.2.2.2.2.2.2.2.2.2.2.2.2.2.2.2.2.2.2.2.2.2.2.1, o_5.2.2.2.2.2.2.2.2.2.2.2.2.2.2.2.2.2.2.2.2.2.2.2.2.2.2.2.2))
      else (
        some (o_5.2.1, o_5.1, o_5.2.1, o_5.2.2.1, o_5.2.2.2.1, o_5.2.2.2.2.1, o_5.2.2.2.2.2.1, o_5.2.2.2.2.2.2.1, o_5.2.2.2.2.2.2.2.1, o_5.2.2.2.2.2.2.2.2.1, o_5.2.2.2.2.2.2.2.2.2.1, o_5.2.2.2.2.2.2.2.2.2.2.1, o_5.2.2.2.2.2.2.2.2.2.2.2.1, o_5.2.2.2.2.2.2.2.2.2.2.2.2.1, o_5.2.2.2.2.2.2.2.2.2.2.2.2.2.1, o_5.2.2.2.2.2.2.2.2.2.2.2.2.2.2.1, o_5.2.2.2.2.2.2.2.2.2.2.2.2.2.2.2.1, o_5.2.2.2.2.2.2.2.2.2.2.2.2.2.2.2.2.1, o_5.2.2.2.2.2.2.2.2.2.2.2.2.2.2.2.2.2.1, o_5.2.2.2.2.2.2.2.2.2.2.2.2.2.2.2.2.2.2.1, o_5.2.2.2.2.2.2.2.2.2.2.2.2.2.2.2.2.2.2.2.1, o_5.2.2.2.2.2.2.2.2.2.2.2.2.2.2.2.2.2.2.2.2.1, o_5.2.2.2.2.2.2.2.2.2.2.2.2.2.2.2.2.2.2.2.2.2.1, o_5.2.2.2.2.2.2.2.2.2.2.2.2.2.2.2.2.2.2.2.2.2.2.1, o_5.2.2.2.2.2.2.2.2.2.2.2.2.2.2.2.2.2.2.2.2.2.2.2.1, o_5.2.2.2.2.2.2.2.2.2.2.2.2.2.2.2.2.2.2.2.2.2.2.2.2.1, o_5.2.2.2.2.2.2.2.2.2.2.2.2.2.2.2.2.2.2.2.2.2.2.2.2.2.1, o_5.2.2.2.2.2.2.2.2.2.2.2.2.2.2.2.2.2.2.2.2.2.2.2.2.2.2.1, o_5.2.2.2.2.2.2.2.2.2.2.2.2.2.2.2.2.2.2.2.2.2.2.2.2.2.2.2.1, o_5.2.2.2.2.2.2.2.2.2.2.2.2.2.2.2.2.2.2.2.2.2.2.2.2.2.2.2.2))))
def fX9_worth (fuel : Nat) (d_guests : Int32) (d_kinds : Nat → Int32) (d_figures : Nat → Int32) (d_minutes : Nat → Int32) (d_settings : Nat → Int32) (d_hooks : Int32) (d_letters : Nat → Int32) (d_letterCount : Int32) (q_found : Int32) (q_foundLifts : Int32) (t_guests : Int32) (t_kinds : Nat → Int32) (t_figures : Nat → Int32) (t_minutes : Nat → Int32) (t_settings : Nat → Int32) (t_hooks : Int32) (t_letters : Nat → Int32) (t_letterCount : Int32) (m_room : Nat) (m_order : Nat → Int32) (m_weights : Nat → Int32) (m_black : Nat → Int32) (m_lifts : Nat → Int32) (m_begins : Nat → Int32) (m_ends : Nat → Int32) (m_has : Nat → Int32) (m_lifted : Nat → Int32) (m_allLifts : Int32) (m_doneAt : Int32) (z_going : Nat → Int32) (z_coming : Nat → Int32) (z_holds : Int32) (z_latest : Int32) (c_heaps : Int32) (c_piles : Nat → Nat → Int32) (c_heights : Nat → Int32) (c_spots : Nat → Int32) (ad_t : Nat → Nat) (p1 : Int32) : Option (Int32 × Int32 × Int32 × Int32 × (Nat → Int32) × (Nat → Int32) × (Nat → Int32) × (Nat → Int32) × Int32 × (Nat → Int32) × Int32 × Nat × (Nat → Int32) × (Nat → Int32) × (Nat → Int32) × (Nat → Int32) × (Nat → Int32) × (Nat → Int32) × (Nat → Int32) × (Nat → Int32) × Int32 × Int32 × (Nat → Int32) × (Nat → Int32) × Int32 × Int32 × Int32 × (Nat → Nat → Int32) × (Nat → Int32) × (Nat → Int32)) :=
  (fX9_areHooks fuel d_guests p1).bind fun o_1 =>
  if o_1 = 0 then (
    some ((-1), q_found, q_foundLifts, t_guests, t_kinds, t_figures, t_minutes, t_settings, t_hooks, t_letters, t_letterCount, m_room, m_order, m_weights, m_black, m_lifts, m_begins, m_ends, m_has, m_lifted, m_allLifts, m_doneAt, z_going, z_coming, z_holds, z_latest, c_heaps, c_piles, c_heights, c_spots))
  else (
    (fX8_tryHooks fuel q_found q_foundLifts t_guests t_kinds t_figures t_minutes t_settings t_hooks t_letters t_letterCount m_room m_order m_weights m_black m_lifts m_begins m_ends m_has m_lifted m_allLifts m_doneAt z_going z_coming z_holds z_latest c_heaps c_piles c_heights c_spots d_guests d_kinds d_figures d_minutes d_settings d_hooks d_letters d_letterCount ad_t 0).bind fun o_3 =>
    (fX8_tryHooks fuel o_3.1 o_3.2.1 o_3.2.2.1 o_3.2.2.2.1 o_3.2.2.2.2.1 o_3.2.2.2.2.2.1 o_3.2.2.2.2.2.2.1 o_3.2.2.2.2.2.2.2.1 o_3.2.2.2.2.2.2.2.2.1 o_3.2.2.2.2.2.2.2.2.2.1 o_3.2.2.2.2.2.2.2.2.2.2.1 o_3.2.2.2.2.2.2.2.2.2.2.2.1 o_3.2.2.2.2.2.2.2.2.2.2.2.2.1 o_3.2.2.2.2.2.2.2.2.2.2.2.2.2.1 o_3.2.2.2.2.2.2.2.2.2.2.2.2.2.2.1 o_3.2.2.2.2.2.2.2.2.2.2.2.2.2.2.2.1 o_3.2.2.2.2.2.2.2.2.2.2.2.2.2.2.2.2.1 o_3.2.2.2.2.2.2.2.2.2.2.2.2.2.2.2.2.2.1 o_3.2.2.2.2.2.2.2.2.2.2.2.2.2.2.2.2.2.2.1 o_3.2.2.2.2.2.2.2.2.2.2.2.2.2.2.2.2.2.2.2.1 o_3.2.2.2.2.2.2.2.2.2.2.2.2.2.2.2.2.2.2.2.2.1 o_3.2.2.2.2.2.2.2.2.2.2.2.2.2.2.2.2.2.2.2.2.2.1 o_3.2.2.2.2.2.2.2.2.2.2.2.2.2.2.2.2.2.2.2.2.2.2.1 o_3.2.2.2.2.2.2.2.2.2.2.2.2.2.2.2.2.2.2.2.2.2.2.2.1 o_3.2.2.2.2.2.2.2.2.2.2.2.2.2.2.2.2.2.2.2.2.2.2.2.2.1 o_3.2.2.2.2.2.2.2.2.2.2.2.2.2.2.2.2.2.2.2.2.2.2.2.2.2.1 o_3.2.2.2.2.2.2.2.2.2.2.2.2.2.2.2.2.2.2.2.2.2.2.2.2.2.2.1 o_3.2.2.2.2.2.2.2.2.2.2.2.2.2.2.2.2.2.2.2.2.2.2.2.2.2.2.2.1 o_3.2.2.2.2.2.2.2.2.2.2.2.2.2.2.2.2.2.2.2.2.2.2.2.2.2.2.2.2 d_guests d_kinds d_figures d_minutes d_settings d_hooks d_letters d_letterCount ad_t p1).bind fun o_4 =>
    zlet ((zmax 0 (o_3.2.1 - o_4.2.1))) fun x_5 =>
    some (x_5, o_4.1, o_4.2.1, o_4.2.2.1, o_4.2.2.2.1, o_4.2.2.2.2.1, o_4.2.2.2.2.2.1, o_4.2.2.2.2.2.2.1, o_4.2.2.2.2.2.2.2.1, o_4.2.2.2.2.2.2.2.2.1, o_4.2.2.2.2.2.2.2.2.2.1, o_4.2.2.2.2.2.2.2.2.2.2.1, o_4.2.2.2.2.2.2.2.2.2.2.2.1, o_4.2.2.2.2.2.2.2.2.2.2.2.2.1, o_4.2.2.2.2.2.2.2.2.2.2.2.2.2.1, o_4.2.2.2.2.2.2.2.2.2.2.2.2.2.2.1, o_4.2.2.2.2.2.2.2.2.2.2.2.2.2.2.2.1, o_4.2.2.2.2.2.2.2.2.2.2.2.2.2.2.2.2.1, o_4.2.2.2.2.2.2.2.2.2.2.2.2.2.2.2.2.2.1, o_4.2.2.2.2.2.2.2.2.2.2.2.2.2.2.2.2.2.2.1, o_4.2.2.2.2.2.2.2.2.2.2.2.2.2.2.2.2.2.2.2.1, o_4.2.2.2.2.2.2.2.2.2.2.2.2.2.2.2.2.2.2.2.2.1, o_4.2.2.2.2.2.2.2.2.2.2.2.2.2.2.2.2.2.2.2.2.2.1, o_4.2.2.2.2.2.2.2.2.2.2.2.2.2.2.2.2.2.2.2.2.2.2.1, o_4.2.2.2.2.2.2.2.2.2.2.2.2.2.2.2.2.2.2.2.2.2.2.2.1, o_4.2.2.2.2.2.2.2.2.2.2.2.2.2.2.2.2.2.2.2.2.2.2.2.2.1, o_4.2.2.2.2.2.2.2.2.2.2.2.2.2.2.2.2.2.2.2.2.2.2.2.2.2.1, o_4.2.2.2.2.2.2.2.2.2.2.2.2.2.2.2.2.2.2.2.2.2.2.2.2.2.2.1, o_4.2.2.2.2.2.2.2.2.2.2.2.2.2.2.2.2.2.2.2.2.2.2.2.2.2.2.2.1, o_4.2.2.2.2.2.2.2.2.2.2.2.2.2.2.2.2.2.2.2.2.2.2.2.2.2.2.2.2))
def fX9_enough_L15 (fuel : Nat) (d_guests : Int32) (d_kinds : Nat → Int32) (d_figures : Nat → Int32) (d_minutes : Nat → Int32) (d_settings : Nat → Int32) (d_hooks : Int32) (d_letters : Nat → Int32) (d_letterCount : Int32) (ad_t : Nat → Nat) (p1 : Int32) : Nat → Int32 → Int32 → (Nat → Int32) → (Nat → Int32) → (Nat → Int32) → (Nat → Int32) → Int32 → (Nat → Int32) → Int32 → (Nat → Int32) → (Nat → Int32) → (Nat → Int32) → (Nat → Int32) → (Nat → Int32) → (Nat → Int32) → (Nat → Int32) → (Nat → Int32) → Int32 → Int32 → (Nat → Int32) → (Nat → Int32) → Int32 → Int32 → Int32 → (Nat → Nat → Int32) → (Nat → Int32) → (Nat → Int32) → Nat → Option (Int32 × Int32 × (Nat → Int32) × (Nat → Int32) × (Nat → Int32) × (Nat → Int32) × Int32 × (Nat → Int32) × Int32 × Nat × (Nat → Int32) × (Nat → Int32) × (Nat → Int32) × (Nat → Int32) × (Nat → Int32) × (Nat → Int32) × (Nat → Int32) × (Nat → Int32) × Int32 × Int32 × (Nat → Int32) × (Nat → Int32) × Int32 × Int32 × Int32 × (Nat → Nat → Int32) × (Nat → Int32) × (Nat → Int32))
  | 0, _, _, _, _, _, _, _, _, _, _, _, _, _, _, _, _, _, _, _, _, _, _, _, _, _, _, _, _ => none
  | n + 1, v2, t_guests, t_kinds, t_figures, t_minutes, t_settings, t_hooks, t_letters, t_letterCount, m_order, m_weights, m_black, m_lifts, m_begins, m_ends, m_has, m_lifted, m_allLifts, m_doneAt, z_going, z_coming, z_holds, z_latest, c_heaps, c_piles, c_heights, c_spots, m_room =>
    if 3 < v2 then (
      some ((-4), t_guests, t_kinds, t_figures, t_minutes, t_settings, t_hooks, t_letters, t_letterCount, m_room, m_order, m_weights, m_black, m_lifts, m_begins, m_ends, m_has, m_lifted, m_allLifts, m_doneAt, z_going, z_coming, z_holds, z_latest, c_heaps, c_piles, c_heights, c_spots))
    else (
      (fX8_liftsWith fuel t_guests t_kinds t_figures t_minutes t_settings t_hooks t_letters t_letterCount m_order m_weights m_black m_lifts m_begins m_ends m_has m_lifted m_allLifts m_doneAt z_going z_coming z_holds z_latest c_heaps c_piles c_heights c_spots d_guests d_kinds d_figures d_minutes d_settings d_hooks d_letters d_letterCount 0 v2).bind fun o_4 =>
      if p1 < o_4.1 then (
        zlet (v2 + 1) fun v2_6 =>
        fX9_enough_L15 fuel d_guests d_kinds d_figures d_minutes d_settings d_hooks d_letters d_letterCount ad_t p1 n v2_6 o_4.2.1 o_4.2.2.1 o_4.2.2.2.1 o_4.2.2.2.2.1 o_4.2.2.2.2.2.1 o_4.2.2.2.2.2.2.1 o_4.2.2.2.2.2.2.2.1 o_4.2.2.2.2.2.2.2.2.1 o_4.2.2.2.2.2.2.2.2.2.1 o_4.2.2.2.2.2.2.2.2.2.2.1 o_4.2.2.2.2.2.2.2.2.2.2.2.1 o_4.2.2.2.2.2.2.2.2.2.2.2.2.1 o_4.2.2.2.2.2.2.2.2.2.2.2.2.2.1 o_4.2.2.2.2.2.2.2.2.2.2.2.2.2.2.1 o_4.2.2.2.2.2.2.2.2.2.2.2.2.2.2.2.1 o_4.2.2.2.2.2.2.2.2.2.2.2.2.2.2.2.2.1 o_4.2.2.2.2.2.2.2.2.2.2.2.2.2.2.2.2.2.1 o_4.2.2.2.2.2.2.2.2.2.2.2.2.2.2.2.2.2.2.1 o_4.2.2.2.2.2.2.2.2.2.2.2.2.2.2.2.2.2.2.2.1 o_4.2.2.2.2.2.2.2.2.2.2.2.2.2.2.2.2.2.2.2.2.1 o_4.2.2.2.2.2.2.2.2.2.2.2.2.2.2.2.2.2.2.2.2.2.1 o_4.2.2.2.2.2.2.2.2.2.2.2.2.2.2.2.2.2.2.2.2.2.2.1 o_4.2.2.2.2.2.2.2.2.2.2.2.2.2.2.2.2.2.2.2.2.2.2.2.1 o_4.2.2.2.2.2.2.2.2.2.2.2.2.2.2.2.2.2.2.2.2.2.2.2.2.1 o_4.2.2.2.2.2.2.2.2.2.2.2.2.2.2.2.2.2.2.2.2.2.2.2.2.2.1 o_4.2.2.2.2.2.2.2.2.2.2.2.2.2.2.2.2.2.2.2.2.2.2.2.2.2.2 (ad_t 0))
      else (
        some (v2, o_4.2.1, o_4.2.2.1, o_4.2.2.2.1, o_4.2.2.2.2.1, o_4.2.2.2.2.2.1, o_4.2.2.2.2.2.2.1, o_4.2.2.2.2.2.2.2.1, o_4.2.2.2.2.2.2.2.2.1, (ad_t 0), o_4.2.2.2.2.2.2.2.2.2.1, o_4.2.2.2.2.2.2.2.2.2.2.1, o_4.2.2.2.2.2.2.2.2.2.2.2.1, o_4.2.2.2.2.2.2.2.2.2.2.2.2.1, o_4.2.2.2.2.2.2.2.2.2.2.2.2.2.1, o_4.2.2.2.2.2.2.2.2.2.2.2.2.2.2.1, o_4.2.2.2.2.2.2.2.2.2.2.2.2.2.2.2.1, o_4.2.2.2.2.2.2.2.2.2.2.2.2.2.2.2.2.1, o_4.2.2.2.2.2.2.2.2.2.2.2.2.2.2.2.2.2.1, o_4.2.2.2.2.2.2.2.2.2.2.2.2.2.2.2.2.2.2.1, o_4.2.2.2.2.2.2.2.2.2.2.2.2.2.2.2.2.2.2.2.1, o_4.2.2.2.2.2.2.2.2.2.2.2.2.2.2.2.2.2.2.2.2.1, o_4.2.2.2.2.2.2.2.2.2.2.2.2.2.2.2.2.2.2.2.2.2.1, o_4.2.2.2.2.2.2.2.2.2.2.2.2.2.2.2.2.2.2.2.2.2.2.1, o_4.2.2.2.2.2.2.2.2.2.2.2.2.2.2.2.2.2.2.2.2.2.2.2.1, o_4.2.2.2.2.2.2.2.2.2.2.2.2.2.2.2.2.2.2.2.2.2.2.2.2.1, o_4.2.2.2.2.2.2.2.2.2.2.2.2.2.2.2.2.2.2.2.2.2.2.2.2.2.1, o_4.2.2.2.2.2.2.2.2.2.2.2.2.2.2.2.2.2.2.2.2.2.2.2.2.2.2)))
def fX9_enough (fuel : Nat) (d_guests : Int32) (d_kinds : Nat → Int32) (d_figures : Nat → Int32) (d_minutes : Nat → Int32) (d_settings : Nat → Int32) (d_hooks : Int32) (d_letters : Nat → Int32) (d_letterCount : Int32) (t_guests : Int32) (t_kinds : Nat → Int32) (t_figures : Nat → Int32) (t_minutes : Nat → Int32) (t_settings : Nat → Int32) (t_hooks : Int32) (t_letters : Nat → Int32) (t_letterCount : Int32) (m_room : Nat) (m_order : Nat → Int32) (m_weights : Nat → Int32) (m_black : Nat → Int32) (m_lifts : Nat → Int32) (m_begins : Nat → Int32) (m_ends : Nat → Int32) (m_has : Nat → Int32) (m_lifted : Nat → Int32) (m_allLifts : Int32) (m_doneAt : Int32) (z_going : Nat → Int32) (z_coming : Nat → Int32) (z_holds : Int32) (z_latest : Int32) (c_heaps : Int32) (c_piles : Nat → Nat → Int32) (c_heights : Nat → Int32) (c_spots : Nat → Int32) (ad_t : Nat → Nat) (p1 : Int32) : Option (Int32 × Int32 × (Nat → Int32) × (Nat → Int32) × (Nat → Int32) × (Nat → Int32) × Int32 × (Nat → Int32) × Int32 × Nat × (Nat → Int32) × (Nat → Int32) × (Nat → Int32) × (Nat → Int32) × (Nat → Int32) × (Nat → Int32) × (Nat → Int32) × (Nat → Int32) × Int32 × Int32 × (Nat → Int32) × (Nat → Int32) × Int32 × Int32 × Int32 × (Nat → Nat → Int32) × (Nat → Int32) × (Nat → Int32)) :=
  if p1 < 0 then (
    some ((-1), t_guests, t_kinds, t_figures, t_minutes, t_settings, t_hooks, t_letters, t_letterCount, m_room, m_order, m_weights, m_black, m_lifts, m_begins, m_ends, m_has, m_lifted, m_allLifts, m_doneAt, z_going, z_coming, z_holds, z_latest, c_heaps, c_piles, c_heights, c_spots))
  else (
    if p1 ≤ 999 then (
      fX9_enough_L15 fuel d_guests d_kinds d_figures d_minutes d_settings d_hooks d_letters d_letterCount ad_t p1 fuel 1 t_guests t_kinds t_figures t_minutes t_settings t_hooks t_letters t_letterCount m_order m_weights m_black m_lifts m_begins m_ends m_has m_lifted m_allLifts m_doneAt z_going z_coming z_holds z_latest c_heaps c_piles c_heights c_spots m_room)
    else (
      some ((-1), t_guests, t_kinds, t_figures, t_minutes, t_settings, t_hooks, t_letters, t_letterCount, m_room, m_order, m_weights, m_black, m_lifts, m_begins, m_ends, m_has, m_lifted, m_allLifts, m_doneAt, z_going, z_coming, z_holds, z_latest, c_heaps, c_piles, c_heights, c_spots)))
def fX9_along (fuel : Nat) (d_guests : Int32) (d_kinds : Nat → Int32) (d_figures : Nat → Int32) (d_minutes : Nat → Int32) (d_settings : Nat → Int32) (d_hooks : Int32) (d_letters : Nat → Int32) (d_letterCount : Int32) (q_found : Int32) (q_foundLifts : Int32) (m_room : Nat) (m_order : Nat → Int32) (m_weights : Nat → Int32) (m_black : Nat → Int32) (m_lifts : Nat → Int32) (m_begins : Nat → Int32) (m_ends : Nat → Int32) (m_has : Nat → Int32) (m_lifted : Nat → Int32) (m_allLifts : Int32) (m_doneAt : Int32) (z_going : Nat → Int32) (z_coming : Nat → Int32) (z_holds : Int32) (z_latest : Int32) (c_heaps : Int32) (c_piles : Nat → Nat → Int32) (c_heights : Nat → Int32) (c_spots : Nat → Int32) (ad_d : Nat → Nat) (p1 : Int32) (p2 : Int32) : Option (Int32 × Int32 × Int32 × Nat × (Nat → Int32) × (Nat → Int32) × (Nat → Int32) × (Nat → Int32) × (Nat → Int32) × (Nat → Int32) × (Nat → Int32) × (Nat → Int32) × Int32 × Int32 × (Nat → Int32) × (Nat → Int32) × Int32 × Int32 × Int32 × (Nat → Nat → Int32) × (Nat → Int32) × (Nat → Int32)) :=
  (fX5_hasGuest fuel d_guests p1).bind fun o_1 =>
  if o_1 = 0 then (
    some ((-1), q_found, q_foundLifts, m_room, m_order, m_weights, m_black, m_lifts, m_begins, m_ends, m_has, m_lifted, m_allLifts, m_doneAt, z_going, z_coming, z_holds, z_latest, c_heaps, c_piles, c_heights, c_spots))
  else (
    (fX9_isFirstOrSecond fuel p2).bind fun o_3 =>
    if o_3 = 0 then (
      some ((-1), q_found, q_foundLifts, m_room, m_order, m_weights, m_black, m_lifts, m_begins, m_ends, m_has, m_lifted, m_allLifts, m_doneAt, z_going, z_coming, z_holds, z_latest, c_heaps, c_piles, c_heights, c_spots))
    else (
      (fX8_tryGoingAlong fuel q_found q_foundLifts m_order m_weights m_black m_lifts m_begins m_ends m_has m_lifted m_allLifts m_doneAt z_going z_coming z_holds z_latest c_heaps c_piles c_heights c_spots d_guests d_kinds d_figures d_minutes d_settings d_hooks d_letters d_letterCount p1).bind fun o_5 =>
      if p2 = 0 then (
        some (o_5.1, o_5.1, o_5.2.1, (ad_d 0), o_5.2.2.1, o_5.2.2.2.1, o_5.2.2.2.2.1, o_5.2.2.2.2.2.1, o_5.2.2.2.2.2.2.1, o_5.2.2.2.2.2.2.2.1, o_5.2.2.2.2.2.2.2.2.1, o_5.2.2.2.2.2.2.2.2.2.1, o_5.2.2.2.2.2.2.2.2.2.2.1, o_5.2.2.2.2.2.2.2.2.2.2.2.1, o_5.2.2.2.2.2.2.2.2.2.2.2.2.1, o_5.2.2.2.2.2.2.2.2.2.2.2.2.2.1, o_5.2.2.2.2.2.2.2.2.2.2.2.2.2.2.1, o_5.2.2.2.2.2.2.2.2.2.2.2.2.2.2.2.1, o_5.2.2.2.2.2.2.2.2.2.2.2.2.2.2.2.2.1, o_5.2.2.2.2.2.2.2.2.2.2.2.2.2.2.2.2.2.1, o_5.2.2.2.2.2.2.2.2.2.2.2.2.2.2.2.2.2.2.1, o_5.2.2.2.2.2.2.2.2.2.2.2.2.2.2.2.2.2.2.2))
      else (
        some (o_5.2.1, o_5.1, o_5.2.1, (ad_d 0), o_5.2.2.1, o_5.2.2.2.1, o_5.2.2.2.2.1, o_5.2.2.2.2.2.1, o_5.2.2.2.2.2.2.1, o_5.2.2.2.2.2.2.2.1, o_5.2.2.2.2.2.2.2.2.1, o_5.2.2.2.2.2.2.2.2.2.1, o_5.2.2.2.2.2.2.2.2.2.2.1, o_5.2.2.2.2.2.2.2.2.2.2.2.1, o_5.2.2.2.2.2.2.2.2.2.2.2.2.1, o_5.2.2.2.2.2.2.2.2.2.2.2.2.2.1, o_5.2.2.2.2.2.2.2.2.2.2.2.2.2.2.1, o_5.2.2.2.2.2.2.2.2.2.2.2.2.2.2.2.1, o_5.2.2.2.2.2.2.2.2.2.2.2.2.2.2.2.2.1, o_5.2.2.2.2.2.2.2.2.2.2.2.2.2.2.2.2.2.1, o_5.2.2.2.2.2.2.2.2.2.2.2.2.2.2.2.2.2.2.1, o_5.2.2.2.2.2.2.2.2.2.2.2.2.2.2.2.2.2.2.2))))
def fX9_turn (fuel : Nat) (d_guests : Int32) (d_kinds : Nat → Int32) (d_figures : Nat → Int32) (d_minutes : Nat → Int32) (d_settings : Nat → Int32) (d_hooks : Int32) (d_letters : Nat → Int32) (d_letterCount : Int32) (m_room : Nat) (m_order : Nat → Int32) (m_weights : Nat → Int32) (m_black : Nat → Int32) (m_lifts : Nat → Int32) (m_begins : Nat → Int32) (m_ends : Nat → Int32) (m_has : Nat → Int32) (m_lifted : Nat → Int32) (m_allLifts : Int32) (m_doneAt : Int32) (z_going : Nat → Int32) (z_coming : Nat → Int32) (z_holds : Int32) (z_latest : Int32) (c_heaps : Int32) (c_piles : Nat → Nat → Int32) (c_heights : Nat → Int32) (c_spots : Nat → Int32) (ad_d : Nat → Nat) (p1 : Int32) : Option (Int32 × Nat × (Nat → Int32) × (Nat → Int32) × (Nat → Int32) × (Nat → Int32) × (Nat → Int32) × (Nat → Int32) × (Nat → Int32) × (Nat → Int32) × Int32 × Int32 × (Nat → Int32) × (Nat → Int32) × Int32 × Int32 × Int32 × (Nat → Nat → Int32) × (Nat → Int32) × (Nat → Int32)) :=
  (fX9_isMinute fuel p1).bind fun o_1 =>
  if o_1 = 0 then (
    some ((-1), m_room, m_order, m_weights, m_black, m_lifts, m_begins, m_ends, m_has, m_lifted, m_allLifts, m_doneAt, z_going, z_coming, z_holds, z_latest, c_heaps, c_piles, c_heights, c_spots))
  else (
    (fX8_liftsWithTurn fuel m_order m_weights m_black m_lifts m_begins m_ends m_has m_lifted m_allLifts m_doneAt z_going z_coming z_holds z_latest c_heaps c_piles c_heights c_spots d_guests d_kinds d_figures d_minutes d_settings d_hooks d_letters d_letterCount p1).bind fun o_3 =>
    some (o_3.1, (ad_d 0), o_3.2.1, o_3.2.2.1, o_3.2.2.2.1, o_3.2.2.2.2.1, o_3.2.2.2.2.2.1, o_3.2.2.2.2.2.2.1, o_3.2.2.2.2.2.2.2.1, o_3.2.2.2.2.2.2.2.2.1, o_3.2.2.2.2.2.2.2.2.2.1, o_3.2.2.2.2.2.2.2.2.2.2.1, o_3.2.2.2.2.2.2.2.2.2.2.2.1, o_3.2.2.2.2.2.2.2.2.2.2.2.2.1, o_3.2.2.2.2.2.2.2.2.2.2.2.2.2.1, o_3.2.2.2.2.2.2.2.2.2.2.2.2.2.2.1, o_3.2.2.2.2.2.2.2.2.2.2.2.2.2.2.2.1, o_3.2.2.2.2.2.2.2.2.2.2.2.2.2.2.2.2.1, o_3.2.2.2.2.2.2.2.2.2.2.2.2.2.2.2.2.2.1, o_3.2.2.2.2.2.2.2.2.2.2.2.2.2.2.2.2.2.2))
def fX9_rival (fuel : Nat) (d_guests : Int32) (d_kinds : Nat → Int32) (d_figures : Nat → Int32) (d_minutes : Nat → Int32) (d_settings : Nat → Int32) (d_hooks : Int32) (d_letters : Nat → Int32) (d_letterCount : Int32) (t_guests : Int32) (t_kinds : Nat → Int32) (t_figures : Nat → Int32) (t_minutes : Nat → Int32) (t_settings : Nat → Int32) (t_hooks : Int32) (t_letters : Nat → Int32) (t_letterCount : Int32) (m_room : Nat) (m_order : Nat → Int32) (m_weights : Nat → Int32) (m_black : Nat → Int32) (m_lifts : Nat → Int32) (m_begins : Nat → Int32) (m_ends : Nat → Int32) (m_has : Nat → Int32) (m_lifted : Nat → Int32) (m_allLifts : Int32) (m_doneAt : Int32) (z_going : Nat → Int32) (z_coming : Nat → Int32) (z_holds : Int32) (z_latest : Int32) (c_heaps : Int32) (c_piles : Nat → Nat → Int32) (c_heights : Nat → Int32) (c_spots : Nat → Int32) (ad_t : Nat → Nat) (p1 : Int32) : Option (Int32 × Int32 × (Nat → Int32) × (Nat → Int32) × (Nat → Int32) × (Nat → Int32) × Int32 × (Nat → Int32) × Int32 × Nat × (Nat → Int32) × (Nat → Int32) × (Nat → Int32) × (Nat → Int32) × (Nat → Int32) × (Nat → Int32) × (Nat → Int32) × (Nat → Int32) × Int32 × Int32 × (Nat → Int32) × (Nat → Int32) × Int32 × Int32 × Int32 × (Nat → Nat → Int32) × (Nat → Int32) × (Nat → Int32)) :=
  if p1 < 0 then (
    some ((-1), t_guests, t_kinds, t_figures, t_minutes, t_settings, t_hooks, t_letters, t_letterCount, m_room, m_order, m_weights, m_black, m_lifts, m_begins, m_ends, m_has, m_lifted, m_allLifts, m_doneAt, z_going, z_coming, z_holds, z_latest, c_heaps, c_piles, c_heights, c_spots))
  else (
    if 6 ≤ p1 then (
      some ((-1), t_guests, t_kinds, t_figures, t_minutes, t_settings, t_hooks, t_letters, t_letterCount, m_room, m_order, m_weights, m_black, m_lifts, m_begins, m_ends, m_has, m_lifted, m_allLifts, m_doneAt, z_going, z_coming, z_holds, z_latest, c_heaps, c_piles, c_heights, c_spots))
    else (
      (fX8_liftsWithLetter fuel t_guests t_kinds t_figures t_minutes t_settings t_hooks t_letters t_letterCount m_order m_weights m_black m_lifts m_begins m_ends m_has m_lifted m_allLifts m_doneAt z_going z_coming z_holds z_latest c_heaps c_piles c_heights c_spots d_guests d_kinds d_figures d_minutes d_settings d_hooks d_letters d_letterCount p1).bind fun o_3 =>
      some (o_3.1, o_3.2.1, o_3.2.2.1, o_3.2.2.2.1, o_3.2.2.2.2.1, o_3.2.2.2.2.2.1, o_3.2.2.2.2.2.2.1, o_3.2.2.2.2.2.2.2.1, o_3.2.2.2.2.2.2.2.2.1, (ad_t 0), o_3.2.2.2.2.2.2.2.2.2.1, o_3.2.2.2.2.2.2.2.2.2.2.1, o_3.2.2.2.2.2.2.2.2.2.2.2.1, o_3.2.2.2.2.2.2.2.2.2.2.2.2.1, o_3.2.2.2.2.2.2.2.2.2.2.2.2.2.1, o_3.2.2.2.2.2.2.2.2.2.2.2.2.2.2.1, o_3.2.2.2.2.2.2.2.2.2.2.2.2.2.2.2.1, o_3.2.2.2.2.2.2.2.2.2.2.2.2.2.2.2.2.1, o_3.2.2.2.2.2.2.2.2.2.2.2.2.2.2.2.2.2.1, o_3.2.2.2.2.2.2.2.2.2.2.2.2.2.2.2.2.2.2.1, o_3.2.2.2.2.2.2.2.2.2.2.2.2.2.2.2.2.2.2.2.1, o_3.2.2.2.2.2.2.2.2.2.2.2.2.2.2.2.2.2.2.2.2.1, o_3.2.2.2.2.2.2.2.2.2.2.2.2.2.2.2.2.2.2.2.2.2.1, o_3.2.2.2.2.2.2.2.2.2.2.2.2.2.2.2.2.2.2.2.2.2.2.1, o_3.2.2.2.2.2.2.2.2.2.2.2.2.2.2.2.2.2.2.2.2.2.2.2.1, o_3.2.2.2.2.2.2.2.2.2.2.2.2.2.2.2.2.2.2.2.2.2.2.2.2.1, o_3.2.2.2.2.2.2.2.2.2.2.2.2.2.2.2.2.2.2.2.2.2.2.2.2.2.1, o_3.2.2.2.2.2.2.2.2.2.2.2.2.2.2.2.2.2.2.2.2.2.2.2.2.2.2)))
def fX9_bestRule_J50 (k17 : Int32 → Int32 → Int32 → Int32 → (Nat → Int32) → (Nat → Int32) → (Nat → Int32) → (Nat → Int32) → Int32 → (Nat → Int32) → Int32 → (Nat → Int32) → (Nat → Int32) → (Nat → Int32) → (Nat → Int32) → (Nat → Int32) → (Nat → Int32) → (Nat → Int32) → (Nat → Int32) → Int32 → Int32 → (Nat → Int32) → (Nat → Int32) → Int32 → Int32 → Int32 → (Nat → Nat → Int32) → (Nat → Int32) → (Nat → Int32) → Option (Int32 × Int32 × (Nat → Int32) × (Nat → Int32) × (Nat → Int32) × (Nat → Int32) × Int32 × (Nat → Int32) × Int32 × (Nat → Int32) × (Nat → Int32) × (Nat → Int32) × (Nat → Int32) × (Nat → Int32) × (Nat → Int32) × (Nat → Int32) × (Nat → Int32) × Int32 × Int32 × (Nat → Int32) × (Nat → Int32) × Int32 × Int32 × Int32 × (Nat → Nat → Int32) × (Nat → Int32) × (Nat → Int32))) (v1 : Int32) (v2 : Int32) (v3 : Int32) (t_guests : Int32) (t_kinds : Nat → Int32) (t_figures : Nat → Int32) (t_minutes : Nat → Int32) (t_settings : Nat → Int32) (t_hooks : Int32) (t_letters : Nat → Int32) (t_letterCount : Int32) (m_order : Nat → Int32) (m_weights : Nat → Int32) (m_black : Nat → Int32) (m_lifts : Nat → Int32) (m_begins : Nat → Int32) (m_ends : Nat → Int32) (m_has : Nat → Int32) (m_lifted : Nat → Int32) (m_allLifts : Int32) (m_doneAt : Int32) (z_going : Nat → Int32) (z_coming : Nat → Int32) (z_holds : Int32) (z_latest : Int32) (c_heaps : Int32) (c_piles : Nat → Nat → Int32) (c_heights : Nat → Int32) (c_spots : Nat → Int32) : Option (Int32 × Int32 × (Nat → Int32) × (Nat → Int32) × (Nat → Int32) × (Nat → Int32) × Int32 × (Nat → Int32) × Int32 × (Nat → Int32) × (Nat → Int32) × (Nat → Int32) × (Nat → Int32) × (Nat → Int32) × (Nat → Int32) × (Nat → Int32) × (Nat → Int32) × Int32 × Int32 × (Nat → Int32) × (Nat → Int32) × Int32 × Int32 × Int32 × (Nat → Nat → Int32) × (Nat → Int32) × (Nat → Int32)) :=
  zlet (v3 + 1) fun v3_5 =>
  k17 v1 v2 v3_5 t_guests t_kinds t_figures t_minutes t_settings t_hooks t_letters t_letterCount m_order m_weights m_black m_lifts m_begins m_ends m_has m_lifted m_allLifts m_doneAt z_going z_coming z_holds z_latest c_heaps c_piles c_heights c_spots
def fX9_bestRule_L17 (fuel : Nat) (d_guests : Int32) (d_kinds : Nat → Int32) (d_figures : Nat → Int32) (d_minutes : Nat → Int32) (d_settings : Nat → Int32) (d_hooks : Int32) (d_letters : Nat → Int32) (d_letterCount : Int32) : Nat → Int32 → Int32 → Int32 → Int32 → (Nat → Int32) → (Nat → Int32) → (Nat → Int32) → (Nat → Int32) → Int32 → (Nat → Int32) → Int32 → (Nat → Int32) → (Nat → Int32) → (Nat → Int32) → (Nat → Int32) → (Nat → Int32) → (Nat → Int32) → (Nat → Int32) → (Nat → Int32) → Int32 → Int32 → (Nat → Int32) → (Nat → Int32) → Int32 → Int32 → Int32 → (Nat → Nat → Int32) → (Nat → Int32) → (Nat → Int32) → Option (Int32 × Int32 × (Nat → Int32) × (Nat → Int32) × (Nat → Int32) × (Nat → Int32) × Int32 × (Nat → Int32) × Int32 × (Nat → Int32) × (Nat → Int32) × (Nat → Int32) × (Nat → Int32) × (Nat → Int32) × (Nat → Int32) × (Nat → Int32) × (Nat → Int32) × Int32 × Int32 × (Nat → Int32) × (Nat → Int32) × Int32 × Int32 × Int32 × (Nat → Nat → Int32) × (Nat → Int32) × (Nat → Int32))
  | 0, _, _, _, _, _, _, _, _, _, _, _, _, _, _, _, _, _, _, _, _, _, _, _, _, _, _, _, _, _ => none
  | n + 1, v1, v2, v3, t_guests, t_kinds, t_figures, t_minutes, t_settings, t_hooks, t_letters, t_letterCount, m_order, m_weights, m_black, m_lifts, m_begins, m_ends, m_has, m_lifted, m_allLifts, m_doneAt, z_going, z_coming, z_holds, z_latest, c_heaps, c_piles, c_heights, c_spots =>
    if 6 ≤ v3 then (
      some (v1, t_guests, t_kinds, t_figures, t_minutes, t_settings, t_hooks, t_letters, t_letterCount, m_order, m_weights, m_black, m_lifts, m_begins, m_ends, m_has, m_lifted, m_allLifts, m_doneAt, z_going, z_coming, z_holds, z_latest, c_heaps, c_piles, c_heights, c_spots))
    else (
      (fX8_liftsWithLetter fuel t_guests t_kinds t_figures t_minutes t_settings t_hooks t_letters t_letterCount m_order m_weights m_black m_lifts m_begins m_ends m_has m_lifted m_allLifts m_doneAt z_going z_coming z_holds z_latest c_heaps c_piles c_heights c_spots d_guests d_kinds d_figures d_minutes d_settings d_hooks d_letters d_letterCount v3).bind fun o_3 =>
      if v2 ≤ o_3.1 then (
        fX9_bestRule_J50 (fX9_bestRule_L17 fuel d_guests d_kinds d_figures d_minutes d_settings d_hooks d_letters d_letterCount n) v1 v2 v3 o_3.2.1 o_3.2.2.1 o_3.2.2.2.1 o_3.2.2.2.2.1 o_3.2.2.2.2.2.1 o_3.2.2.2.2.2.2.1 o_3.2.2.2.2.2.2.2.1 o_3.2.2.2.2.2.2.2.2.1 o_3.2.2.2.2.2.2.2.2.2.1 o_3.2.2.2.2.2.2.2.2.2.2.1 o_3.2.2.2.2.2.2.2.2.2.2.2.1 o_3.2.2.2.2.2.2.2.2.2.2.2.2.1 o_3.2.2.2.2.2.2.2.2.2.2.2.2.2.1 o_3.2.2.2.2.2.2.2.2.2.2.2.2.2.2.1 o_3.2.2.2.2.2.2.2.2.2.2.2.2.2.2.2.1 o_3.2.2.2.2.2.2.2.2.2.2.2.2.2.2.2.2.1 o_3.2.2.2.2.2.2.2.2.2.2.2.2.2.2.2.2.2.1 o_3.2.2.2.2.2.2.2.2.2.2.2.2.2.2.2.2.2.2.1 o_3.2.2.2.2.2.2.2.2.2.2.2.2.2.2.2.2.2.2.2.1 o_3.2.2.2.2.2.2.2.2.2.2.2.2.2.2.2.2.2.2.2.2.1 o_3.2.2.2.2.2.2.2.2.2.2.2.2.2.2.2.2.2.2.2.2.2.1 o_3.2.2.2.2.2.2.2.2.2.2.2.2.2.2.2.2.2.2.2.2.2.2.1 o_3.2.2.2.2.2.2.2.2.2.2.2.2.2.2.2.2.2.2.2.2.2.2.2.1 o_3.2.2.2.2.2.2.2.2.2.2.2.2.2.2.2.2.2.2.2.2.2.2.2.2.1 o_3.2.2.2.2.2.2.2.2.2.2.2.2.2.2.2.2.2.2.2.2.2.2.2.2.2.1 o_3.2.2.2.2.2.2.2.2.2.2.2.2.2.2.2.2.2.2.2.2.2.2.2.2.2.2)
      else (
        fX9_bestRule_J50 (fX9_bestRule_L17 fuel d_guests d_kinds d_figures d_minutes d_settings d_hooks d_letters d_letterCount n) v3 o_3.1 v3 o_3.2.1 o_3.2.2.1 o_3.2.2.2.1 o_3.2.2.2.2.1 o_3.2.2.2.2.2.1 o_3.2.2.2.2.2.2.1 o_3.2.2.2.2.2.2.2.1 o_3.2.2.2.2.2.2.2.2.1 o_3.2.2.2.2.2.2.2.2.2.1 o_3.2.2.2.2.2.2.2.2.2.2.1 o_3.2.2.2.2.2.2.2.2.2.2.2.1 o_3.2.2.2.2.2.2.2.2.2.2.2.2.1 o_3.2.2.2.2.2.2.2.2.2.2.2.2.2.1 o_3.2.2.2.2.2.2.2.2.2.2.2.2.2.2.1 o_3.2.2.2.2.2.2.2.2.2.2.2.2.2.2.2.1 o_3.2.2.2.2.2.2.2.2.2.2.2.2.2.2.2.2.1 o_3.2.2.2.2.2.2.2.2.2.2.2.2.2.2.2.2.2.1 o_3.2.2.2.2.2.2.2.2.2.2.2.2.2.2.2.2.2.2.1 o_3.2.2.2.2.2.2.2.2.2.2.2.2.2.2.2.2.2.2.2.1 o_3.2.2.2.2.2.2.2.2.2.2.2.2.2.2.2.2.2.2.2.2.1 o_3.2.2.2.2.2.2.2.2.2.2.2.2.2.2.2.2.2.2.2.2.2.1 o_3.2.2.2.2.2.2.2.2.2.2.2.2.2.2.2.2.2.2.2.2.2.2.1 o_3.2.2.2.2.2.2.2.2.2.2.2.2.2.2.2.2.2.2.2.2.2.2.2.1 o_3.2.2.2.2.2.2.2.2.2.2.2.2.2.2.2.2.2.2.2.2.2.2.2.2.1 o_3.2.2.2.2.2.2.2.2.2.2.2.2.2.2.2.2.2.2.2.2.2.2.2.2.2.1 o_3.2.2.2.2.2.2.2.2.2.2.2.2.2.2.2.2.2.2.2.2.2.2.2.2.2.2))
def fX9_bestRule (fuel : Nat) (d_guests : Int32) (d_kinds : Nat → Int32) (d_figures : Nat → Int32) (d_minutes : Nat → Int32) (d_settings : Nat → Int32) (d_hooks : Int32) (d_letters : Nat → Int32) (d_letterCount : Int32) (t_guests : Int32) (t_kinds : Nat → Int32) (t_figures : Nat → Int32) (t_minutes : Nat → Int32) (t_settings : Nat → Int32) (t_hooks : Int32) (t_letters : Nat → Int32) (t_letterCount : Int32) (m_order : Nat → Int32) (m_weights : Nat → Int32) (m_black : Nat → Int32) (m_lifts : Nat → Int32) (m_begins : Nat → Int32) (m_ends : Nat → Int32) (m_has : Nat → Int32) (m_lifted : Nat → Int32) (m_allLifts : Int32) (m_doneAt : Int32) (z_going : Nat → Int32) (z_coming : Nat → Int32) (z_holds : Int32) (z_latest : Int32) (c_heaps : Int32) (c_piles : Nat → Nat → Int32) (c_heights : Nat → Int32) (c_spots : Nat → Int32) : Option (Int32 × Int32 × (Nat → Int32) × (Nat → Int32) × (Nat → Int32) × (Nat → Int32) × Int32 × (Nat → Int32) × Int32 × (Nat → Int32) × (Nat → Int32) × (Nat → Int32) × (Nat → Int32) × (Nat → Int32) × (Nat → Int32) × (Nat → Int32) × (Nat → Int32) × Int32 × Int32 × (Nat → Int32) × (Nat → Int32) × Int32 × Int32 × Int32 × (Nat → Nat → Int32) × (Nat → Int32) × (Nat → Int32)) :=
  (fX8_liftsWithLetter fuel t_guests t_kinds t_figures t_minutes t_settings t_hooks t_letters t_letterCount m_order m_weights m_black m_lifts m_begins m_ends m_has m_lifted m_allLifts m_doneAt z_going z_coming z_holds z_latest c_heaps c_piles c_heights c_spots d_guests d_kinds d_figures d_minutes d_settings d_hooks d_letters d_letterCount 0).bind fun o_1 =>
  fX9_bestRule_L17 fuel d_guests d_kinds d_figures d_minutes d_settings d_hooks d_letters d_letterCount fuel 0 o_1.1 1 o_1.2.1 o_1.2.2.1 o_1.2.2.2.1 o_1.2.2.2.2.1 o_1.2.2.2.2.2.1 o_1.2.2.2.2.2.2.1 o_1.2.2.2.2.2.2.2.1 o_1.2.2.2.2.2.2.2.2.1 o_1.2.2.2.2.2.2.2.2.2.1 o_1.2.2.2.2.2.2.2.2.2.2.1 o_1.2.2.2.2.2.2.2.2.2.2.2.1 o_1.2.2.2.2.2.2.2.2.2.2.2.2.1 o_1.2.2.2.2.2.2.2.2.2.2.2.2.2.1 o_1.2.2.2.2.2.2.2.2.2.2.2.2.2.2.1 o_1.2.2.2.2.2.2.2.2.2.2.2.2.2.2.2.1 o_1.2.2.2.2.2.2.2.2.2.2.2.2.2.2.2.2.1 o_1.2.2.2.2.2.2.2.2.2.2.2.2.2.2.2.2.2.1 o_1.2.2.2.2.2.2.2.2.2.2.2.2.2.2.2.2.2.2.1 o_1.2.2.2.2.2.2.2.2.2.2.2.2.2.2.2.2.2.2.2.1 o_1.2.2.2.2.2.2.2.2.2.2.2.2.2.2.2.2.2.2.2.2.1 o_1.2.2.2.2.2.2.2.2.2.2.2.2.2.2.2.2.2.2.2.2.2.1 o_1.2.2.2.2.2.2.2.2.2.2.2.2.2.2.2.2.2.2.2.2.2.2.1 o_1.2.2.2.2.2.2.2.2.2.2.2.2.2.2.2.2.2.2.2.2.2.2.2.1 o_1.2.2.2.2.2.2.2.2.2.2.2.2.2.2.2.2.2.2.2.2.2.2.2.2.1 o_1.2.2.2.2.2.2.2.2.2.2.2.2.2.2.2.2.2.2.2.2.2.2.2.2.2.1 o_1.2.2.2.2.2.2.2.2.2.2.2.2.2.2.2.2.2.2.2.2.2.2.2.2.2.2
def fX9_whose (fuel : Nat) (d_guests : Int32) (d_kinds : Nat → Int32) (d_figures : Nat → Int32) (d_minutes : Nat → Int32) (d_settings : Nat → Int32) (d_hooks : Int32) (d_letters : Nat → Int32) (d_letterCount : Int32) (t_guests : Int32) (t_kinds : Nat → Int32) (t_figures : Nat → Int32) (t_minutes : Nat → Int32) (t_settings : Nat → Int32) (t_hooks : Int32) (t_letters : Nat → Int32) (t_letterCount : Int32) (m_room : Nat) (m_order : Nat → Int32) (m_weights : Nat → Int32) (m_black : Nat → Int32) (m_lifts : Nat → Int32) (m_begins : Nat → Int32) (m_ends : Nat → Int32) (m_has : Nat → Int32) (m_lifted : Nat → Int32) (m_allLifts : Int32) (m_doneAt : Int32) (z_going : Nat → Int32) (z_coming : Nat → Int32) (z_holds : Int32) (z_latest : Int32) (c_heaps : Int32) (c_piles : Nat → Nat → Int32) (c_heights : Nat → Int32) (c_spots : Nat → Int32) (ad_d : Nat → Nat) (ad_t : Nat → Nat) (p1 : Int32) : Option (Int32 × Int32 × (Nat → Int32) × (Nat → Int32) × (Nat → Int32) × (Nat → Int32) × Int32 × (Nat → Int32) × Int32 × Nat × (Nat → Int32) × (Nat → Int32) × (Nat → Int32) × (Nat → Int32) × (Nat → Int32) × (Nat → Int32) × (Nat → Int32) × (Nat → Int32) × Int32 × Int32 × (Nat → Int32) × (Nat → Int32) × Int32 × Int32 × Int32 × (Nat → Nat → Int32) × (Nat → Int32) × (Nat → Int32)) :=
  (fX5_hasGuest fuel d_guests p1).bind fun o_1 =>
  if o_1 = 0 then (
    some ((-1), t_guests, t_kinds, t_figures, t_minutes, t_settings, t_hooks, t_letters, t_letterCount, m_room, m_order, m_weights, m_black, m_lifts, m_begins, m_ends, m_has, m_lifted, m_allLifts, m_doneAt, z_going, z_coming, z_holds, z_latest, c_heaps, c_piles, c_heights, c_spots))
  else (
    (fX8_inTheWayOf fuel t_guests t_kinds t_figures t_minutes t_settings t_hooks t_letters t_letterCount m_room m_order m_weights m_black m_lifts m_begins m_ends m_has m_lifted m_allLifts m_doneAt z_going z_coming z_holds z_latest c_heaps c_piles c_heights c_spots d_guests d_kinds d_figures d_minutes d_settings d_hooks d_letters d_letterCount ad_t ad_d p1).bind fun o_3 =>
    some (o_3.1, o_3.2.1, o_3.2.2.1, o_3.2.2.2.1, o_3.2.2.2.2.1, o_3.2.2.2.2.2.1, o_3.2.2.2.2.2.2.1, o_3.2.2.2.2.2.2.2.1, o_3.2.2.2.2.2.2.2.2.1, o_3.2.2.2.2.2.2.2.2.2.1, o_3.2.2.2.2.2.2.2.2.2.2.1, o_3.2.2.2.2.2.2.2.2.2.2.2.1, o_3.2.2.2.2.2.2.2.2.2.2.2.2.1, o_3.2.2.2.2.2.2.2.2.2.2.2.2.2.1, o_3.2.2.2.2.2.2.2.2.2.2.2.2.2.2.1, o_3.2.2.2.2.2.2.2.2.2.2.2.2.2.2.2.1, o_3.2.2.2.2.2.2.2.2.2.2.2.2.2.2.2.2.1, o_3.2.2.2.2.2.2.2.2.2.2.2.2.2.2.2.2.2.1, o_3.2.2.2.2.2.2.2.2.2.2.2.2.2.2.2.2.2.2.1, o_3.2.2.2.2.2.2.2.2.2.2.2.2.2.2.2.2.2.2.2.1, o_3.2.2.2.2.2.2.2.2.2.2.2.2.2.2.2.2.2.2.2.2.1, o_3.2.2.2.2.2.2.2.2.2.2.2.2.2.2.2.2.2.2.2.2.2.1, o_3.2.2.2.2.2.2.2.2.2.2.2.2.2.2.2.2.2.2.2.2.2.2.1, o_3.2.2.2.2.2.2.2.2.2.2.2.2.2.2.2.2.2.2.2.2.2.2.2.1, o_3.2.2.2.2.2.2.2.2.2.2.2.2.2.2.2.2.2.2.2.2.2.2.2.2.1, o_3.2.2.2.2.2.2.2.2.2.2.2.2.2.2.2.2.2.2.2.2.2.2.2.2.2.1, o_3.2.2.2.2.2.2.2.2.2.2.2.2.2.2.2.2.2.2.2.2.2.2.2.2.2.2.1, o_3.2.2.2.2.2.2.2.2.2.2.2.2.2.2.2.2.2.2.2.2.2.2.2.2.2.2.2))
def fX9_two (fuel : Nat) (d_guests : Int32) (d_kinds : Nat → Int32) (d_figures : Nat → Int32) (d_minutes : Nat → Int32) (d_settings : Nat → Int32) (d_hooks : Int32) (d_letters : Nat → Int32) (d_letterCount : Int32) (q_firstsLifts : Nat → Int32) (q_othersLifts : Nat → Int32) (t_guests : Int32) (t_kinds : Nat → Int32) (t_figures : Nat → Int32) (t_minutes : Nat → Int32) (t_settings : Nat → Int32) (t_hooks : Int32) (t_letters : Nat → Int32) (t_letterCount : Int32) (m_room : Nat) (m_order : Nat → Int32) (m_weights : Nat → Int32) (m_black : Nat → Int32) (m_lifts : Nat → Int32) (m_begins : Nat → Int32) (m_ends : Nat → Int32) (m_has : Nat → Int32) (m_lifted : Nat → Int32) (m_allLifts : Int32) (m_doneAt : Int32) (z_going : Nat → Int32) (z_coming : Nat → Int32) (z_holds : Int32) (z_latest : Int32) (c_heaps : Int32) (c_piles : Nat → Nat → Int32) (c_heights : Nat → Int32) (c_spots : Nat → Int32) (ad_t : Nat → Nat) (p1 : Int32) (p2 : Int32) : Option (Int32 × (Nat → Int32) × (Nat → Int32) × Int32 × (Nat → Int32) × (Nat → Int32) × (Nat → Int32) × (Nat → Int32) × Int32 × (Nat → Int32) × Int32 × Nat × (Nat → Int32) × (Nat → Int32) × (Nat → Int32) × (Nat → Int32) × (Nat → Int32) × (Nat → Int32) × (Nat → Int32) × (Nat → Int32) × Int32 × Int32 × (Nat → Int32) × (Nat → Int32) × Int32 × Int32 × Int32 × (Nat → Nat → Int32) × (Nat → Int32) × (Nat → Int32)) :=
  (fX5_hasGuest fuel d_guests p1).bind fun o_1 =>
  if o_1 = 0 then (
    some ((-1), q_firstsLifts, q_othersLifts, t_guests, t_kinds, t_figures, t_minutes, t_settings, t_hooks, t_letters, t_letterCount, m_room, m_order, m_weights, m_black, m_lifts, m_begins, m_ends, m_has, m_lifted, m_allLifts, m_doneAt, z_going, z_coming, z_holds, z_latest, c_heaps, c_piles, c_heights, c_spots))
  else (
    (fX5_hasGuest fuel d_guests p2).bind fun o_3 =>
    if o_3 = 0 then (
      some ((-1), q_firstsLifts, q_othersLifts, t_guests, t_kinds, t_figures, t_minutes, t_settings, t_hooks, t_letters, t_letterCount, m_room, m_order, m_weights, m_black, m_lifts, m_begins, m_ends, m_has, m_lifted, m_allLifts, m_doneAt, z_going, z_coming, z_holds, z_latest, c_heaps, c_piles, c_heights, c_spots))
    else (
      if p1 = p2 then (
        some ((-1), q_firstsLifts, q_othersLifts, t_guests, t_kinds, t_figures, t_minutes, t_settings, t_hooks, t_letters, t_letterCount, m_room, m_order, m_weights, m_black, m_lifts, m_begins, m_ends, m_has, m_lifted, m_allLifts, m_doneAt, z_going, z_coming, z_holds, z_latest, c_heaps, c_piles, c_heights, c_spots))
      else (
        (fX8_restOfTwo fuel q_firstsLifts q_othersLifts t_guests t_kinds t_figures t_minutes t_settings t_hooks t_letters t_letterCount m_room m_order m_weights m_black m_lifts m_begins m_ends m_has m_lifted m_allLifts m_doneAt z_going z_coming z_holds z_latest c_heaps c_piles c_heights c_spots d_guests d_kinds d_figures d_minutes d_settings d_hooks d_letters d_letterCount ad_t p1 p2).bind fun o_6 =>
        some (o_6.1, o_6.2.1, o_6.2.2.1, o_6.2.2.2.1, o_6.2.2.2.2.1, o_6.2.2.2.2.2.1, o_6.2.2.2.2.2.2.1, o_6.2.2.2.2.2.2.2.1, o_6.2.2.2.2.2.2.2.2.1, o_6.2.2.2.2.2.2.2.2.2.1, o_6.2.2.2.2.2.2.2.2.2.2.1, o_6.2.2.2.2.2.2.2.2.2.2.2.1, o_6.2.2.2.2.2.2.2.2.2.2.2.2.1, o_6.2.2.2.2.2.2.2.2.2.2.2.2.2.1, o_6.2.2.2.2.2.2.2.2.2.2.2.2.2.2.1, o_6.2.2.2.2.2.2.2.2.2.2.2.2.2.2.2.1, o_6.2.2.2.2.2.2.2.2.2.2.2.2.2.2.2.2.1, o_6.2.2.2.2.2.2.2.2.2.2.2.2.2.2.2.2.2.1, o_6.2.2.2.2.2.2.2.2.2.2.2.2.2.2.2.2.2.2.1, o_6.2.2.2.2.2.2.2.2.2.2.2.2.2.2.2.2.2.2.2.1, o_6.2.2.2.2.2.2.2.2.2.2.2.2.2.2.2.2.2.2.2.2.1, o_6.2.2.2.2.2.2.2.2.2.2.2.2.2.2.2.2.2.2.2.2.2.1, o_6.2.2.2.2.2.2.2.2.2.2.2.2.2.2.2.2.2.2.2.2.2.2.1, o_6.2.2.2.2.2.2.2.2.2.2.2.2.2.2.2.2.2.2.2.2.2.2.2.1, o_6.2.2.2.2.2.2.2.2.2.2.2.2.2.2.2.2.2.2.2.2.2.2.2.2.1, o_6.2.2.2.2.2.2.2.2.2.2.2.2.2.2.2.2.2.2.2.2.2.2.2.2.2.1, o_6.2.2.2.2.2.2.2.2.2.2.2.2.2.2.2.2.2.2.2.2.2.2.2.2.2.2.1, o_6.2.2.2.2.2.2.2.2.2.2.2.2.2.2.2.2.2.2.2.2.2.2.2.2.2.2.2.1, o_6.2.2.2.2.2.2.2.2.2.2.2.2.2.2.2.2.2.2.2.2.2.2.2.2.2.2.2.2.1, o_6.2.2.2.2.2.2.2.2.2.2.2.2.2.2.2.2.2.2.2.2.2.2.2.2.2.2.2.2.2))))
def fX9_chain (fuel : Nat) (d_guests : Int32) (d_kinds : Nat → Int32) (d_figures : Nat → Int32) (d_minutes : Nat → Int32) (d_settings : Nat → Int32) (d_hooks : Int32) (d_letters : Nat → Int32) (d_letterCount : Int32) (n_room : Nat) (n_order : Nat → Int32) (n_weights : Nat → Int32) (n_black : Nat → Int32) (n_lifts : Nat → Int32) (n_begins : Nat → Int32) (n_ends : Nat → Int32) (n_has : Nat → Int32) (n_lifted : Nat → Int32) (n_allLifts : Int32) (n_doneAt : Int32) (y_going : Nat → Int32) (y_coming : Nat → Int32) (y_holds : Int32) (y_latest : Int32) (b_heaps : Int32) (b_piles : Nat → Nat → Int32) (b_heights : Nat → Int32) (b_spots : Nat → Int32) (ad_d : Nat → Nat) (p1 : Int32) : Option (Int32 × Nat × (Nat → Int32) × (Nat → Int32) × (Nat → Int32) × (Nat → Int32) × (Nat → Int32) × (Nat → Int32) × (Nat → Int32) × (Nat → Int32) × Int32 × Int32 × (Nat → Int32) × (Nat → Int32) × Int32 × Int32 × Int32 × (Nat → Nat → Int32) × (Nat → Int32) × (Nat → Int32)) :=
  (fX5_hasGuest fuel d_guests p1).bind fun o_1 =>
  if o_1 = 0 then (
    some ((-1), n_room, n_order, n_weights, n_black, n_lifts, n_begins, n_ends, n_has, n_lifted, n_allLifts, n_doneAt, y_going, y_coming, y_holds, y_latest, b_heaps, b_piles, b_heights, b_spots))
  else (
    (fX3_pass fuel n_order n_weights n_black n_lifts n_begins n_ends n_has n_lifted n_allLifts n_doneAt y_going y_coming y_holds y_latest b_heaps b_piles b_heights b_spots d_guests d_kinds d_figures d_minutes d_settings d_hooks d_letters d_letterCount).bind fun o_3 =>
    (fX3_stepsRound fuel o_3.2.2.2.2.2.2.2.1 d_guests p1).bind fun o_4 =>
    some (o_4, (ad_d 0), o_3.2.1, o_3.2.2.1, o_3.2.2.2.1, o_3.2.2.2.2.1, o_3.2.2.2.2.2.1, o_3.2.2.2.2.2.2.1, o_3.2.2.2.2.2.2.2.1, o_3.2.2.2.2.2.2.2.2.1, o_3.2.2.2.2.2.2.2.2.2.1, o_3.2.2.2.2.2.2.2.2.2.2.1, o_3.2.2.2.2.2.2.2.2.2.2.2.1, o_3.2.2.2.2.2.2.2.2.2.2.2.2.1, o_3.2.2.2.2.2.2.2.2.2.2.2.2.2.1, o_3.2.2.2.2.2.2.2.2.2.2.2.2.2.2.1, o_3.2.2.2.2.2.2.2.2.2.2.2.2.2.2.2.1, o_3.2.2.2.2.2.2.2.2.2.2.2.2.2.2.2.2.1, o_3.2.2.2.2.2.2.2.2.2.2.2.2.2.2.2.2.2.1, o_3.2.2.2.2.2.2.2.2.2.2.2.2.2.2.2.2.2.2))
def fX9_judge_L29 (fuel : Nat) (s_size : Nat → Int32) (s_el : Nat → Nat → Int32) (d_guests : Int32) (ad_d : Nat → Nat) (p1 : Int32) : Nat → Int32 → (Nat → Int32) → (Nat → Int32) → (Nat → Int32) → (Nat → Int32) → (Nat → Int32) → Int32 → Int32 → Int32 → (Nat → Nat → Int32) → (Nat → Int32) → (Nat → Int32) → Option (Int32 × Nat × (Nat → Int32) × (Nat → Int32) × (Nat → Int32) × (Nat → Int32) × (Nat → Int32) × Int32 × Int32 × Int32 × (Nat → Nat → Int32) × (Nat → Int32) × (Nat → Int32))
  | 0, _, _, _, _, _, _, _, _, _, _, _, _ => none
  | n + 1, v5, n_order, n_weights, n_black, y_going, y_coming, y_holds, y_latest, b_heaps, b_piles, b_heights, b_spots =>
    zg (zin p1 8) <|
    if (s_size p1.toNatClampNeg) ≤ v5 then (
      some ((-4), (ad_d 0), n_order, n_weights, n_black, y_going, y_coming, y_holds, y_latest, b_heaps, b_piles, b_heights, b_spots))
    else (
      zg (zin v5 100) <|
      zlet (s_el p1.toNatClampNeg v5.toNatClampNeg) fun v6_8 =>
      (fX5_hasGuest fuel d_guests v6_8).bind fun o_9 =>
      if o_9 = 0 then (
        some (v5, (ad_d 0), n_order, n_weights, n_black, y_going, y_coming, y_holds, y_latest, b_heaps, b_piles, b_heights, b_spots))
      else (
        (fX0_giveIfFree fuel b_piles b_heights b_spots v6_8).bind fun o_11 =>
        if o_11.1 = 0 then (
          some (v5, (ad_d 0), n_order, n_weights, n_black, y_going, y_coming, y_holds, y_latest, b_heaps, o_11.2.1, o_11.2.2.1, o_11.2.2.2))
        else (
          zlet (v5 + 1) fun v5_13 =>
          fX9_judge_L29 fuel s_size s_el d_guests ad_d p1 n v5_13 n_order n_weights n_black y_going y_coming y_holds y_latest b_heaps o_11.2.1 o_11.2.2.1 o_11.2.2.2)))
def fX9_judge (fuel : Nat) (s_holds : Nat → Int32) (s_size : Nat → Int32) (s_el : Nat → Nat → Int32) (d_guests : Int32) (d_kinds : Nat → Int32) (d_figures : Nat → Int32) (d_minutes : Nat → Int32) (d_settings : Nat → Int32) (d_hooks : Int32) (d_letters : Nat → Int32) (d_letterCount : Int32) (n_room : Nat) (n_order : Nat → Int32) (n_weights : Nat → Int32) (n_black : Nat → Int32) (y_going : Nat → Int32) (y_coming : Nat → Int32) (y_holds : Int32) (y_latest : Int32) (b_heaps : Int32) (b_piles : Nat → Nat → Int32) (b_heights : Nat → Int32) (b_spots : Nat → Int32) (ad_d : Nat → Nat) (p1 : Int32) : Option (Int32 × Nat × (Nat → Int32) × (Nat → Int32) × (Nat → Int32) × (Nat → Int32) × (Nat → Int32) × Int32 × Int32 × Int32 × (Nat → Nat → Int32) × (Nat → Int32) × (Nat → Int32)) :=
  (fX9_refusalOf fuel s_holds p1 2).bind fun o_1 =>
  if o_1 = 0 then (
    (fX9_laid fuel d_guests d_kinds d_figures d_minutes d_settings d_hooks d_letters d_letterCount n_order n_weights n_black y_going y_coming y_holds y_latest b_heaps b_piles b_heights b_spots).bind fun o_3 =>
    zg (zin p1 8) <|
    fX9_judge_L29 fuel s_size s_el d_guests ad_d p1 fuel 0 o_3.1 o_3.2.1 o_3.2.2.1 o_3.2.2.2.1 o_3.2.2.2.2.1 o_3.2.2.2.2.2.1 o_3.2.2.2.2.2.2.1 o_3.2.2.2.2.2.2.2.1 o_3.2.2.2.2.2.2.2.2.1 o_3.2.2.2.2.2.2.2.2.2.1 o_3.2.2.2.2.2.2.2.2.2.2)
  else (
    some (o_1, n_room, n_order, n_weights, n_black, y_going, y_coming, y_holds, y_latest, b_heaps, b_piles, b_heights, b_spots))
def fX9_nights (fuel : Nat) (d_guests : Int32) (d_kinds : Nat → Int32) (d_figures : Nat → Int32) (d_minutes : Nat → Int32) (d_settings : Nat → Int32) (d_hooks : Int32) (d_letters : Nat → Int32) (d_letterCount : Int32) (q_seed : Int32) (q_sumOfLifts : Int32) (q_sumOfMissers : Int32) (t_guests : Int32) (t_kinds : Nat → Int32) (t_figures : Nat → Int32) (t_minutes : Nat → Int32) (t_settings : Nat → Int32) (t_hooks : Int32) (t_letters : Nat → Int32) (t_letterCount : Int32) (m_room : Nat) (m_order : Nat → Int32) (m_weights : Nat → Int32) (m_black : Nat → Int32) (m_lifts : Nat → Int32) (m_begins : Nat → Int32) (m_ends : Nat → Int32) (m_has : Nat → Int32) (m_lifted : Nat → Int32) (m_allLifts : Int32) (m_doneAt : Int32) (z_going : Nat → Int32) (z_coming : Nat → Int32) (z_holds : Int32) (z_latest : Int32) (c_heaps : Int32) (c_piles : Nat → Nat → Int32) (c_heights : Nat → Int32) (c_spots : Nat → Int32) (ad_t : Nat → Nat) (p1 : Int32) (p2 : Int32) (p3 : Int32) : Option (Int32 × Int32 × Int32 × Int32 × Int32 × (Nat → Int32) × (Nat → Int32) × (Nat → Int32) × (Nat → Int32) × Int32 × (Nat → Int32) × Int32 × Nat × (Nat → Int32) × (Nat → Int32) × (Nat → Int32) × (Nat → Int32) × (Nat → Int32) × (Nat → Int32) × (Nat → Int32) × (Nat → Int32) × Int32 × Int32 × (Nat → Int32) × (Nat → Int32) × Int32 × Int32 × Int32 × (Nat → Nat → Int32) × (Nat → Int32) × (Nat → Int32)) :=
  if p1 < 1 then (
    some ((-1), q_seed, q_sumOfLifts, q_sumOfMissers, t_guests, t_kinds, t_figures, t_minutes, t_settings, t_hooks, t_letters, t_letterCount, m_room, m_order, m_weights, m_black, m_lifts, m_begins, m_ends, m_has, m_lifted, m_allLifts, m_doneAt, z_going, z_coming, z_holds, z_latest, c_heaps, c_piles, c_heights, c_spots))
  else (
    if 20 < p1 then (
      some ((-1), q_seed, q_sumOfLifts, q_sumOfMissers, t_guests, t_kinds, t_figures, t_minutes, t_settings, t_hooks, t_letters, t_letterCount, m_room, m_order, m_weights, m_black, m_lifts, m_begins, m_ends, m_has, m_lifted, m_allLifts, m_doneAt, z_going, z_coming, z_holds, z_latest, c_heaps, c_piles, c_heights, c_spots))
    else (
      (fX9_isFirstOrSecond fuel p3).bind fun o_3 =>
      if o_3 = 0 then (
        some ((-1), q_seed, q_sumOfLifts, q_sumOfMissers, t_guests, t_kinds, t_figures, t_minutes, t_settings, t_hooks, t_letters, t_letterCount, m_room, m_order, m_weights, m_black, m_lifts, m_begins, m_ends, m_has, m_lifted, m_allLifts, m_doneAt, z_going, z_coming, z_holds, z_latest, c_heaps, c_piles, c_heights, c_spots))
      else (
        (fX8_tryNights fuel q_seed q_sumOfLifts q_sumOfMissers t_guests t_kinds t_figures t_minutes t_settings t_hooks t_letters t_letterCount m_room m_order m_weights m_black m_lifts m_begins m_ends m_has m_lifted m_allLifts m_doneAt z_going z_coming z_holds z_latest c_heaps c_piles c_heights c_spots d_guests d_kinds d_figures d_minutes d_settings d_hooks d_letters d_letterCount ad_t p1 p2).bind fun o_5 =>
        if p3 = 0 then (
          some (o_5.2.1, o_5.1, o_5.2.1, o_5.2.2.1, o_5.2.2.2.1, o_5.2.2.2.2.1, o_5.2.2.2.2.2.1, o_5.2.2.2.2.2.2.1, o_5.2.2.2.2.2.2.2.1, o_5.2.2.2.2.2.2.2.2.1, o_5.2.2.2.2.2.2.2.2.2.1, o_5.2.2.2.2.2.2.2.2.2.2.1, o_5.2.2.2.2.2.2.2.2.2.2.2.1, o_5.2.2.2.2.2.2.2.2.2.2.2.2.1, o_5.2.2.2.2.2.2.2.2.2.2.2.2.2.1, o_5.2.2.2.2.2.2.2.2.2.2.2.2.2.2.1, o_5.2.2.2.2.2.2.2.2.2.2.2.2.2.2.2.1, o_5.2.2.2.2.2.2.2.2.2.2.2.2.2.2.2.2.1, o_5.2.2.2.2.2.2.2.2.2.2.2.2.2.2.2.2.2.1, o_5.2.2.2.2.2.2.2.2.2.2.2.2.2.2.2.2.2.2.1, o_5.2.2.2.2.2.2.2.2.2.2.2.2.2.2.2.2.2.2.2.1, o_5.2.2.2.2.2.2.2.2.2.2.2.2.2.2.2.2.2.2.2.2.1, o_5.2.2.2.2.2.2.2.2.2.2.2.2.2.2.2.2.2.2.2.2.2.1, o_5.2.2.2.2.2.2.2.2.2.2.2.2.2.2.2.2.2.2.2.2.2.2.1, o_5.2.2.2.2.2.2.2.2.2.2.2.2.2.2.2.2.2.2.2.2.2.2.2.1, o_5.2.2.2.2.2.2.2.2.2.2.2.2.2.2.2.2.2.2.2.2.2.2.2.2.1, o_5.2.2.2.2.2.2.2.2.2.2.2.2.2.2.2.2.2.2.2.2.2.2.2.2.2.1, o_5.2.2.2.2.2.2.2.2.2.2.2.2.2.2.2.2.2.2.2.2.2.2.2.2.2.2.1, o_5.2.2.2.2.2.2.2.2.2.2.2.2.2.2.2.2.2.2.2.2.2.2.2.2.2.2.2.1, o_5.2.2.2.2.2.2.2.2.2.2.2.2.2.2.2.2.2.2.2.2.2.2.2.2.2.2.2.2.1, o_5.2.2.2.2.2.2.2.2.2.2.2.2.2.2.2.2.2.2.2.2.2.2.2.2.2.2.2.2.2))
        else (
          some (o_5.2.2.1, o_5.1, o_5.2.1, o_5.2.2.1, o_5.2.2.2.1, o_5.2.2.2.2.1, o_5.2.2.2.2.2.1, o_5.2.2.2.2.2.2.1, o_5.2.2.2.2.2.2.2.1, o_5.2.2.2.2.2.2.2.2.1, o_5.2.2.2.2.2.2.2.2.2.1, o_5.2.2.2.2.2.2.2.2.2.2.1, o_5.2.2.2.2.2.2.2.2.2.2.2.1, o_5.2.2.2.2.2.2.2.2.2.2.2.2.1, o_5.2.2.2.2.2.2.2.2.2.2.2.2.2.1, o_5.2.2.2.2.2.2.2.2.2.2.2.2.2.2.1, o_5.2.2.2.2.2.2.2.2.2.2.2.2.2.2.2.1, o_5.2.2.2.2.2.2.2.2.2.2.2.2.2.2.2.2.1, o_5.2.2.2.2.2.2.2.2.2.2.2.2.2.2.2.2.2.1, o_5.2.2.2.2.2.2.2.2.2.2.2.2.2.2.2.2.2.2.1, o_5.2.2.2.2.2.2.2.2.2.2.2.2.2.2.2.2.2.2.2.1, o_5.2.2.2.2.2.2.2.2.2.2.2.2.2.2.2.2.2.2.2.2.1, o_5.2.2.2.2.2.2.2.2.2.2.2.2.2.2.2.2.2.2.2.2.2.1, o_5.2.2.2.2.2.2.2.2.2.2.2.2.2.2.2.2.2.2.2.2.2.2.1, o_5.2.2.2.2.2.2.2.2.2.2.2.2.2.2.2.2.2.2.2.2.2.2.2.1, o_5.2.2.2.2.2.2.2.2.2.2.2.2.2.2.2.2.2.2.2.2.2.2.2.2.1, o_5.2.2.2.2.2.2.2.2.2.2.2.2.2.2.2.2.2.2.2.2.2.2.2.2.2.1, o_5.2.2.2.2.2.2.2.2.2.2.2.2.2.2.2.2.2.2.2.2.2.2.2.2.2.2.1, o_5.2.2.2.2.2.2.2.2.2.2.2.2.2.2.2.2.2.2.2.2.2.2.2.2.2.2.2.1, o_5.2.2.2.2.2.2.2.2.2.2.2.2.2.2.2.2.2.2.2.2.2.2.2.2.2.2.2.2.1, o_5.2.2.2.2.2.2.2.2.2.2.2.2.2.2.2.2.2.2.2.2.2.2.2.2.2.2.2.2.2)))))
