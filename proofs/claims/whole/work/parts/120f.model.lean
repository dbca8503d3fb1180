def fX10_isIn (fuel : Nat) (p0 : Int32) (p1 : Int32) (p2 : Int32) : Option (Int32) :=
  if p0 < p1 then (
    some (0))
  else (
    if p2 < p0 then (
      some (0))
    else (
      some (1)))
def fX10_isGuest (fuel : Nat) (M_guests : Int32) (p1 : Int32) : Option (Int32) :=
  (fX10_isIn fuel p1 0 (M_guests - 1)).bind fun o_1 =>
  zg (decide (o_1 = 0 ∨ o_1 = 1)) <|
  some (o_1)
def fX10_goesBy (fuel : Nat) (p0 : Int32) (p1 : Int32) (p2 : Int32) : Option (Int32) :=
  if p0 = 7 then (
    some (99))
  else (
    if p0 = 5 then (
      zlet ((zmax 0 (p2 - p1))) fun x_3 =>
      some (x_3))
    else (
      some (p2)))
def fX10_lift (fuel : Nat) (p0 : Int32) (p1 : Int32) : Option (Int32) :=
  if p0 = 1 then (
    some (3))
  else (
    if p0 = 2 then (
      some ((1 + (p1 / 3))))
    else (
      if p0 = 4 then (
        some ((2 + (p1 / 3))))
      else (
        if p0 = 5 then (
          some (0))
        else (
          some (1)))))
def fX10_liftOf (fuel : Nat) (M_kind : Nat → Int32) (M_figure : Nat → Int32) (p1 : Int32) : Option (Int32) :=
  zg (zin p1 10) <|
  (fX10_lift fuel (M_kind p1.toNatClampNeg) (M_figure p1.toNatClampNeg)).bind fun o_2 =>
  some (o_2)
def fX10_isBlack (fuel : Nat) (M_kind : Nat → Int32) (p1 : Int32) : Option (Int32) :=
  zg (zin p1 10) <|
  if (M_kind p1.toNatClampNeg) = 3 then (
    some (1))
  else (
    if (M_kind p1.toNatClampNeg) = 6 then (
      some (1))
    else (
      some (0)))
def fX10_spare (fuel : Nat) (M_kind : Nat → Int32) (M_figure : Nat → Int32) (p1 : Int32) : Option (Int32) :=
  zg (zin p1 10) <|
  if (M_kind p1.toNatClampNeg) = 6 then (
    some ((M_figure p1.toNatClampNeg)))
  else (
    some (99))
def fX10_hangs (fuel : Nat) (M_hooks : Int32) (p1 : Int32) : Option (Int32) :=
  if ((((M_hooks >>> (p1 &&& 31))) &&& 1)) = 1 then (
    some (1))
  else (
    some (0))
def fX10_bits_L4 (p0 : Int32) : Nat → Int32 → Int32 → Option (Int32)
  | 0, _, _ => none
  | n + 1, v1, v2 =>
    if 10 ≤ v2 then (
      some (v1))
    else (
      zlet ((v1 + ((((p0 >>> (v2 &&& 31))) &&& 1)))) fun v1_2 =>
      zlet (v2 + 1) fun v2_3 =>
      fX10_bits_L4 p0 n v1_2 v2_3)
def fX10_bits (fuel : Nat) (p0 : Int32) : Option (Int32) :=
  fX10_bits_L4 p0 fuel 0 0
def fX10_guestIs (fuel : Nat) (M_guests : Int32) (M_kind : Nat → Int32) (M_figure : Nat → Int32) (M_told : Nat → Int32) (p1 : Int32) (p2 : Int32) (p3 : Int32) : Option (Int32 × Int32 × (Nat → Int32) × (Nat → Int32) × (Nat → Int32)) :=
  zg (zin M_guests 10) <|
  zlet (upd M_kind M_guests.toNatClampNeg p1) fun M_kind_2 =>
  zlet (upd M_figure M_guests.toNatClampNeg p2) fun M_figure_3 =>
  zlet (upd M_told M_guests.toNatClampNeg p3) fun M_told_4 =>
  zlet (M_guests + 1) fun guests_5 =>
  some ((guests_5 - 1), guests_5, M_kind_2, M_figure_3, M_told_4)
def fX10_turnHook (fuel : Nat) (M_hooks : Int32) (p1 : Int32) : Option (Int32 × Int32) :=
  zlet ((M_hooks ^^^ (((1 : Int32) <<< (p1 &&& 31))))) fun hooks_1 =>
  some ((((hooks_1 >>> (p1 &&& 31))) &&& 1), hooks_1)
def fX10_byteAt (fuel : Nat) (M_at : Int32) (M_text : Int32) (M_row : Int32) (M_items : Nat → Int32) : Option (Int32) :=
  if M_text ≤ M_at then (
    some ((-1)))
  else (
    zg (zin (((100 * M_row) + M_at)) 800) <|
    some ((M_items (((100 * M_row) + M_at)).toNatClampNeg)))
def fX10_oneOf_begins_J18 (v2 : Int32) (M_at : Int32) : Option (Int32 × Int32) :=
  zlet (M_at + 1) fun at_6 =>
  some (v2, at_6)
def fX10_oneOf_begins_L2 (fuel : Nat) (M_text : Int32) (M_row : Int32) (M_begins : Nat → Int32) (M_items : Nat → Int32) : Nat → Int32 → Int32 → Option (Int32 × Int32)
  | 0, _, _ => none
  | n + 1, v2, M_at =>
    if 6 ≤ v2 then (
      some ((-1), M_at))
    else (
      (fX10_byteAt fuel M_at M_text M_row M_items).bind fun o_2 =>
      zg (zin v2 6) <|
      if o_2 = (M_begins v2.toNatClampNeg) then (
        fX10_oneOf_begins_J18 v2 M_at)
      else (
        zlet (v2 + 1) fun v2_5 =>
        fX10_oneOf_begins_L2 fuel M_text M_row M_begins M_items n v2_5 M_at))
def fX10_oneOf_begins (fuel : Nat) (M_at : Int32) (M_text : Int32) (M_row : Int32) (M_begins : Nat → Int32) (M_items : Nat → Int32) : Option (Int32 × Int32) :=
  fX10_oneOf_begins_L2 fuel M_text M_row M_begins M_items fuel 0 M_at
def fX10_oneOf_ruleLetters_J18 (v2 : Int32) (M_at : Int32) : Option (Int32 × Int32) :=
  zlet (M_at + 1) fun at_6 =>
  some (v2, at_6)
def fX10_oneOf_ruleLetters_L2 (fuel : Nat) (M_text : Int32) (M_row : Int32) (M_ruleLetters : Nat → Int32) (M_items : Nat → Int32) : Nat → Int32 → Int32 → Option (Int32 × Int32)
  | 0, _, _ => none
  | n + 1, v2, M_at =>
    if 6 ≤ v2 then (
      some ((-1), M_at))
    else (
      (fX10_byteAt fuel M_at M_text M_row M_items).bind fun o_2 =>
      zg (zin v2 6) <|
      if o_2 = (M_ruleLetters v2.toNatClampNeg) then (
        fX10_oneOf_ruleLetters_J18 v2 M_at)
      else (
        zlet (v2 + 1) fun v2_5 =>
        fX10_oneOf_ruleLetters_L2 fuel M_text M_row M_ruleLetters M_items n v2_5 M_at))
def fX10_oneOf_ruleLetters (fuel : Nat) (M_at : Int32) (M_text : Int32) (M_row : Int32) (M_ruleLetters : Nat → Int32) (M_items : Nat → Int32) : Option (Int32 × Int32) :=
  fX10_oneOf_ruleLetters_L2 fuel M_text M_row M_ruleLetters M_items fuel 0 M_at
def fX10_figure_J24 (M_at : Int32) (M_well : Int32) : Option (Int32 × Int32 × Int32) :=
  some (0, M_at, 0)
def fX10_figure (fuel : Nat) (M_at : Int32) (M_well : Int32) (M_text : Int32) (M_row : Int32) (M_items : Nat → Int32) : Option (Int32 × Int32 × Int32) :=
  (fX10_byteAt fuel M_at M_text M_row M_items).bind fun o_1 =>
  if M_well = 0 then (
    fX10_figure_J24 M_at M_well)
  else (
    if o_1 < 48 then (
      fX10_figure_J24 M_at M_well)
    else (
      if o_1 ≤ 57 then (
        zlet (M_at + 1) fun at_5 =>
        some ((o_1 - 48), at_5, M_well))
      else (
        fX10_figure_J24 M_at M_well)))
def fX10_statement_J218 (M_at : Int32) (M_well : Int32) (M_sort : Int32) (M_field : Nat → Int32) (M_fields : Int32) : Option (Int32 × Int32 × Int32 × (Nat → Int32) × Int32) :=
  some (M_at, 0, M_sort, M_field, M_fields)
def fX10_statement_J189 (fuel : Nat) (M_text : Int32) (M_row : Int32) (M_items : Nat → Int32) (M_at : Int32) (M_well : Int32) (M_sort : Int32) (M_field : Nat → Int32) (M_fields : Int32) : Option (Int32 × Int32 × Int32 × (Nat → Int32) × Int32) :=
  if M_well = 0 then (
    fX10_statement_J218 M_at M_well M_sort M_field M_fields)
  else (
    (fX10_byteAt fuel M_at M_text M_row M_items).bind fun o_26 =>
    if o_26 = 59 then (
      zlet (M_at + 1) fun at_28 =>
      some (at_28, M_well, M_sort, M_field, M_fields))
    else (
      fX10_statement_J218 M_at M_well M_sort M_field M_fields))
def fX10_statement_L139 (fuel : Nat) (M_text : Int32) (M_row : Int32) (M_ruleLetters : Nat → Int32) (M_items : Nat → Int32) : Nat → Int32 → Int32 → Int32 → Int32 → (Nat → Int32) → Int32 → Option (Int32 × Int32 × Int32 × (Nat → Int32) × Int32)
  | 0, _, _, _, _, _, _ => none
  | n + 1, v1, M_at, M_well, M_sort, M_field, M_fields =>
    if v1 = (-1) then (
      fX10_statement_J189 fuel M_text M_row M_items M_at M_well M_sort M_field M_fields)
    else (
      zg (zin M_fields 6) <|
      zlet (upd M_field M_fields.toNatClampNeg v1) fun M_field_21 =>
      zlet (M_fields + 1) fun fields_22 =>
      if 6 ≤ fields_22 then (
        fX10_statement_L139 fuel M_text M_row M_ruleLetters M_items n (-1) M_at M_well M_sort M_field_21 fields_22)
      else (
        (fX10_oneOf_ruleLetters fuel M_at M_text M_row M_ruleLetters M_items).bind fun o_24 =>
        fX10_statement_L139 fuel M_text M_row M_ruleLetters M_items n o_24.1 o_24.2 M_well M_sort M_field_21 fields_22))
def fX10_statement_J122 (fuel : Nat) (M_text : Int32) (M_row : Int32) (M_ruleLetters : Nat → Int32) (M_items : Nat → Int32) (M_at : Int32) (M_well : Int32) (M_sort : Int32) (M_field : Nat → Int32) (M_fields : Int32) : Option (Int32 × Int32 × Int32 × (Nat → Int32) × Int32) :=
  if M_sort = 5 then (
    (fX10_oneOf_ruleLetters fuel M_at M_text M_row M_ruleLetters M_items).bind fun o_18 =>
    fX10_statement_L139 fuel M_text M_row M_ruleLetters M_items fuel o_18.1 o_18.2 M_well M_sort M_field M_fields)
  else (
    fX10_statement_J189 fuel M_text M_row M_items M_at M_well M_sort M_field M_fields)
def fX10_statement_J95 (fuel : Nat) (M_text : Int32) (M_row : Int32) (M_ruleLetters : Nat → Int32) (M_items : Nat → Int32) (M_at : Int32) (M_well : Int32) (M_sort : Int32) (M_field : Nat → Int32) (M_fields : Int32) : Option (Int32 × Int32 × Int32 × (Nat → Int32) × Int32) :=
  if M_sort = 0 then (
    (fX10_figure fuel M_at M_well M_text M_row M_items).bind fun o_15 =>
    zlet (upd M_field 2 ((((10 * (M_field 2))) + o_15.1))) fun M_field_16 =>
    fX10_statement_J122 fuel M_text M_row M_ruleLetters M_items o_15.2.1 o_15.2.2 M_sort M_field_16 M_fields)
  else (
    fX10_statement_J122 fuel M_text M_row M_ruleLetters M_items M_at M_well M_sort M_field M_fields)
def fX10_statement_L71 (fuel : Nat) (M_text : Int32) (M_row : Int32) (M_ruleLetters : Nat → Int32) (M_items : Nat → Int32) : Nat → Int32 → Int32 → Int32 → Int32 → (Nat → Int32) → Int32 → Option (Int32 × Int32 × Int32 × (Nat → Int32) × Int32)
  | 0, _, _, _, _, _, _ => none
  | n + 1, v1, M_at, M_well, M_sort, M_field, M_fields =>
    if M_fields ≤ v1 then (
      fX10_statement_J95 fuel M_text M_row M_ruleLetters M_items M_at M_well M_sort M_field M_fields)
    else (
      (fX10_figure fuel M_at M_well M_text M_row M_items).bind fun o_10 =>
      zg (zin v1 6) <|
      zlet (upd M_field v1.toNatClampNeg o_10.1) fun M_field_12 =>
      zlet (v1 + 1) fun v1_13 =>
      fX10_statement_L71 fuel M_text M_row M_ruleLetters M_items n v1_13 o_10.2.1 o_10.2.2 M_sort M_field_12 M_fields)
def fX10_statement (fuel : Nat) (M_at : Int32) (M_well : Int32) (M_sort : Int32) (M_text : Int32) (M_row : Int32) (M_field : Nat → Int32) (M_fields : Int32) (M_begins : Nat → Int32) (M_ruleLetters : Nat → Int32) (M_items : Nat → Int32) : Option (Int32 × Int32 × Int32 × (Nat → Int32) × Int32) :=
  (fX10_oneOf_begins fuel M_at M_text M_row M_begins M_items).bind fun o_1 =>
  if o_1.1 = (-1) then (
    if o_1.1 = 0 then (
      fX10_statement_L71 fuel M_text M_row M_ruleLetters M_items fuel 0 o_1.2 0 o_1.1 M_field 3)
    else (
      if o_1.1 = 1 then (
        fX10_statement_L71 fuel M_text M_row M_ruleLetters M_items fuel 0 o_1.2 0 o_1.1 M_field 2)
      else (
        if o_1.1 = 5 then (
          fX10_statement_L71 fuel M_text M_row M_ruleLetters M_items fuel 0 o_1.2 0 o_1.1 M_field 0)
        else (
          fX10_statement_L71 fuel M_text M_row M_ruleLetters M_items fuel 0 o_1.2 0 o_1.1 M_field 1))))
  else (
    if o_1.1 = 0 then (
      fX10_statement_L71 fuel M_text M_row M_ruleLetters M_items fuel 0 o_1.2 1 o_1.1 M_field 3)
    else (
      if o_1.1 = 1 then (
        fX10_statement_L71 fuel M_text M_row M_ruleLetters M_items fuel 0 o_1.2 1 o_1.1 M_field 2)
      else (
        if o_1.1 = 5 then (
          fX10_statement_L71 fuel M_text M_row M_ruleLetters M_items fuel 0 o_1.2 1 o_1.1 M_field 0)
        else (
          fX10_statement_L71 fuel M_text M_row M_ruleLetters M_items fuel 0 o_1.2 1 o_1.1 M_field 1))))
def fX10_takes_L242 (M_field : Nat → Int32) (M_fields : Int32) : Nat → Int32 → Int32 → (Nat → Int32) → (Nat → Int32) → (Nat → Int32) → Int32 → Int32 → Int32 → Int32 → Int32 → Int32 → (Nat → Int32) → Option (Int32 × Int32 × (Nat → Int32) × (Nat → Int32) × (Nat → Int32) × Int32 × Int32 × Int32 × Int32 × Int32 × Int32 × (Nat → Int32))
  | 0, _, _, _, _, _, _, _, _, _, _, _, _ => none
  | n + 1, v1, M_guests, M_kind, M_figure, M_told, M_heaps, M_holds, M_back, M_mistakes, M_hooks, M_letters, M_rule =>
    if M_fields ≤ v1 then (
      some (1, M_guests, M_kind, M_figure, M_told, M_heaps, M_holds, M_back, M_mistakes, M_hooks, M_letters, M_rule))
    else (
      zg (zin v1 6) <|
      zlet (upd M_rule v1.toNatClampNeg (M_field v1.toNatClampNeg)) fun M_rule_27 =>
      zlet (v1 + 1) fun v1_28 =>
      fX10_takes_L242 M_field M_fields n v1_28 M_guests M_kind M_figure M_told M_heaps M_holds M_back M_mistakes M_hooks M_letters M_rule_27)
def fX10_takes_J219 (fuel : Nat) (M_field : Nat → Int32) (M_guests : Int32) (M_kind : Nat → Int32) (M_figure : Nat → Int32) (M_told : Nat → Int32) (M_heaps : Int32) (M_holds : Int32) (M_back : Int32) (M_mistakes : Int32) (M_hooks : Int32) (M_letters : Int32) (M_rule : Nat → Int32) : Option (Int32 × Int32 × (Nat → Int32) × (Nat → Int32) × (Nat → Int32) × Int32 × Int32 × Int32 × Int32 × Int32 × Int32 × (Nat → Int32)) :=
  (fX10_turnHook fuel M_hooks (M_field 0)).bind fun o_24 =>
  some (1, M_guests, M_kind, M_figure, M_told, M_heaps, M_holds, M_back, M_mistakes, o_24.2, M_letters, M_rule)
def fX10_takes (fuel : Nat) (M_guests : Int32) (M_kind : Nat → Int32) (M_figure : Nat → Int32) (M_told : Nat → Int32) (M_heaps : Int32) (M_holds : Int32) (M_back : Int32) (M_mistakes : Int32) (M_hooks : Int32) (M_letters : Int32) (M_rule : Nat → Int32) (M_sort : Int32) (M_field : Nat → Int32) (M_fields : Int32) : Option (Int32 × Int32 × (Nat → Int32) × (Nat → Int32) × (Nat → Int32) × Int32 × Int32 × Int32 × Int32 × Int32 × Int32 × (Nat → Int32)) :=
  if M_sort = 0 then (
    if 7 < (M_field 0) then (
      some (0, M_guests, M_kind, M_figure, M_told, M_heaps, M_holds, M_back, M_mistakes, M_hooks, M_letters, M_rule))
    else (
      if M_guests = 10 then (
        some (0, M_guests, M_kind, M_figure, M_told, M_heaps, M_holds, M_back, M_mistakes, M_hooks, M_letters, M_rule))
      else (
        (fX10_guestIs fuel M_guests M_kind M_figure M_told (M_field 0) (M_field 1) (M_field 2)).bind fun o_4 =>
        some (1, o_4.2.1, o_4.2.2.1, o_4.2.2.2.1, o_4.2.2.2.2, M_heaps, M_holds, M_back, M_mistakes, M_hooks, M_letters, M_rule))))
  else (
    if M_sort = 1 then (
      zlet (M_field 0) fun heaps_6 =>
      zlet (M_field 1) fun holds_7 =>
      (fX10_isIn fuel heaps_6 1 3).bind fun o_8 =>
      if o_8 = 0 then (
        some (0, M_guests, M_kind, M_figure, M_told, heaps_6, holds_7, M_back, M_mistakes, M_hooks, M_letters, M_rule))
      else (
        if holds_7 ≤ 0 then (
          some (0, M_guests, M_kind, M_figure, M_told, heaps_6, holds_7, M_back, M_mistakes, M_hooks, M_letters, M_rule))
        else (
          some (1, M_guests, M_kind, M_figure, M_told, heaps_6, holds_7, M_back, M_mistakes, M_hooks, M_letters, M_rule))))
    else (
      if M_sort = 2 then (
        zlet (M_field 0) fun back_12 =>
        if 3 ≤ back_12 then (
          some (0, M_guests, M_kind, M_figure, M_told, M_heaps, M_holds, back_12, M_mistakes, M_hooks, M_letters, M_rule))
        else (
          some (1, M_guests, M_kind, M_figure, M_told, M_heaps, M_holds, back_12, M_mistakes, M_hooks, M_letters, M_rule)))
      else (
        if M_sort = 3 then (
          zlet (M_field 0) fun mistakes_15 =>
          if 2 ≤ mistakes_15 then (
            some (0, M_guests, M_kind, M_figure, M_told, M_heaps, M_holds, M_back, mistakes_15, M_hooks, M_letters, M_rule))
          else (
            some (1, M_guests, M_kind, M_figure, M_told, M_heaps, M_holds, M_back, mistakes_15, M_hooks, M_letters, M_rule)))
        else (
          if M_sort = 4 then (
            (fX10_isGuest fuel M_guests (M_field 0)).bind fun o_18 =>
            if o_18 = 0 then (
              some (0, M_guests, M_kind, M_figure, M_told, M_heaps, M_holds, M_back, M_mistakes, M_hooks, M_letters, M_rule))
            else (
              (fX10_hangs fuel M_hooks (M_field 0)).bind fun o_20 =>
              if o_20 = 0 then (
                (fX10_bits fuel M_hooks).bind fun o_22 =>
                if o_22 = 3 then (
                  some (0, M_guests, M_kind, M_figure, M_told, M_heaps, M_holds, M_back, M_mistakes, M_hooks, M_letters, M_rule))
                else (
                  fX10_takes_J219 fuel M_field M_guests M_kind M_figure M_told M_heaps M_holds M_back M_mistakes M_hooks M_letters M_rule))
              else (
                fX10_takes_J219 fuel M_field M_guests M_kind M_figure M_told M_heaps M_holds M_back M_mistakes M_hooks M_letters M_rule)))
          else (
            fX10_takes_L242 M_field M_fields fuel 0 M_guests M_kind M_figure M_told M_heaps M_holds M_back M_mistakes M_hooks M_fields M_rule)))))
def fX10_leaves_J70 (p1 : Int32) (M_guests : Int32) (M_kind : Nat → Int32) (M_figure : Nat → Int32) (M_told : Nat → Int32) (M_hooks : Int32) : Option (Int32 × Int32 × (Nat → Int32) × (Nat → Int32) × (Nat → Int32) × Int32) :=
  zlet (M_guests - 1) fun guests_10 =>
  zlet ((M_hooks &&& (((((1 : Int32) <<< (p1 &&& 31))) - 1)))) fun x_11 =>
  zlet ((((M_hooks >>> ((p1 + 1) &&& 31))) <<< (p1 &&& 31))) fun x_12 =>
  zlet (x_11 ||| x_12) fun hooks_13 =>
  some (guests_10, guests_10, M_kind, M_figure, M_told, hooks_13)
def fX10_leaves_L12 (p1 : Int32) : Nat → Int32 → Int32 → (Nat → Int32) → (Nat → Int32) → (Nat → Int32) → Int32 → Option (Int32 × Int32 × (Nat → Int32) × (Nat → Int32) × (Nat → Int32) × Int32)
  | 0, _, _, _, _, _, _ => none
  | n + 1, v2, M_guests, M_kind, M_figure, M_told, M_hooks =>
    if M_guests ≤ (v2 + 1) then (
      fX10_leaves_J70 p1 M_guests M_kind M_figure M_told M_hooks)
    else (
      zg (zin (v2 + 1) 10) <|
      zg (zin v2 10) <|
      zlet (upd M_kind v2.toNatClampNeg ((M_kind (v2 + 1).toNatClampNeg))) fun M_kind_6 =>
      zlet (upd M_figure v2.toNatClampNeg ((M_figure (v2 + 1).toNatClampNeg))) fun M_figure_7 =>
      zlet (upd M_told v2.toNatClampNeg ((M_told (v2 + 1).toNatClampNeg))) fun M_told_8 =>
      zlet (v2 + 1) fun v2_9 =>
      fX10_leaves_L12 p1 n v2_9 M_guests M_kind_6 M_figure_7 M_told_8 M_hooks)
def fX10_leaves (fuel : Nat) (M_guests : Int32) (M_kind : Nat → Int32) (M_figure : Nat → Int32) (M_told : Nat → Int32) (M_hooks : Int32) (p1 : Int32) : Option (Int32 × Int32 × (Nat → Int32) × (Nat → Int32) × (Nat → Int32) × Int32) :=
  (fX10_isGuest fuel M_guests p1).bind fun o_1 =>
  if o_1 = 0 then (
    some ((-1), M_guests, M_kind, M_figure, M_told, M_hooks))
  else (
    fX10_leaves_L12 p1 fuel p1 M_guests M_kind M_figure M_told M_hooks)
def fX10_goes (fuel : Nat) (M_guests : Int32) (M_told : Nat → Int32) (p1 : Int32) (p2 : Int32) : Option (Int32 × (Nat → Int32)) :=
  (fX10_isGuest fuel M_guests p1).bind fun o_1 =>
  if o_1 = 0 then (
    some ((-1), M_told))
  else (
    (fX10_isIn fuel p2 0 99).bind fun o_3 =>
    if o_3 = 0 then (
      some ((-1), M_told))
    else (
      zg (zin p1 10) <|
      zlet (M_told p1.toNatClampNeg) fun v3_6 =>
      zlet (upd M_told p1.toNatClampNeg p2) fun M_told_7 =>
      some (v3_6, M_told_7)))
def fX10_hook_J34 (fuel : Nat) (p1 : Int32) (M_hooks : Int32) : Option (Int32 × Int32) :=
  (fX10_turnHook fuel M_hooks p1).bind fun o_7 =>
  some (o_7.1, o_7.2)
def fX10_hook (fuel : Nat) (M_guests : Int32) (M_hooks : Int32) (p1 : Int32) : Option (Int32 × Int32) :=
  (fX10_isGuest fuel M_guests p1).bind fun o_1 =>
  if o_1 = 0 then (
    some ((-1), M_hooks))
  else (
    (fX10_hangs fuel M_hooks p1).bind fun o_3 =>
    if o_3 = 0 then (
      (fX10_bits fuel M_hooks).bind fun o_5 =>
      if o_5 = 3 then (
        some ((-2), M_hooks))
      else (
        fX10_hook_J34 fuel p1 M_hooks))
    else (
      fX10_hook_J34 fuel p1 M_hooks))
def fX10_count_L87 (fuel : Nat) (M_guests : Int32) (M_kind : Nat → Int32) (M_figure : Nat → Int32) : Nat → Int32 → Int32 → Option (Int32)
  | 0, _, _ => none
  | n + 1, v2, v3 =>
    if M_guests ≤ v3 then (
      some (v2))
    else (
      (fX10_liftOf fuel M_kind M_figure v3).bind fun o_10 =>
      zlet (v2 + o_10) fun v2_11 =>
      zlet (v3 + 1) fun v3_12 =>
      fX10_count_L87 fuel M_guests M_kind M_figure n v2_11 v3_12)
def fX10_count (fuel : Nat) (M_guests : Int32) (M_kind : Nat → Int32) (M_figure : Nat → Int32) (M_heaps : Int32) (M_holds : Int32) (M_back : Int32) (M_mistakes : Int32) (M_hooks : Int32) (M_letters : Int32) (p1 : Int32) : Option (Int32) :=
  if p1 = 0 then (
    some (M_guests))
  else (
    if p1 = 1 then (
      some (M_heaps))
    else (
      if p1 = 2 then (
        some (M_holds))
      else (
        if p1 = 3 then (
          some (M_back))
        else (
          if p1 = 4 then (
            some (M_mistakes))
          else (
            if p1 = 5 then (
              some (M_hooks))
            else (
              if p1 = 6 then (
                some (M_letters))
              else (
                if p1 = 7 then (
                  fX10_count_L87 fuel M_guests M_kind M_figure fuel 0 0)
                else (
                  some ((-1))))))))))
def fX10_allCome_J40 (k7 : Int32 → (Nat → Int32) → Int32 → Option ((Nat → Int32) × Int32)) (v2 : Int32) (M_coming : Nat → Int32) (M_comingMany : Int32) : Option ((Nat → Int32) × Int32) :=
  zlet (v2 + 1) fun v2_6 =>
  k7 v2_6 M_coming M_comingMany
def fX10_allCome_L7 (M_guests : Int32) (p1 : Int32) : Nat → Int32 → (Nat → Int32) → Int32 → Option ((Nat → Int32) × Int32)
  | 0, _, _, _ => none
  | n + 1, v2, M_coming, M_comingMany =>
    if M_guests ≤ v2 then (
      some (M_coming, M_comingMany))
    else (
      if v2 = p1 then (
        fX10_allCome_J40 (fX10_allCome_L7 M_guests p1 n) v2 M_coming M_comingMany)
      else (
        zg (zin M_comingMany 10) <|
        zlet (upd M_coming M_comingMany.toNatClampNeg v2) fun M_coming_4 =>
        zlet (M_comingMany + 1) fun comingMany_5 =>
        fX10_allCome_J40 (fX10_allCome_L7 M_guests p1 n) v2 M_coming_4 comingMany_5))
def fX10_allCome (fuel : Nat) (M_guests : Int32) (M_coming : Nat → Int32) (M_comingMany : Int32) (p1 : Int32) : Option ((Nat → Int32) × Int32) :=
  fX10_allCome_L7 M_guests p1 fuel 0 M_coming 0
def fX10_goesAhead (fuel : Nat) (M_minute : Nat → Int32) (p1 : Int32) (p2 : Int32) : Option (Int32) :=
  zg (zin p1 10) <|
  zg (zin p2 10) <|
  if (M_minute p1.toNatClampNeg) < (M_minute p2.toNatClampNeg) then (
    some (1))
  else (
    if (M_minute p1.toNatClampNeg) = (M_minute p2.toNatClampNeg) then (
      if p2 ≤ p1 then (
        some (0))
      else (
        some (1)))
    else (
      some (0)))
def fX10_allGo_J67 (k7 : Int32 → (Nat → Int32) → Int32 → Option ((Nat → Int32) × Int32)) (v1 : Int32) (v2 : Int32) (v3 : Int32) (M_going : Nat → Int32) (M_goingMany : Int32) : Option ((Nat → Int32) × Int32) :=
  zg (zin v3 10) <|
  zlet (upd M_going v3.toNatClampNeg v2) fun M_going_12 =>
  zlet (M_goingMany + 1) fun goingMany_13 =>
  zlet (v1 + 1) fun v1_14 =>
  k7 v1_14 M_going_12 goingMany_13
def fX10_allGo_L27 (fuel : Nat) (M_minute : Nat → Int32) (k7 : Int32 → (Nat → Int32) → Int32 → Option ((Nat → Int32) × Int32)) : Nat → Int32 → Int32 → Int32 → (Nat → Int32) → Int32 → Option ((Nat → Int32) × Int32)
  | 0, _, _, _, _, _ => none
  | n + 1, v1, v2, v3, M_going, M_goingMany =>
    if v3 ≤ 0 then (
      fX10_allGo_J67 k7 v1 v2 v3 M_going M_goingMany)
    else (
      zg (zin (v3 - 1) 10) <|
      (fX10_goesAhead fuel M_minute v2 ((M_going (v3 - 1).toNatClampNeg))).bind fun o_6 =>
      if o_6 = 0 then (
        fX10_allGo_J67 k7 v1 v2 v3 M_going M_goingMany)
      else (
        zg (zin v3 10) <|
        zlet (upd M_going v3.toNatClampNeg ((M_going (v3 - 1).toNatClampNeg))) fun M_going_9 =>
        zlet (v3 + (-1)) fun v3_10 =>
        fX10_allGo_L27 fuel M_minute k7 n v1 v2 v3_10 M_going_9 M_goingMany))
def fX10_allGo_L7 (fuel : Nat) (M_coming : Nat → Int32) (M_comingMany : Int32) (M_minute : Nat → Int32) : Nat → Int32 → (Nat → Int32) → Int32 → Option ((Nat → Int32) × Int32)
  | 0, _, _, _ => none
  | n + 1, v1, M_going, M_goingMany =>
    if M_comingMany ≤ v1 then (
      some (M_going, M_goingMany))
    else (
      zg (zin v1 10) <|
      zlet (M_coming v1.toNatClampNeg) fun v2_3 =>
      fX10_allGo_L27 fuel M_minute (fX10_allGo_L7 fuel M_coming M_comingMany M_minute n) fuel v1 v2_3 M_goingMany M_going M_goingMany)
def fX10_allGo (fuel : Nat) (M_coming : Nat → Int32) (M_comingMany : Int32) (M_going : Nat → Int32) (M_goingMany : Int32) (M_minute : Nat → Int32) : Option ((Nat → Int32) × Int32) :=
  fX10_allGo_L7 fuel M_coming M_comingMany M_minute fuel 0 M_going 0
def fX10_minutesAsTold_L2 (fuel : Nat) (M_guests : Int32) (M_kind : Nat → Int32) (M_figure : Nat → Int32) (M_told : Nat → Int32) : Nat → Int32 → (Nat → Int32) → Option ((Nat → Int32))
  | 0, _, _ => none
  | n + 1, v1, M_minute =>
    if M_guests ≤ v1 then (
      some (M_minute))
    else (
      zg (zin v1 10) <|
      (fX10_goesBy fuel (M_kind v1.toNatClampNeg) (M_figure v1.toNatClampNeg) (M_told v1.toNatClampNeg)).bind fun o_3 =>
      zlet (upd M_minute v1.toNatClampNeg o_3) fun M_minute_4 =>
      zlet (v1 + 1) fun v1_5 =>
      fX10_minutesAsTold_L2 fuel M_guests M_kind M_figure M_told n v1_5 M_minute_4)
def fX10_minutesAsTold (fuel : Nat) (M_guests : Int32) (M_kind : Nat → Int32) (M_figure : Nat → Int32) (M_told : Nat → Int32) (M_minute : Nat → Int32) : Option ((Nat → Int32)) :=
  fX10_minutesAsTold_L2 fuel M_guests M_kind M_figure M_told fuel 0 M_minute
def fX10_usual (fuel : Nat) (M_guests : Int32) (M_kind : Nat → Int32) (M_figure : Nat → Int32) (M_told : Nat → Int32) (M_coming : Nat → Int32) (M_comingMany : Int32) (M_going : Nat → Int32) (M_goingMany : Int32) (M_minute : Nat → Int32) : Option ((Nat → Int32) × Int32 × (Nat → Int32) × Int32 × (Nat → Int32)) :=
  (fX10_minutesAsTold fuel M_guests M_kind M_figure M_told M_minute).bind fun o_1 =>
  (fX10_allCome fuel M_guests M_coming M_comingMany (-1)).bind fun o_2 =>
  (fX10_allGo fuel o_2.1 o_2.2 M_going M_goingMany o_1).bind fun o_3 =>
  some (o_2.1, o_2.2, o_3.1, o_3.2, o_1)
def fX10_hasRoom (fuel : Nat) (M_holds : Int32) (M_high : Nat → Int32) (p1 : Int32) : Option (Int32) :=
  zg (zin p1 3) <|
  if M_holds ≤ (M_high p1.toNatClampNeg) then (
    some (0))
  else (
    some (1))
def fX10_topGoes (fuel : Nat) (M_minute : Nat → Int32) (M_pile : Nat → Int32) (M_high : Nat → Int32) (p1 : Int32) : Option (Int32) :=
  zg (zin p1 3) <|
  zlet (((((10 * p1) + (M_high p1.toNatClampNeg))) - 1)) fun x_2 =>
  zg (zin x_2 30) <|
  zg (zin (M_pile x_2.toNatClampNeg) 10) <|
  some ((M_minute (M_pile x_2.toNatClampNeg).toNatClampNeg))
def fX10_isBetter (fuel : Nat) (M_minute : Nat → Int32) (M_pile : Nat → Int32) (M_high : Nat → Int32) (p1 : Int32) (p2 : Int32) (p3 : Int32) (p4 : Int32) : Option (Int32) :=
  if p1 = 1 then (
    if p3 = (-4) then (
      some (1))
    else (
      zg (zin p2 3) <|
      zg (zin p3 3) <|
      if (M_high p3.toNatClampNeg) ≤ (M_high p2.toNatClampNeg) then (
        some (0))
      else (
        some (1))))
  else (
    if p1 = 2 then (
      if p3 = (-4) then (
        zg (zin p2 3) <|
        if (M_high p2.toNatClampNeg) = 0 then (
          some (1))
        else (
          some (0)))
      else (
        some (0)))
    else (
      if p1 = 3 then (
        zg (zin p2 3) <|
        if (M_high p2.toNatClampNeg) ≤ 0 then (
          some (0))
        else (
          if p3 = (-4) then (
            some (1))
          else (
            (fX10_topGoes fuel M_minute M_pile M_high p2).bind fun o_14 =>
            (fX10_topGoes fuel M_minute M_pile M_high p3).bind fun o_15 =>
            if o_14 ≤ o_15 then (
              some (0))
            else (
              some (1)))))
      else (
        if p1 = 4 then (
          zg (zin p2 3) <|
          if (M_high p2.toNatClampNeg) ≤ 0 then (
            some (0))
          else (
            (fX10_topGoes fuel M_minute M_pile M_high p2).bind fun o_20 =>
            if o_20 ≤ p4 then (
              some (0))
            else (
              if p3 = (-4) then (
                some (1))
              else (
                (fX10_topGoes fuel M_minute M_pile M_high p2).bind fun o_23 =>
                (fX10_topGoes fuel M_minute M_pile M_high p3).bind fun o_24 =>
                if o_24 ≤ o_23 then (
                  some (0))
                else (
                  some (1))))))
        else (
          if p3 = (-4) then (
            some (1))
          else (
            some (0))))))
def fX10_heapBy_J76 (k6 : Int32 → Int32 → Option (Int32)) (v3 : Int32) (v4 : Int32) : Option (Int32) :=
  zlet (v4 + 1) fun v4_16 =>
  k6 v3 v4_16
def fX10_heapBy_J46 (fuel : Nat) (M_holds : Int32) (M_minute : Nat → Int32) (M_pile : Nat → Int32) (M_high : Nat → Int32) (p1 : Int32) (p2 : Int32) (k6 : Int32 → Int32 → Option (Int32)) (v3 : Int32) (v4 : Int32) : Option (Int32) :=
  (fX10_hasRoom fuel M_holds M_high v4).bind fun o_11 =>
  if o_11 = 0 then (
    fX10_heapBy_J76 k6 v3 v4)
  else (
    (fX10_isBetter fuel M_minute M_pile M_high p1 v4 v3 p2).bind fun o_13 =>
    if o_13 = 0 then (
      fX10_heapBy_J76 k6 v3 v4)
    else (
      zlet (v4 + 1) fun v4_15 =>
      k6 v4 v4_15))
def fX10_heapBy_L6 (fuel : Nat) (M_heaps : Int32) (M_holds : Int32) (M_minute : Nat → Int32) (M_pile : Nat → Int32) (M_high : Nat → Int32) (M_latest : Int32) (p1 : Int32) (p2 : Int32) : Nat → Int32 → Int32 → Option (Int32)
  | 0, _, _ => none
  | n + 1, v3, v4 =>
    if M_heaps ≤ v4 then (
      some (v3))
    else (
      if p1 = 5 then (
        if M_latest = (-4) then (
          fX10_heapBy_J46 fuel M_holds M_minute M_pile M_high p1 p2 (fX10_heapBy_L6 fuel M_heaps M_holds M_minute M_pile M_high M_latest p1 p2 n) v3 v4)
        else (
          zg (decide (¬ M_heaps = 0)) <|
          zlet (((((M_latest + 1) + v4)) - (((M_latest + 1) + v4)) / M_heaps * M_heaps)) fun x_5 =>
          (fX10_hasRoom fuel M_holds M_high x_5).bind fun o_6 =>
          if o_6 = 0 then (
            fX10_heapBy_J76 (fX10_heapBy_L6 fuel M_heaps M_holds M_minute M_pile M_high M_latest p1 p2 n) v3 v4)
          else (
            (fX10_isBetter fuel M_minute M_pile M_high p1 x_5 v3 p2).bind fun o_8 =>
            if o_8 = 0 then (
              fX10_heapBy_J76 (fX10_heapBy_L6 fuel M_heaps M_holds M_minute M_pile M_high M_latest p1 p2 n) v3 v4)
            else (
              zlet (v4 + 1) fun v4_10 =>
              fX10_heapBy_L6 fuel M_heaps M_holds M_minute M_pile M_high M_latest p1 p2 n x_5 v4_10))))
      else (
        fX10_heapBy_J46 fuel M_holds M_minute M_pile M_high p1 p2 (fX10_heapBy_L6 fuel M_heaps M_holds M_minute M_pile M_high M_latest p1 p2 n) v3 v4))
def fX10_heapBy (fuel : Nat) (M_heaps : Int32) (M_holds : Int32) (M_minute : Nat → Int32) (M_pile : Nat → Int32) (M_high : Nat → Int32) (M_latest : Int32) (p1 : Int32) (p2 : Int32) : Option (Int32) :=
  fX10_heapBy_L6 fuel M_heaps M_holds M_minute M_pile M_high M_latest p1 p2 fuel (-4) 0
def fX10_heapFor_J42 (fuel : Nat) (M_heaps : Int32) (M_holds : Int32) (M_minute : Nat → Int32) (M_pile : Nat → Int32) (M_high : Nat → Int32) (M_latest : Int32) (p1 : Int32) (v2 : Int32) : Option (Int32) :=
  if v2 = (-4) then (
    zg (zin p1 10) <|
    (fX10_heapBy fuel M_heaps M_holds M_minute M_pile M_high M_latest 0 (M_minute p1.toNatClampNeg)).bind fun o_9 =>
    some (o_9))
  else (
    some (v2))
def fX10_heapFor_L5 (fuel : Nat) (M_heaps : Int32) (M_holds : Int32) (M_letters : Int32) (M_rule : Nat → Int32) (M_minute : Nat → Int32) (M_pile : Nat → Int32) (M_high : Nat → Int32) (M_latest : Int32) (p1 : Int32) : Nat → Int32 → Int32 → Option (Int32)
  | 0, _, _ => none
  | n + 1, v2, v3 =>
    if M_letters ≤ v3 then (
      fX10_heapFor_J42 fuel M_heaps M_holds M_minute M_pile M_high M_latest p1 v2)
    else (
      if v2 = (-4) then (
        zg (zin v3 6) <|
        zg (zin p1 10) <|
        (fX10_heapBy fuel M_heaps M_holds M_minute M_pile M_high M_latest (M_rule v3.toNatClampNeg) (M_minute p1.toNatClampNeg)).bind fun o_5 =>
        zlet (v3 + 1) fun v3_6 =>
        fX10_heapFor_L5 fuel M_heaps M_holds M_letters M_rule M_minute M_pile M_high M_latest p1 n o_5 v3_6)
      else (
        fX10_heapFor_J42 fuel M_heaps M_holds M_minute M_pile M_high M_latest p1 v2))
def fX10_heapFor (fuel : Nat) (M_heaps : Int32) (M_holds : Int32) (M_letters : Int32) (M_rule : Nat → Int32) (M_minute : Nat → Int32) (M_pile : Nat → Int32) (M_high : Nat → Int32) (M_latest : Int32) (p1 : Int32) : Option (Int32) :=
  fX10_heapFor_L5 fuel M_heaps M_holds M_letters M_rule M_minute M_pile M_high M_latest p1 fuel (-4) 0
def fX10_putOn (fuel : Nat) (M_pile : Nat → Int32) (M_high : Nat → Int32) (p1 : Int32) (p2 : Int32) : Option ((Nat → Int32) × (Nat → Int32)) :=
  zg (zin p1 3) <|
  zg (zin (((10 * p1) + (M_high p1.toNatClampNeg))) 30) <|
  zlet (upd M_pile (((10 * p1) + (M_high p1.toNatClampNeg))).toNatClampNeg p2) fun M_pile_3 =>
  zlet (upd M_high p1.toNatClampNeg (((M_high p1.toNatClampNeg) + 1))) fun M_high_4 =>
  some (M_pile_3, M_high_4)
def fX10_clear_L8 : Nat → Int32 → (Nat → Int32) → Int32 → Option ((Nat → Int32) × Int32)
  | 0, _, _, _ => none
  | n + 1, v1, M_high, M_latest =>
    if 3 ≤ v1 then (
      some (M_high, M_latest))
    else (
      zg (zin v1 3) <|
      zlet (upd M_high v1.toNatClampNeg 0) fun M_high_3 =>
      zlet (v1 + 1) fun v1_4 =>
      fX10_clear_L8 n v1_4 M_high_3 M_latest)
def fX10_clear (fuel : Nat) (M_high : Nat → Int32) (M_latest : Int32) : Option ((Nat → Int32) × Int32) :=
  fX10_clear_L8 fuel 0 M_high (-4)
def fX10_lay_J80 (k6 : Int32 → (Nat → Int32) → (Nat → Int32) → (Nat → Int32) → Int32 → Option ((Nat → Int32) × (Nat → Int32) × (Nat → Int32) × Int32)) (v1 : Int32) (M_pile : Nat → Int32) (M_high : Nat → Int32) (M_where : Nat → Int32) (M_latest : Int32) : Option ((Nat → Int32) × (Nat → Int32) × (Nat → Int32) × Int32) :=
  zlet (v1 + 1) fun v1_20 =>
  k6 v1_20 M_pile M_high M_where M_latest
def fX10_lay_L6 (fuel : Nat) (M_heaps : Int32) (M_holds : Int32) (M_hooks : Int32) (M_letters : Int32) (M_rule : Nat → Int32) (M_coming : Nat → Int32) (M_comingMany : Int32) (M_minute : Nat → Int32) : Nat → Int32 → (Nat → Int32) → (Nat → Int32) → (Nat → Int32) → Int32 → Option ((Nat → Int32) × (Nat → Int32) × (Nat → Int32) × Int32)
  | 0, _, _, _, _, _ => none
  | n + 1, v1, M_pile, M_high, M_where, M_latest =>
    if M_comingMany ≤ v1 then (
      some (M_pile, M_high, M_where, M_latest))
    else (
      zg (zin v1 10) <|
      zlet (M_coming v1.toNatClampNeg) fun v2_4 =>
      (fX10_hangs fuel M_hooks v2_4).bind fun o_5 =>
      if o_5 = 0 then (
        (fX10_heapFor fuel M_heaps M_holds M_letters M_rule M_minute M_pile M_high M_latest v2_4).bind fun o_7 =>
        zg (zin v2_4 10) <|
        zlet (upd M_where v2_4.toNatClampNeg o_7) fun M_where_9 =>
        (fX10_isIn fuel (M_where_9 v2_4.toNatClampNeg) 0 2).bind fun o_10 =>
        if o_10 = 0 then (
          fX10_lay_J80 (fX10_lay_L6 fuel M_heaps M_holds M_hooks M_letters M_rule M_coming M_comingMany M_minute n) v1 M_pile M_high M_where_9 M_latest)
        else (
          (fX10_putOn fuel M_pile M_high (M_where_9 v2_4.toNatClampNeg) v2_4).bind fun o_12 =>
          zlet (M_where_9 v2_4.toNatClampNeg) fun latest_13 =>
          fX10_lay_J80 (fX10_lay_L6 fuel M_heaps M_holds M_hooks M_letters M_rule M_coming M_comingMany M_minute n) v1 o_12.1 o_12.2 M_where_9 latest_13))
      else (
        zg (zin v2_4 10) <|
        zlet (upd M_where v2_4.toNatClampNeg 9) fun M_where_15 =>
        (fX10_isIn fuel (M_where_15 v2_4.toNatClampNeg) 0 2).bind fun o_16 =>
        if o_16 = 0 then (
          fX10_lay_J80 (fX10_lay_L6 fuel M_heaps M_holds M_hooks M_letters M_rule M_coming M_comingMany M_minute n) v1 M_pile M_high M_where_15 M_latest)
        else (
          (fX10_putOn fuel M_pile M_high (M_where_15 v2_4.toNatClampNeg) v2_4).bind fun o_18 =>
          zlet (M_where_15 v2_4.toNatClampNeg) fun latest_19 =>
          fX10_lay_J80 (fX10_lay_L6 fuel M_heaps M_holds M_hooks M_letters M_rule M_coming M_comingMany M_minute n) v1 o_18.1 o_18.2 M_where_15 latest_19)))
def fX10_lay (fuel : Nat) (M_heaps : Int32) (M_holds : Int32) (M_hooks : Int32) (M_letters : Int32) (M_rule : Nat → Int32) (M_coming : Nat → Int32) (M_comingMany : Int32) (M_minute : Nat → Int32) (M_pile : Nat → Int32) (M_high : Nat → Int32) (M_where : Nat → Int32) (M_latest : Int32) : Option ((Nat → Int32) × (Nat → Int32) × (Nat → Int32) × Int32) :=
  (fX10_clear fuel M_high M_latest).bind fun o_1 =>
  fX10_lay_L6 fuel M_heaps M_holds M_hooks M_letters M_rule M_coming M_comingMany M_minute fuel 0 M_pile o_1.1 M_where o_1.2
def fX10_placeOf_L2 (M_pile : Nat → Int32) (M_high : Nat → Int32) (p1 : Int32) (p2 : Int32) : Nat → Int32 → Option (Int32)
  | 0, _ => none
  | n + 1, v3 =>
    zg (zin p2 3) <|
    if (M_high p2.toNatClampNeg) ≤ v3 then (
      some ((-4)))
    else (
      zg (zin (((10 * p2) + v3)) 30) <|
      if ((M_pile (((10 * p2) + v3)).toNatClampNeg)) = p1 then (
        some (v3))
      else (
        zlet (v3 + 1) fun v3_5 =>
        fX10_placeOf_L2 M_pile M_high p1 p2 n v3_5))
def fX10_placeOf (fuel : Nat) (M_pile : Nat → Int32) (M_high : Nat → Int32) (p1 : Int32) (p2 : Int32) : Option (Int32) :=
  fX10_placeOf_L2 M_pile M_high p1 p2 fuel 0
def fX10_topBlack_L9 (fuel : Nat) (M_kind : Nat → Int32) (M_pile : Nat → Int32) (p1 : Int32) : Nat → Int32 → Option (Int32)
  | 0, _ => none
  | n + 1, v2 =>
    if v2 < 0 then (
      some (v2))
    else (
      zg (zin (((10 * p1) + v2)) 30) <|
      (fX10_isBlack fuel M_kind ((M_pile (((10 * p1) + v2)).toNatClampNeg))).bind fun o_5 =>
      if o_5 = 0 then (
        zlet (v2 + (-1)) fun v2_7 =>
        fX10_topBlack_L9 fuel M_kind M_pile p1 n v2_7)
      else (
        some (v2)))
def fX10_topBlack (fuel : Nat) (M_kind : Nat → Int32) (M_pile : Nat → Int32) (M_high : Nat → Int32) (p1 : Int32) : Option (Int32) :=
  zg (zin p1 3) <|
  zlet (((M_high p1.toNatClampNeg) - 1)) fun v2_2 =>
  fX10_topBlack_L9 fuel M_kind M_pile p1 fuel v2_2
def fX10_dig_J198 (k133 : Int32 → Int32 → (Nat → Int32) → (Nat → Int32) → (Nat → Int32) → (Nat → Int32) → (Nat → Int32) → (Nat → Int32) → (Nat → Int32) → Option ((Nat → Int32) × (Nat → Int32) × (Nat → Int32) × (Nat → Int32) × (Nat → Int32) × (Nat → Int32) × (Nat → Int32))) (v5 : Int32) (v6 : Int32) (M_pile : Nat → Int32) (M_high : Nat → Int32) (M_lifts : Nat → Int32) (M_has : Nat → Int32) (M_lifted : Nat → Int32) (M_taken : Nat → Int32) (M_above : Nat → Int32) : Option ((Nat → Int32) × (Nat → Int32) × (Nat → Int32) × (Nat → Int32) × (Nat → Int32) × (Nat → Int32) × (Nat → Int32)) :=
  zlet (v6 + 1) fun v6_34 =>
  k133 v5 v6_34 M_pile M_high M_lifts M_has M_lifted M_taken M_above
def fX10_dig_L133 (fuel : Nat) (M_heaps : Int32) (M_back : Int32) (p2 : Int32) : Nat → Int32 → Int32 → (Nat → Int32) → (Nat → Int32) → (Nat → Int32) → (Nat → Int32) → (Nat → Int32) → (Nat → Int32) → (Nat → Int32) → Option ((Nat → Int32) × (Nat → Int32) × (Nat → Int32) × (Nat → Int32) × (Nat → Int32) × (Nat → Int32) × (Nat → Int32))
  | 0, _, _, _, _, _, _, _, _, _ => none
  | n + 1, v5, v6, M_pile, M_high, M_lifts, M_has, M_lifted, M_taken, M_above =>
    if v5 ≤ v6 then (
      some (M_pile, M_high, M_lifts, M_has, M_lifted, M_taken, M_above))
    else (
      if M_back = 0 then (
        zg (zin (((v5 - 1) - v6)) 10) <|
        (fX10_putOn fuel M_pile M_high p2 ((M_above (((v5 - 1) - v6)).toNatClampNeg))).bind fun o_33 =>
        fX10_dig_J198 (fX10_dig_L133 fuel M_heaps M_back p2 n) v5 v6 o_33.1 o_33.2 M_lifts M_has M_lifted M_taken M_above)
      else (
        if M_back = 2 then (
          zg (decide (¬ M_heaps = 0)) <|
          zg (zin v6 10) <|
          (fX10_putOn fuel M_pile M_high (((p2 + 1) - (p2 + 1) / M_heaps * M_heaps)) (M_above v6.toNatClampNeg)).bind fun o_31 =>
          fX10_dig_J198 (fX10_dig_L133 fuel M_heaps M_back p2 n) v5 v6 o_31.1 o_31.2 M_lifts M_has M_lifted M_taken M_above)
        else (
          zg (zin v6 10) <|
          (fX10_putOn fuel M_pile M_high p2 (M_above v6.toNatClampNeg)).bind fun o_28 =>
          fX10_dig_J198 (fX10_dig_L133 fuel M_heaps M_back p2 n) v5 v6 o_28.1 o_28.2 M_lifts M_has M_lifted M_taken M_above)))
def fX10_dig_J96 (fuel : Nat) (M_heaps : Int32) (M_back : Int32) (p1 : Int32) (p2 : Int32) (p3 : Int32) (v4 : Int32) (v5 : Int32) (M_pile : Nat → Int32) (M_high : Nat → Int32) (M_lifts : Nat → Int32) (M_has : Nat → Int32) (M_lifted : Nat → Int32) (M_taken : Nat → Int32) (M_above : Nat → Int32) : Option ((Nat → Int32) × (Nat → Int32) × (Nat → Int32) × (Nat → Int32) × (Nat → Int32) × (Nat → Int32) × (Nat → Int32)) :=
  zg (zin (v4 + p3) 30) <|
  zg (zin p1 10) <|
  zlet (upd M_has p1.toNatClampNeg ((M_pile (v4 + p3).toNatClampNeg))) fun M_has_19 =>
  zg (zin (M_has_19 p1.toNatClampNeg) 10) <|
  zlet (upd M_taken (M_has_19 p1.toNatClampNeg).toNatClampNeg (vp_nar .boolean 1)) fun M_taken_21 =>
  zg (zin p2 3) <|
  zlet (upd M_high p2.toNatClampNeg p3) fun M_high_23 =>
  fX10_dig_L133 fuel M_heaps M_back p2 fuel v5 0 M_pile M_high_23 M_lifts M_has_19 M_lifted M_taken_21 M_above
def fX10_dig_L21 (fuel : Nat) (M_kind : Nat → Int32) (M_figure : Nat → Int32) (M_heaps : Int32) (M_back : Int32) (p1 : Int32) (p2 : Int32) (p3 : Int32) : Nat → Int32 → Int32 → Int32 → (Nat → Int32) → (Nat → Int32) → (Nat → Int32) → (Nat → Int32) → (Nat → Int32) → (Nat → Int32) → (Nat → Int32) → Option ((Nat → Int32) × (Nat → Int32) × (Nat → Int32) × (Nat → Int32) × (Nat → Int32) × (Nat → Int32) × (Nat → Int32))
  | 0, _, _, _, _, _, _, _, _, _, _ => none
  | n + 1, v4, v5, v6, M_pile, M_high, M_lifts, M_has, M_lifted, M_taken, M_above =>
    if v5 ≤ v6 then (
      fX10_dig_J96 fuel M_heaps M_back p1 p2 p3 v4 v5 M_pile M_high M_lifts M_has M_lifted M_taken M_above)
    else (
      zg (zin p2 3) <|
      zlet ((((((v4 + (M_high p2.toNatClampNeg))) - 1)) - v6)) fun x_6 =>
      zg (zin x_6 30) <|
      zg (zin v6 10) <|
      zlet (upd M_above v6.toNatClampNeg (M_pile x_6.toNatClampNeg)) fun M_above_9 =>
      zg (zin p1 10) <|
      (fX10_liftOf fuel M_kind M_figure (M_above_9 v6.toNatClampNeg)).bind fun o_11 =>
      zlet (upd M_lifts p1.toNatClampNeg (((M_lifts p1.toNatClampNeg) + o_11))) fun M_lifts_12 =>
      zg (zin (M_above_9 v6.toNatClampNeg) 10) <|
      zlet ((((M_lifted (M_above_9 v6.toNatClampNeg).toNatClampNeg)) + 1)) fun x_14 =>
      zlet (upd M_lifted (M_above_9 v6.toNatClampNeg).toNatClampNeg x_14) fun M_lifted_15 =>
      zlet (v6 + 1) fun v6_16 =>
      fX10_dig_L21 fuel M_kind M_figure M_heaps M_back p1 p2 p3 n v4 v5 v6_16 M_pile M_high M_lifts_12 M_has M_lifted_15 M_taken M_above_9)
def fX10_dig (fuel : Nat) (M_kind : Nat → Int32) (M_figure : Nat → Int32) (M_heaps : Int32) (M_back : Int32) (M_pile : Nat → Int32) (M_high : Nat → Int32) (M_lifts : Nat → Int32) (M_has : Nat → Int32) (M_lifted : Nat → Int32) (M_taken : Nat → Int32) (M_above : Nat → Int32) (p1 : Int32) (p2 : Int32) (p3 : Int32) : Option ((Nat → Int32) × (Nat → Int32) × (Nat → Int32) × (Nat → Int32) × (Nat → Int32) × (Nat → Int32) × (Nat → Int32)) :=
  zlet (10 * p2) fun v4_1 =>
  zg (zin p2 3) <|
  zlet (((((M_high p2.toNatClampNeg) - 1)) - p3)) fun v5_3 =>
  fX10_dig_L21 fuel M_kind M_figure M_heaps M_back p1 p2 p3 fuel v4_1 v5_3 0 M_pile M_high M_lifts M_has M_lifted M_taken M_above
def fX10_takeAny_J20 (fuel : Nat) (M_kind : Nat → Int32) (M_figure : Nat → Int32) (M_heaps : Int32) (M_back : Int32) (p1 : Int32) (v2 : Int32) (v3 : Int32) (M_pile : Nat → Int32) (M_high : Nat → Int32) (M_lifts : Nat → Int32) (M_has : Nat → Int32) (M_lifted : Nat → Int32) (M_taken : Nat → Int32) (M_above : Nat → Int32) : Option ((Nat → Int32) × (Nat → Int32) × (Nat → Int32) × (Nat → Int32) × (Nat → Int32) × (Nat → Int32) × (Nat → Int32)) :=
  (fX10_dig fuel M_kind M_figure M_heaps M_back M_pile M_high M_lifts M_has M_lifted M_taken M_above p1 v2 v3).bind fun o_5 =>
  some (o_5.1, o_5.2.1, o_5.2.2.1, o_5.2.2.2.1, o_5.2.2.2.2.1, o_5.2.2.2.2.2.1, o_5.2.2.2.2.2.2)
def fX10_takeAny_L2 (fuel : Nat) (M_kind : Nat → Int32) (M_figure : Nat → Int32) (M_heaps : Int32) (M_back : Int32) (p1 : Int32) : Nat → Int32 → (Nat → Int32) → (Nat → Int32) → (Nat → Int32) → (Nat → Int32) → (Nat → Int32) → (Nat → Int32) → (Nat → Int32) → Option ((Nat → Int32) × (Nat → Int32) × (Nat → Int32) × (Nat → Int32) × (Nat → Int32) × (Nat → Int32) × (Nat → Int32))
  | 0, _, _, _, _, _, _, _, _ => none
  | n + 1, v2, M_pile, M_high, M_lifts, M_has, M_lifted, M_taken, M_above =>
    if M_heaps ≤ v2 then (
      some (M_pile, M_high, M_lifts, M_has, M_lifted, M_taken, M_above))
    else (
      (fX10_topBlack fuel M_kind M_pile M_high v2).bind fun o_2 =>
      if o_2 < 0 then (
        zlet (v2 + 1) fun v2_4 =>
        fX10_takeAny_L2 fuel M_kind M_figure M_heaps M_back p1 n v2_4 M_pile M_high M_lifts M_has M_lifted M_taken M_above)
      else (
        fX10_takeAny_J20 fuel M_kind M_figure M_heaps M_back p1 v2 o_2 M_pile M_high M_lifts M_has M_lifted M_taken M_above))
def fX10_takeAny (fuel : Nat) (M_kind : Nat → Int32) (M_figure : Nat → Int32) (M_heaps : Int32) (M_back : Int32) (M_pile : Nat → Int32) (M_high : Nat → Int32) (M_lifts : Nat → Int32) (M_has : Nat → Int32) (M_lifted : Nat → Int32) (M_taken : Nat → Int32) (M_above : Nat → Int32) (p1 : Int32) : Option ((Nat → Int32) × (Nat → Int32) × (Nat → Int32) × (Nat → Int32) × (Nat → Int32) × (Nat → Int32) × (Nat → Int32)) :=
  fX10_takeAny_L2 fuel M_kind M_figure M_heaps M_back p1 fuel 0 M_pile M_high M_lifts M_has M_lifted M_taken M_above
def fX10_goOne_J37 (M_minute : Nat → Int32) (p1 : Int32) (M_pile : Nat → Int32) (M_high : Nat → Int32) (M_lifts : Nat → Int32) (M_begun : Nat → Int32) (M_left : Nat → Int32) (M_has : Nat → Int32) (M_lifted : Nat → Int32) (M_taken : Nat → Int32) (M_above : Nat → Int32) (M_allLifts : Int32) (M_busy : Int32) : Option ((Nat → Int32) × (Nat → Int32) × (Nat → Int32) × (Nat → Int32) × (Nat → Int32) × (Nat → Int32) × (Nat → Int32) × (Nat → Int32) × (Nat → Int32) × Int32 × Int32) :=
  zg (zin p1 10) <|
  zlet (upd M_has p1.toNatClampNeg p1) fun M_has_29 =>
  zlet (upd M_taken p1.toNatClampNeg (vp_nar .boolean 1)) fun M_taken_30 =>
  zlet (upd M_begun p1.toNatClampNeg (M_minute p1.toNatClampNeg)) fun M_begun_31 =>
  zlet (upd M_left p1.toNatClampNeg (M_minute p1.toNatClampNeg)) fun M_left_32 =>
  some (M_pile, M_high, M_lifts, M_begun_31, M_left_32, M_has_29, M_lifted, M_taken_30, M_above, M_allLifts, M_busy)
def fX10_goOne_J162 (M_minute : Nat → Int32) (p1 : Int32) (M_pile : Nat → Int32) (M_high : Nat → Int32) (M_lifts : Nat → Int32) (M_begun : Nat → Int32) (M_left : Nat → Int32) (M_has : Nat → Int32) (M_lifted : Nat → Int32) (M_taken : Nat → Int32) (M_above : Nat → Int32) (M_allLifts : Int32) (M_busy : Int32) : Option ((Nat → Int32) × (Nat → Int32) × (Nat → Int32) × (Nat → Int32) × (Nat → Int32) × (Nat → Int32) × (Nat → Int32) × (Nat → Int32) × (Nat → Int32) × Int32 × Int32) :=
  zg (zin p1 10) <|
  zlet ((zmax (M_minute p1.toNatClampNeg) M_busy)) fun x_22 =>
  zlet (upd M_begun p1.toNatClampNeg x_22) fun M_begun_23 =>
  zlet (((M_begun_23 p1.toNatClampNeg) + (M_lifts p1.toNatClampNeg))) fun x_24 =>
  zlet (upd M_left p1.toNatClampNeg x_24) fun M_left_25 =>
  zlet (M_left_25 p1.toNatClampNeg) fun busy_26 =>
  zlet ((M_allLifts + (M_lifts p1.toNatClampNeg))) fun allLifts_27 =>
  some (M_pile, M_high, M_lifts, M_begun_23, M_left_25, M_has, M_lifted, M_taken, M_above, allLifts_27, busy_26)
def fX10_goOne_J156 (k95 : Int32 → (Nat → Int32) → (Nat → Int32) → (Nat → Int32) → (Nat → Int32) → (Nat → Int32) → (Nat → Int32) → (Nat → Int32) → (Nat → Int32) → (Nat → Int32) → Int32 → Int32 → Option ((Nat → Int32) × (Nat → Int32) × (Nat → Int32) × (Nat → Int32) × (Nat → Int32) × (Nat → Int32) × (Nat → Int32) × (Nat → Int32) × (Nat → Int32) × Int32 × Int32)) (v2 : Int32) (M_pile : Nat → Int32) (M_high : Nat → Int32) (M_lifts : Nat → Int32) (M_begun : Nat → Int32) (M_left : Nat → Int32) (M_has : Nat → Int32) (M_lifted : Nat → Int32) (M_taken : Nat → Int32) (M_above : Nat → Int32) (M_allLifts : Int32) (M_busy : Int32) : Option ((Nat → Int32) × (Nat → Int32) × (Nat → Int32) × (Nat → Int32) × (Nat → Int32) × (Nat → Int32) × (Nat → Int32) × (Nat → Int32) × (Nat → Int32) × Int32 × Int32) :=
  zlet (v2 + 1) fun v2_20 =>
  k95 v2_20 M_pile M_high M_lifts M_begun M_left M_has M_lifted M_taken M_above M_allLifts M_busy
def fX10_goOne_L95 (fuel : Nat) (M_kind : Nat → Int32) (M_figure : Nat → Int32) (M_heaps : Int32) (M_back : Int32) (M_mistakes : Int32) (M_minute : Nat → Int32) (p1 : Int32) : Nat → Int32 → (Nat → Int32) → (Nat → Int32) → (Nat → Int32) → (Nat → Int32) → (Nat → Int32) → (Nat → Int32) → (Nat → Int32) → (Nat → Int32) → (Nat → Int32) → Int32 → Int32 → Option ((Nat → Int32) × (Nat → Int32) × (Nat → Int32) × (Nat → Int32) × (Nat → Int32) × (Nat → Int32) × (Nat → Int32) × (Nat → Int32) × (Nat → Int32) × Int32 × Int32)
  | 0, _, _, _, _, _, _, _, _, _, _, _, _ => none
  | n + 1, v2, M_pile, M_high, M_lifts, M_begun, M_left, M_has, M_lifted, M_taken, M_above, M_allLifts, M_busy =>
    if M_heaps ≤ v2 then (
      fX10_goOne_J162 M_minute p1 M_pile M_high M_lifts M_begun M_left M_has M_lifted M_taken M_above M_allLifts M_busy)
    else (
      zg (zin p1 10) <|
      if (M_has p1.toNatClampNeg) = (-4) then (
        (fX10_placeOf fuel M_pile M_high p1 v2).bind fun o_11 =>
        if o_11 < 0 then (
          fX10_goOne_J156 (fX10_goOne_L95 fuel M_kind M_figure M_heaps M_back M_mistakes M_minute p1 n) v2 M_pile M_high M_lifts M_begun M_left M_has M_lifted M_taken M_above M_allLifts M_busy)
        else (
          if M_mistakes = 1 then (
            (fX10_isBlack fuel M_kind p1).bind fun o_15 =>
            if o_15 = 0 then (
              (fX10_dig fuel M_kind M_figure M_heaps M_back M_pile M_high M_lifts M_has M_lifted M_taken M_above p1 v2 o_11).bind fun o_17 =>
              fX10_goOne_J156 (fX10_goOne_L95 fuel M_kind M_figure M_heaps M_back M_mistakes M_minute p1 n) v2 o_17.1 o_17.2.1 o_17.2.2.1 M_begun M_left o_17.2.2.2.1 o_17.2.2.2.2.1 o_17.2.2.2.2.2.1 o_17.2.2.2.2.2.2 M_allLifts M_busy)
            else (
              (fX10_topBlack fuel M_kind M_pile M_high v2).bind fun o_18 =>
              (fX10_dig fuel M_kind M_figure M_heaps M_back M_pile M_high M_lifts M_has M_lifted M_taken M_above p1 v2 o_18).bind fun o_19 =>
              fX10_goOne_J156 (fX10_goOne_L95 fuel M_kind M_figure M_heaps M_back M_mistakes M_minute p1 n) v2 o_19.1 o_19.2.1 o_19.2.2.1 M_begun M_left o_19.2.2.2.1 o_19.2.2.2.2.1 o_19.2.2.2.2.2.1 o_19.2.2.2.2.2.2 M_allLifts M_busy))
          else (
            (fX10_dig fuel M_kind M_figure M_heaps M_back M_pile M_high M_lifts M_has M_lifted M_taken M_above p1 v2 o_11).bind fun o_14 =>
            fX10_goOne_J156 (fX10_goOne_L95 fuel M_kind M_figure M_heaps M_back M_mistakes M_minute p1 n) v2 o_14.1 o_14.2.1 o_14.2.2.1 M_begun M_left o_14.2.2.2.1 o_14.2.2.2.2.1 o_14.2.2.2.2.2.1 o_14.2.2.2.2.2.2 M_allLifts M_busy)))
      else (
        fX10_goOne_J162 M_minute p1 M_pile M_high M_lifts M_begun M_left M_has M_lifted M_taken M_above M_allLifts M_busy))
def fX10_goOne (fuel : Nat) (M_kind : Nat → Int32) (M_figure : Nat → Int32) (M_heaps : Int32) (M_back : Int32) (M_mistakes : Int32) (M_minute : Nat → Int32) (M_pile : Nat → Int32) (M_high : Nat → Int32) (M_where : Nat → Int32) (M_lifts : Nat → Int32) (M_begun : Nat → Int32) (M_left : Nat → Int32) (M_has : Nat → Int32) (M_lifted : Nat → Int32) (M_taken : Nat → Int32) (M_above : Nat → Int32) (M_allLifts : Int32) (M_busy : Int32) (p1 : Int32) : Option ((Nat → Int32) × (Nat → Int32) × (Nat → Int32) × (Nat → Int32) × (Nat → Int32) × (Nat → Int32) × (Nat → Int32) × (Nat → Int32) × (Nat → Int32) × Int32 × Int32) :=
  zg (zin p1 10) <|
  zlet (upd M_lifts p1.toNatClampNeg 0) fun M_lifts_2 =>
  zlet (upd M_has p1.toNatClampNeg (-4)) fun M_has_3 =>
  if (M_where p1.toNatClampNeg) = 9 then (
    fX10_goOne_J37 M_minute p1 M_pile M_high M_lifts_2 M_begun M_left M_has_3 M_lifted M_taken M_above M_allLifts M_busy)
  else (
    if (M_where p1.toNatClampNeg) = (-4) then (
      fX10_goOne_J37 M_minute p1 M_pile M_high M_lifts_2 M_begun M_left M_has_3 M_lifted M_taken M_above M_allLifts M_busy)
    else (
      if (M_taken p1.toNatClampNeg) = 0 then (
        fX10_goOne_L95 fuel M_kind M_figure M_heaps M_back M_mistakes M_minute p1 fuel 0 M_pile M_high M_lifts_2 M_begun M_left M_has_3 M_lifted M_taken M_above M_allLifts M_busy)
      else (
        (fX10_takeAny fuel M_kind M_figure M_heaps M_back M_pile M_high M_lifts_2 M_has_3 M_lifted M_taken M_above p1).bind fun o_7 =>
        fX10_goOne_J162 M_minute p1 o_7.1 o_7.2.1 o_7.2.2.1 M_begun M_left o_7.2.2.2.1 o_7.2.2.2.2.1 o_7.2.2.2.2.2.1 o_7.2.2.2.2.2.2 M_allLifts M_busy)))
def fX10_turnOver_J119 (k2 : Int32 → (Nat → Int32) → Int32 → Option ((Nat → Int32) × Int32)) (v1 : Int32) (M_pile : Nat → Int32) (M_allLifts : Int32) : Option ((Nat → Int32) × Int32) :=
  zlet (v1 + 1) fun v1_19 =>
  k2 v1_19 M_pile M_allLifts
def fX10_turnOver_L66 (k2 : Int32 → (Nat → Int32) → Int32 → Option ((Nat → Int32) × Int32)) : Nat → Int32 → Int32 → Int32 → Int32 → (Nat → Int32) → Int32 → Option ((Nat → Int32) × Int32)
  | 0, _, _, _, _, _, _ => none
  | n + 1, v1, v2, v3, v4, M_pile, M_allLifts =>
    if v4 ≤ v3 then (
      fX10_turnOver_J119 k2 v1 M_pile M_allLifts)
    else (
      zg (zin (v2 + v3) 30) <|
      zlet ((M_pile (v2 + v3).toNatClampNeg)) fun v5_13 =>
      zg (zin (v2 + v4) 30) <|
      zlet (upd M_pile (v2 + v3).toNatClampNeg ((M_pile (v2 + v4).toNatClampNeg))) fun M_pile_15 =>
      zlet (upd M_pile_15 (v2 + v4).toNatClampNeg v5_13) fun M_pile_16 =>
      zlet (v3 + 1) fun v3_17 =>
      zlet (v4 + (-1)) fun v4_18 =>
      fX10_turnOver_L66 k2 n v1 v2 v3_17 v4_18 M_pile_16 M_allLifts)
def fX10_turnOver_J54 (fuel : Nat) (M_high : Nat → Int32) (k2 : Int32 → (Nat → Int32) → Int32 → Option ((Nat → Int32) × Int32)) (v1 : Int32) (v2 : Int32) (M_pile : Nat → Int32) (M_allLifts : Int32) : Option ((Nat → Int32) × Int32) :=
  zg (zin v1 3) <|
  zlet (((M_high v1.toNatClampNeg) - 1)) fun v4_10 =>
  fX10_turnOver_L66 k2 fuel v1 v2 0 v4_10 M_pile M_allLifts
def fX10_turnOver_L17 (fuel : Nat) (M_kind : Nat → Int32) (M_figure : Nat → Int32) (M_high : Nat → Int32) (k2 : Int32 → (Nat → Int32) → Int32 → Option ((Nat → Int32) × Int32)) : Nat → Int32 → Int32 → Int32 → (Nat → Int32) → Int32 → Option ((Nat → Int32) × Int32)
  | 0, _, _, _, _, _ => none
  | n + 1, v1, v2, v3, M_pile, M_allLifts =>
    zg (zin v1 3) <|
    if (M_high v1.toNatClampNeg) ≤ v3 then (
      fX10_turnOver_J54 fuel M_high k2 v1 v2 M_pile M_allLifts)
    else (
      zg (zin (v2 + v3) 30) <|
      (fX10_liftOf fuel M_kind M_figure ((M_pile (v2 + v3).toNatClampNeg))).bind fun o_6 =>
      zlet (M_allLifts + o_6) fun allLifts_7 =>
      zlet (v3 + 1) fun v3_8 =>
      fX10_turnOver_L17 fuel M_kind M_figure M_high k2 n v1 v2 v3_8 M_pile allLifts_7)
def fX10_turnOver_L2 (fuel : Nat) (M_kind : Nat → Int32) (M_figure : Nat → Int32) (M_heaps : Int32) (M_high : Nat → Int32) : Nat → Int32 → (Nat → Int32) → Int32 → Option ((Nat → Int32) × Int32)
  | 0, _, _, _ => none
  | n + 1, v1, M_pile, M_allLifts =>
    if M_heaps ≤ v1 then (
      some (M_pile, M_allLifts))
    else (
      zlet (10 * v1) fun v2_2 =>
      fX10_turnOver_L17 fuel M_kind M_figure M_high (fX10_turnOver_L2 fuel M_kind M_figure M_heaps M_high n) fuel v1 v2_2 0 M_pile M_allLifts)
def fX10_turnOver (fuel : Nat) (M_kind : Nat → Int32) (M_figure : Nat → Int32) (M_heaps : Int32) (M_pile : Nat → Int32) (M_high : Nat → Int32) (M_allLifts : Int32) : Option ((Nat → Int32) × Int32) :=
  fX10_turnOver_L2 fuel M_kind M_figure M_heaps M_high fuel 0 M_pile M_allLifts
def fX10_go_J81 (fuel : Nat) (M_kind : Nat → Int32) (M_figure : Nat → Int32) (M_heaps : Int32) (M_back : Int32) (M_mistakes : Int32) (M_going : Nat → Int32) (M_minute : Nat → Int32) (M_where : Nat → Int32) (k49 : Int32 → Int32 → (Nat → Int32) → (Nat → Int32) → (Nat → Int32) → (Nat → Int32) → (Nat → Int32) → (Nat → Int32) → (Nat → Int32) → (Nat → Int32) → (Nat → Int32) → Int32 → Int32 → Option (Int32 × (Nat → Int32) × (Nat → Int32) × (Nat → Int32) × (Nat → Int32) × (Nat → Int32) × (Nat → Int32) × (Nat → Int32) × (Nat → Int32) × (Nat → Int32) × Int32 × Int32)) (v3 : Int32) (v4 : Int32) (M_pile : Nat → Int32) (M_high : Nat → Int32) (M_lifts : Nat → Int32) (M_begun : Nat → Int32) (M_left : Nat → Int32) (M_has : Nat → Int32) (M_lifted : Nat → Int32) (M_taken : Nat → Int32) (M_above : Nat → Int32) (M_allLifts : Int32) (M_busy : Int32) : Option (Int32 × (Nat → Int32) × (Nat → Int32) × (Nat → Int32) × (Nat → Int32) × (Nat → Int32) × (Nat → Int32) × (Nat → Int32) × (Nat → Int32) × (Nat → Int32) × Int32 × Int32) :=
  zg (zin v4 10) <|
  (fX10_goOne fuel M_kind M_figure M_heaps M_back M_mistakes M_minute M_pile M_high M_where M_lifts M_begun M_left M_has M_lifted M_taken M_above M_allLifts M_busy (M_going v4.toNatClampNeg)).bind fun o_13 =>
  zlet (v4 + 1) fun v4_14 =>
  k49 v3 v4_14 o_13.1 o_13.2.1 o_13.2.2.1 o_13.2.2.2.1 o_13.2.2.2.2.1 o_13.2.2.2.2.2.1 o_13.2.2.2.2.2.2.1 o_13.2.2.2.2.2.2.2.1 o_13.2.2.2.2.2.2.2.2.1 o_13.2.2.2.2.2.2.2.2.2.1 o_13.2.2.2.2.2.2.2.2.2.2
def fX10_go_L49 (fuel : Nat) (M_kind : Nat → Int32) (M_figure : Nat → Int32) (M_heaps : Int32) (M_back : Int32) (M_mistakes : Int32) (M_going : Nat → Int32) (M_minute : Nat → Int32) (M_where : Nat → Int32) (p1 : Int32) (p2 : Int32) : Nat → Int32 → Int32 → (Nat → Int32) → (Nat → Int32) → (Nat → Int32) → (Nat → Int32) → (Nat → Int32) → (Nat → Int32) → (Nat → Int32) → (Nat → Int32) → (Nat → Int32) → Int32 → Int32 → Option (Int32 × (Nat → Int32) × (Nat → Int32) × (Nat → Int32) × (Nat → Int32) × (Nat → Int32) × (Nat → Int32) × (Nat → Int32) × (Nat → Int32) × (Nat → Int32) × Int32 × Int32)
  | 0, _, _, _, _, _, _, _, _, _, _, _, _, _ => none
  | n + 1, v3, v4, M_pile, M_high, M_lifts, M_begun, M_left, M_has, M_lifted, M_taken, M_above, M_allLifts, M_busy =>
    if p1 ≤ v4 then (
      some (M_allLifts, M_pile, M_high, M_lifts, M_begun, M_left, M_has, M_lifted, M_taken, M_above, M_allLifts, M_busy))
    else (
      if v3 = 0 then (
        zg (zin v4 10) <|
        zg (zin (M_going v4.toNatClampNeg) 10) <|
        if ((M_minute (M_going v4.toNatClampNeg).toNatClampNeg)) < p2 then (
          fX10_go_J81 fuel M_kind M_figure M_heaps M_back M_mistakes M_going M_minute M_where (fX10_go_L49 fuel M_kind M_figure M_heaps M_back M_mistakes M_going M_minute M_where p1 p2 n) v3 v4 M_pile M_high M_lifts M_begun M_left M_has M_lifted M_taken M_above M_allLifts M_busy)
        else (
          (fX10_turnOver fuel M_kind M_figure M_heaps M_pile M_high M_allLifts).bind fun o_11 =>
          fX10_go_J81 fuel M_kind M_figure M_heaps M_back M_mistakes M_going M_minute M_where (fX10_go_L49 fuel M_kind M_figure M_heaps M_back M_mistakes M_going M_minute M_where p1 p2 n) 1 v4 o_11.1 M_high M_lifts M_begun M_left M_has M_lifted M_taken M_above o_11.2 M_busy))
      else (
        fX10_go_J81 fuel M_kind M_figure M_heaps M_back M_mistakes M_going M_minute M_where (fX10_go_L49 fuel M_kind M_figure M_heaps M_back M_mistakes M_going M_minute M_where p1 p2 n) v3 v4 M_pile M_high M_lifts M_begun M_left M_has M_lifted M_taken M_above M_allLifts M_busy))
def fX10_go_J46 (fuel : Nat) (M_kind : Nat → Int32) (M_figure : Nat → Int32) (M_heaps : Int32) (M_back : Int32) (M_mistakes : Int32) (M_going : Nat → Int32) (M_minute : Nat → Int32) (M_where : Nat → Int32) (p1 : Int32) (p2 : Int32) (v3 : Int32) (M_pile : Nat → Int32) (M_high : Nat → Int32) (M_lifts : Nat → Int32) (M_begun : Nat → Int32) (M_left : Nat → Int32) (M_has : Nat → Int32) (M_lifted : Nat → Int32) (M_taken : Nat → Int32) (M_above : Nat → Int32) (M_allLifts : Int32) (M_busy : Int32) : Option (Int32 × (Nat → Int32) × (Nat → Int32) × (Nat → Int32) × (Nat → Int32) × (Nat → Int32) × (Nat → Int32) × (Nat → Int32) × (Nat → Int32) × (Nat → Int32) × Int32 × Int32) :=
  fX10_go_L49 fuel M_kind M_figure M_heaps M_back M_mistakes M_going M_minute M_where p1 p2 fuel v3 0 M_pile M_high M_lifts M_begun M_left M_has M_lifted M_taken M_above M_allLifts M_busy
def fX10_go_L15 (fuel : Nat) (M_guests : Int32) (M_kind : Nat → Int32) (M_figure : Nat → Int32) (M_heaps : Int32) (M_back : Int32) (M_mistakes : Int32) (M_going : Nat → Int32) (M_minute : Nat → Int32) (M_where : Nat → Int32) (p1 : Int32) (p2 : Int32) : Nat → Int32 → Int32 → (Nat → Int32) → (Nat → Int32) → (Nat → Int32) → (Nat → Int32) → (Nat → Int32) → (Nat → Int32) → (Nat → Int32) → (Nat → Int32) → (Nat → Int32) → Int32 → Int32 → Option (Int32 × (Nat → Int32) × (Nat → Int32) × (Nat → Int32) × (Nat → Int32) × (Nat → Int32) × (Nat → Int32) × (Nat → Int32) × (Nat → Int32) × (Nat → Int32) × Int32 × Int32)
  | 0, _, _, _, _, _, _, _, _, _, _, _, _, _ => none
  | n + 1, v3, v4, M_pile, M_high, M_lifts, M_begun, M_left, M_has, M_lifted, M_taken, M_above, M_allLifts, M_busy =>
    if M_guests ≤ v4 then (
      fX10_go_J46 fuel M_kind M_figure M_heaps M_back M_mistakes M_going M_minute M_where p1 p2 v3 M_pile M_high M_lifts M_begun M_left M_has M_lifted M_taken M_above M_allLifts M_busy)
    else (
      zg (zin v4 10) <|
      zlet (upd M_lifted v4.toNatClampNeg 0) fun M_lifted_3 =>
      zlet (upd M_taken v4.toNatClampNeg (vp_nar .boolean 0)) fun M_taken_4 =>
      zlet (v4 + 1) fun v4_5 =>
      fX10_go_L15 fuel M_guests M_kind M_figure M_heaps M_back M_mistakes M_going M_minute M_where p1 p2 n v3 v4_5 M_pile M_high M_lifts M_begun M_left M_has M_lifted_3 M_taken_4 M_above M_allLifts M_busy)
def fX10_go (fuel : Nat) (M_guests : Int32) (M_kind : Nat → Int32) (M_figure : Nat → Int32) (M_heaps : Int32) (M_back : Int32) (M_mistakes : Int32) (M_going : Nat → Int32) (M_minute : Nat → Int32) (M_pile : Nat → Int32) (M_high : Nat → Int32) (M_where : Nat → Int32) (M_lifts : Nat → Int32) (M_begun : Nat → Int32) (M_left : Nat → Int32) (M_has : Nat → Int32) (M_lifted : Nat → Int32) (M_taken : Nat → Int32) (M_above : Nat → Int32) (M_allLifts : Int32) (M_busy : Int32) (p1 : Int32) (p2 : Int32) : Option (Int32 × (Nat → Int32) × (Nat → Int32) × (Nat → Int32) × (Nat → Int32) × (Nat → Int32) × (Nat → Int32) × (Nat → Int32) × (Nat → Int32) × (Nat → Int32) × Int32 × Int32) :=
  fX10_go_L15 fuel M_guests M_kind M_figure M_heaps M_back M_mistakes M_going M_minute M_where p1 p2 fuel 0 0 M_pile M_high M_lifts M_begun M_left M_has M_lifted M_taken M_above 0 0
def fX10_layAndGo (fuel : Nat) (M_guests : Int32) (M_kind : Nat → Int32) (M_figure : Nat → Int32) (M_heaps : Int32) (M_holds : Int32) (M_back : Int32) (M_mistakes : Int32) (M_hooks : Int32) (M_letters : Int32) (M_rule : Nat → Int32) (M_coming : Nat → Int32) (M_comingMany : Int32) (M_going : Nat → Int32) (M_goingMany : Int32) (M_minute : Nat → Int32) (M_pile : Nat → Int32) (M_high : Nat → Int32) (M_where : Nat → Int32) (M_latest : Int32) (M_lifts : Nat → Int32) (M_begun : Nat → Int32) (M_left : Nat → Int32) (M_has : Nat → Int32) (M_lifted : Nat → Int32) (M_taken : Nat → Int32) (M_above : Nat → Int32) (M_allLifts : Int32) (M_busy : Int32) : Option (Int32 × (Nat → Int32) × (Nat → Int32) × (Nat → Int32) × Int32 × (Nat → Int32) × (Nat → Int32) × (Nat → Int32) × (Nat → Int32) × (Nat → Int32) × (Nat → Int32) × (Nat → Int32) × Int32 × Int32) :=
  (fX10_lay fuel M_heaps M_holds M_hooks M_letters M_rule M_coming M_comingMany M_minute M_pile M_high M_where M_latest).bind fun o_1 =>
  (fX10_go fuel M_guests M_kind M_figure M_heaps M_back M_mistakes M_going M_minute o_1.1 o_1.2.1 o_1.2.2.1 M_lifts M_begun M_left M_has M_lifted M_taken M_above M_allLifts M_busy M_goingMany 1000000).bind fun o_2 =>
  some (o_2.1, o_2.2.1, o_2.2.2.1, o_1.2.2.1, o_1.2.2.2, o_2.2.2.2.1, o_2.2.2.2.2.1, o_2.2.2.2.2.2.1, o_2.2.2.2.2.2.2.1, o_2.2.2.2.2.2.2.2.1, o_2.2.2.2.2.2.2.2.2.1, o_2.2.2.2.2.2.2.2.2.2.1, o_2.2.2.2.2.2.2.2.2.2.2.1, o_2.2.2.2.2.2.2.2.2.2.2.2)
def fX10_night (fuel : Nat) (M_guests : Int32) (M_kind : Nat → Int32) (M_figure : Nat → Int32) (M_told : Nat → Int32) (M_heaps : Int32) (M_holds : Int32) (M_back : Int32) (M_mistakes : Int32) (M_hooks : Int32) (M_letters : Int32) (M_rule : Nat → Int32) (M_coming : Nat → Int32) (M_comingMany : Int32) (M_going : Nat → Int32) (M_goingMany : Int32) (M_minute : Nat → Int32) (M_pile : Nat → Int32) (M_high : Nat → Int32) (M_where : Nat → Int32) (M_latest : Int32) (M_lifts : Nat → Int32) (M_begun : Nat → Int32) (M_left : Nat → Int32) (M_has : Nat → Int32) (M_lifted : Nat → Int32) (M_taken : Nat → Int32) (M_above : Nat → Int32) (M_allLifts : Int32) (M_busy : Int32) : Option (Int32 × (Nat → Int32) × Int32 × (Nat → Int32) × Int32 × (Nat → Int32) × (Nat → Int32) × (Nat → Int32) × (Nat → Int32) × Int32 × (Nat → Int32) × (Nat → Int32) × (Nat → Int32) × (Nat → Int32) × (Nat → Int32) × (Nat → Int32) × (Nat → Int32) × Int32 × Int32) :=
  (fX10_usual fuel M_guests M_kind M_figure M_told M_coming M_comingMany M_going M_goingMany M_minute).bind fun o_1 =>
  (fX10_layAndGo fuel M_guests M_kind M_figure M_heaps M_holds M_back M_mistakes M_hooks M_letters M_rule o_1.1 o_1.2.1 o_1.2.2.1 o_1.2.2.2.1 o_1.2.2.2.2 M_pile M_high M_where M_latest M_lifts M_begun M_left M_has M_lifted M_taken M_above M_allLifts M_busy).bind fun o_2 =>
  some (o_2.1, o_1.1, o_1.2.1, o_1.2.2.1, o_1.2.2.2.1, o_1.2.2.2.2, o_2.2.1, o_2.2.2.1, o_2.2.2.2.1, o_2.2.2.2.2.1, o_2.2.2.2.2.2.1, o_2.2.2.2.2.2.2.1, o_2.2.2.2.2.2.2.2.1, o_2.2.2.2.2.2.2.2.2.1, o_2.2.2.2.2.2.2.2.2.2.1, o_2.2.2.2.2.2.2.2.2.2.2.1, o_2.2.2.2.2.2.2.2.2.2.2.2.1, o_2.2.2.2.2.2.2.2.2.2.2.2.2.1, o_2.2.2.2.2.2.2.2.2.2.2.2.2.2)
def fX10_heap (fuel : Nat) (M_guests : Int32) (M_kind : Nat → Int32) (M_figure : Nat → Int32) (M_told : Nat → Int32) (M_heaps : Int32) (M_holds : Int32) (M_hooks : Int32) (M_letters : Int32) (M_rule : Nat → Int32) (M_coming : Nat → Int32) (M_comingMany : Int32) (M_going : Nat → Int32) (M_goingMany : Int32) (M_minute : Nat → Int32) (M_pile : Nat → Int32) (M_high : Nat → Int32) (M_where : Nat → Int32) (M_latest : Int32) (p1 : Int32) (p2 : Int32) : Option (Int32 × (Nat → Int32) × Int32 × (Nat → Int32) × Int32 × (Nat → Int32) × (Nat → Int32) × (Nat → Int32) × (Nat → Int32) × Int32) :=
  (fX10_isIn fuel p1 0 2).bind fun o_1 =>
  if o_1 = 0 then (
    some ((-1), M_coming, M_comingMany, M_going, M_goingMany, M_minute, M_pile, M_high, M_where, M_latest))
  else (
    if (-1) ≤ p2 then (
      (fX10_usual fuel M_guests M_kind M_figure M_told M_coming M_comingMany M_going M_goingMany M_minute).bind fun o_4 =>
      (fX10_lay fuel M_heaps M_holds M_hooks M_letters M_rule o_4.1 o_4.2.1 o_4.2.2.2.2 M_pile M_high M_where M_latest).bind fun o_5 =>
      if p2 = (-1) then (
        zg (zin p1 3) <|
        some ((o_5.2.1 p1.toNatClampNeg), o_4.1, o_4.2.1, o_4.2.2.1, o_4.2.2.2.1, o_4.2.2.2.2, o_5.1, o_5.2.1, o_5.2.2.1, o_5.2.2.2))
      else (
        zg (zin p1 3) <|
        if (o_5.2.1 p1.toNatClampNeg) ≤ p2 then (
          some ((-4), o_4.1, o_4.2.1, o_4.2.2.1, o_4.2.2.2.1, o_4.2.2.2.2, o_5.1, o_5.2.1, o_5.2.2.1, o_5.2.2.2))
        else (
          zg (zin (((10 * p1) + p2)) 30) <|
          some ((o_5.1 (((10 * p1) + p2)).toNatClampNeg), o_4.1, o_4.2.1, o_4.2.2.1, o_4.2.2.2.1, o_4.2.2.2.2, o_5.1, o_5.2.1, o_5.2.2.1, o_5.2.2.2))))
    else (
      some ((-1), M_coming, M_comingMany, M_going, M_goingMany, M_minute, M_pile, M_high, M_where, M_latest)))
def fX10_above (fuel : Nat) (M_guests : Int32) (M_kind : Nat → Int32) (M_figure : Nat → Int32) (M_told : Nat → Int32) (M_heaps : Int32) (M_holds : Int32) (M_hooks : Int32) (M_letters : Int32) (M_rule : Nat → Int32) (M_coming : Nat → Int32) (M_comingMany : Int32) (M_going : Nat → Int32) (M_goingMany : Int32) (M_minute : Nat → Int32) (M_pile : Nat → Int32) (M_high : Nat → Int32) (M_where : Nat → Int32) (M_latest : Int32) (p1 : Int32) : Option (Int32 × (Nat → Int32) × Int32 × (Nat → Int32) × Int32 × (Nat → Int32) × (Nat → Int32) × (Nat → Int32) × (Nat → Int32) × Int32) :=
  (fX10_isGuest fuel M_guests p1).bind fun o_1 =>
  if o_1 = 0 then (
    some ((-1), M_coming, M_comingMany, M_going, M_goingMany, M_minute, M_pile, M_high, M_where, M_latest))
  else (
    (fX10_usual fuel M_guests M_kind M_figure M_told M_coming M_comingMany M_going M_goingMany M_minute).bind fun o_3 =>
    (fX10_lay fuel M_heaps M_holds M_hooks M_letters M_rule o_3.1 o_3.2.1 o_3.2.2.2.2 M_pile M_high M_where M_latest).bind fun o_4 =>
    zg (zin p1 10) <|
    zlet (o_4.2.2.1 p1.toNatClampNeg) fun v2_6 =>
    (fX10_isIn fuel v2_6 0 2).bind fun o_7 =>
    if o_7 = 0 then (
      some (0, o_3.1, o_3.2.1, o_3.2.2.1, o_3.2.2.2.1, o_3.2.2.2.2, o_4.1, o_4.2.1, o_4.2.2.1, o_4.2.2.2))
    else (
      zg (zin v2_6 3) <|
      (fX10_placeOf fuel o_4.1 o_4.2.1 p1 v2_6).bind fun o_10 =>
      some (((((o_4.2.1 v2_6.toNatClampNeg) - 1)) - o_10), o_3.1, o_3.2.1, o_3.2.2.1, o_3.2.2.2.1, o_3.2.2.2.2, o_4.1, o_4.2.1, o_4.2.2.1, o_4.2.2.2)))
def fX10_fate_L86 (p1 : Int32) : Nat → Int32 → (Nat → Int32) → Int32 → (Nat → Int32) → Int32 → (Nat → Int32) → (Nat → Int32) → (Nat → Int32) → (Nat → Int32) → Int32 → (Nat → Int32) → (Nat → Int32) → (Nat → Int32) → (Nat → Int32) → (Nat → Int32) → (Nat → Int32) → (Nat → Int32) → Int32 → Int32 → Option (Int32 × (Nat → Int32) × Int32 × (Nat → Int32) × Int32 × (Nat → Int32) × (Nat → Int32) × (Nat → Int32) × (Nat → Int32) × Int32 × (Nat → Int32) × (Nat → Int32) × (Nat → Int32) × (Nat → Int32) × (Nat → Int32) × (Nat → Int32) × (Nat → Int32) × Int32 × Int32)
  | 0, _, _, _, _, _, _, _, _, _, _, _, _, _, _, _, _, _, _, _ => none
  | n + 1, v3, M_coming, M_comingMany, M_going, M_goingMany, M_minute, M_pile, M_high, M_where, M_latest, M_lifts, M_begun, M_left, M_has, M_lifted, M_taken, M_above, M_allLifts, M_busy =>
    zg (zin v3 10) <|
    if (M_going v3.toNatClampNeg) = p1 then (
      some (v3, M_coming, M_comingMany, M_going, M_goingMany, M_minute, M_pile, M_high, M_where, M_latest, M_lifts, M_begun, M_left, M_has, M_lifted, M_taken, M_above, M_allLifts, M_busy))
    else (
      zlet (v3 + 1) fun v3_17 =>
      fX10_fate_L86 p1 n v3_17 M_coming M_comingMany M_going M_goingMany M_minute M_pile M_high M_where M_latest M_lifts M_begun M_left M_has M_lifted M_taken M_above M_allLifts M_busy)
def fX10_fate (fuel : Nat) (M_guests : Int32) (M_kind : Nat → Int32) (M_figure : Nat → Int32) (M_told : Nat → Int32) (M_heaps : Int32) (M_holds : Int32) (M_back : Int32) (M_mistakes : Int32) (M_hooks : Int32) (M_letters : Int32) (M_rule : Nat → Int32) (M_coming : Nat → Int32) (M_comingMany : Int32) (M_going : Nat → Int32) (M_goingMany : Int32) (M_minute : Nat → Int32) (M_pile : Nat → Int32) (M_high : Nat → Int32) (M_where : Nat → Int32) (M_latest : Int32) (M_lifts : Nat → Int32) (M_begun : Nat → Int32) (M_left : Nat → Int32) (M_has : Nat → Int32) (M_lifted : Nat → Int32) (M_taken : Nat → Int32) (M_above : Nat → Int32) (M_allLifts : Int32) (M_busy : Int32) (p1 : Int32) (p2 : Int32) : Option (Int32 × (Nat → Int32) × Int32 × (Nat → Int32) × Int32 × (Nat → Int32) × (Nat → Int32) × (Nat → Int32) × (Nat → Int32) × Int32 × (Nat → Int32) × (Nat → Int32) × (Nat → Int32) × (Nat → Int32) × (Nat → Int32) × (Nat → Int32) × (Nat → Int32) × Int32 × Int32) :=
  (fX10_isGuest fuel M_guests p1).bind fun o_1 =>
  if o_1 = 0 then (
    some ((-1), M_coming, M_comingMany, M_going, M_goingMany, M_minute, M_pile, M_high, M_where, M_latest, M_lifts, M_begun, M_left, M_has, M_lifted, M_taken, M_above, M_allLifts, M_busy))
  else (
    (fX10_night fuel M_guests M_kind M_figure M_told M_heaps M_holds M_back M_mistakes M_hooks M_letters M_rule M_coming M_comingMany M_going M_goingMany M_minute M_pile M_high M_where M_latest M_lifts M_begun M_left M_has M_lifted M_taken M_above M_allLifts M_busy).bind fun o_3 =>
    if p2 = 0 then (
      zg (zin p1 10) <|
      some ((o_3.2.2.2.2.2.2.2.2.2.2.1 p1.toNatClampNeg), o_3.2.1, o_3.2.2.1, o_3.2.2.2.1, o_3.2.2.2.2.1, o_3.2.2.2.2.2.1, o_3.2.2.2.2.2.2.1, o_3.2.2.2.2.2.2.2.1, o_3.2.2.2.2.2.2.2.2.1, o_3.2.2.2.2.2.2.2.2.2.1, o_3.2.2.2.2.2.2.2.2.2.2.1, o_3.2.2.2.2.2.2.2.2.2.2.2.1, o_3.2.2.2.2.2.2.2.2.2.2.2.2.1, o_3.2.2.2.2.2.2.2.2.2.2.2.2.2.1, o_3.2.2.2.2.2.2.2.2.2.2.2.2.2.2.1, o_3.2.2.2.2.2.2.2.2.2.2.2.2.2.2.2.1, o_3.2.2.2.2.2.2.2.2.2.2.2.2.2.2.2.2.1, o_3.2.2.2.2.2.2.2.2.2.2.2.2.2.2.2.2.2.1, o_3.2.2.2.2.2.2.2.2.2.2.2.2.2.2.2.2.2.2))
    else (
      if p2 = 1 then (
        zg (zin p1 10) <|
        some ((o_3.2.2.2.2.2.2.2.2.2.2.2.1 p1.toNatClampNeg), o_3.2.1, o_3.2.2.1, o_3.2.2.2.1, o_3.2.2.2.2.1, o_3.2.2.2.2.2.1, o_3.2.2.2.2.2.2.1, o_3.2.2.2.2.2.2.2.1, o_3.2.2.2.2.2.2.2.2.1, o_3.2.2.2.2.2.2.2.2.2.1, o_3.2.2.2.2.2.2.2.2.2.2.1, o_3.2.2.2.2.2.2.2.2.2.2.2.1, o_3.2.2.2.2.2.2.2.2.2.2.2.2.1, o_3.2.2.2.2.2.2.2.2.2.2.2.2.2.1, o_3.2.2.2.2.2.2.2.2.2.2.2.2.2.2.1, o_3.2.2.2.2.2.2.2.2.2.2.2.2.2.2.2.1, o_3.2.2.2.2.2.2.2.2.2.2.2.2.2.2.2.2.1, o_3.2.2.2.2.2.2.2.2.2.2.2.2.2.2.2.2.2.1, o_3.2.2.2.2.2.2.2.2.2.2.2.2.2.2.2.2.2.2))
      else (
        if p2 = 2 then (
          zg (zin p1 10) <|
          some ((o_3.2.2.2.2.2.2.2.2.2.2.2.2.1 p1.toNatClampNeg), o_3.2.1, o_3.2.2.1, o_3.2.2.2.1, o_3.2.2.2.2.1, o_3.2.2.2.2.2.1, o_3.2.2.2.2.2.2.1, o_3.2.2.2.2.2.2.2.1, o_3.2.2.2.2.2.2.2.2.1, o_3.2.2.2.2.2.2.2.2.2.1, o_3.2.2.2.2.2.2.2.2.2.2.1, o_3.2.2.2.2.2.2.2.2.2.2.2.1, o_3.2.2.2.2.2.2.2.2.2.2.2.2.1, o_3.2.2.2.2.2.2.2.2.2.2.2.2.2.1, o_3.2.2.2.2.2.2.2.2.2.2.2.2.2.2.1, o_3.2.2.2.2.2.2.2.2.2.2.2.2.2.2.2.1, o_3.2.2.2.2.2.2.2.2.2.2.2.2.2.2.2.2.1, o_3.2.2.2.2.2.2.2.2.2.2.2.2.2.2.2.2.2.1, o_3.2.2.2.2.2.2.2.2.2.2.2.2.2.2.2.2.2.2))
        else (
          if p2 = 3 then (
            zg (zin p1 10) <|
            some ((o_3.2.2.2.2.2.2.2.2.2.2.2.2.2.1 p1.toNatClampNeg), o_3.2.1, o_3.2.2.1, o_3.2.2.2.1, o_3.2.2.2.2.1, o_3.2.2.2.2.2.1, o_3.2.2.2.2.2.2.1, o_3.2.2.2.2.2.2.2.1, o_3.2.2.2.2.2.2.2.2.1, o_3.2.2.2.2.2.2.2.2.2.1, o_3.2.2.2.2.2.2.2.2.2.2.1, o_3.2.2.2.2.2.2.2.2.2.2.2.1, o_3.2.2.2.2.2.2.2.2.2.2.2.2.1, o_3.2.2.2.2.2.2.2.2.2.2.2.2.2.1, o_3.2.2.2.2.2.2.2.2.2.2.2.2.2.2.1, o_3.2.2.2.2.2.2.2.2.2.2.2.2.2.2.2.1, o_3.2.2.2.2.2.2.2.2.2.2.2.2.2.2.2.2.1, o_3.2.2.2.2.2.2.2.2.2.2.2.2.2.2.2.2.2.1, o_3.2.2.2.2.2.2.2.2.2.2.2.2.2.2.2.2.2.2))
          else (
            if p2 = 4 then (
              fX10_fate_L86 p1 fuel 0 o_3.2.1 o_3.2.2.1 o_3.2.2.2.1 o_3.2.2.2.2.1 o_3.2.2.2.2.2.1 o_3.2.2.2.2.2.2.1 o_3.2.2.2.2.2.2.2.1 o_3.2.2.2.2.2.2.2.2.1 o_3.2.2.2.2.2.2.2.2.2.1 o_3.2.2.2.2.2.2.2.2.2.2.1 o_3.2.2.2.2.2.2.2.2.2.2.2.1 o_3.2.2.2.2.2.2.2.2.2.2.2.2.1 o_3.2.2.2.2.2.2.2.2.2.2.2.2.2.1 o_3.2.2.2.2.2.2.2.2.2.2.2.2.2.2.1 o_3.2.2.2.2.2.2.2.2.2.2.2.2.2.2.2.1 o_3.2.2.2.2.2.2.2.2.2.2.2.2.2.2.2.2.1 o_3.2.2.2.2.2.2.2.2.2.2.2.2.2.2.2.2.2.1 o_3.2.2.2.2.2.2.2.2.2.2.2.2.2.2.2.2.2.2)
            else (
              if p2 = 5 then (
                zg (zin p1 10) <|
                some ((o_3.2.2.2.2.2.2.2.2.2.2.2.2.2.2.1 p1.toNatClampNeg), o_3.2.1, o_3.2.2.1, o_3.2.2.2.1, o_3.2.2.2.2.1, o_3.2.2.2.2.2.1, o_3.2.2.2.2.2.2.1, o_3.2.2.2.2.2.2.2.1, o_3.2.2.2.2.2.2.2.2.1, o_3.2.2.2.2.2.2.2.2.2.1, o_3.2.2.2.2.2.2.2.2.2.2.1, o_3.2.2.2.2.2.2.2.2.2.2.2.1, o_3.2.2.2.2.2.2.2.2.2.2.2.2.1, o_3.2.2.2.2.2.2.2.2.2.2.2.2.2.1, o_3.2.2.2.2.2.2.2.2.2.2.2.2.2.2.1, o_3.2.2.2.2.2.2.2.2.2.2.2.2.2.2.2.1, o_3.2.2.2.2.2.2.2.2.2.2.2.2.2.2.2.2.1, o_3.2.2.2.2.2.2.2.2.2.2.2.2.2.2.2.2.2.1, o_3.2.2.2.2.2.2.2.2.2.2.2.2.2.2.2.2.2.2))
              else (
                some ((-1), o_3.2.1, o_3.2.2.1, o_3.2.2.2.1, o_3.2.2.2.2.1, o_3.2.2.2.2.2.1, o_3.2.2.2.2.2.2.1, o_3.2.2.2.2.2.2.2.1, o_3.2.2.2.2.2.2.2.2.1, o_3.2.2.2.2.2.2.2.2.2.1, o_3.2.2.2.2.2.2.2.2.2.2.1, o_3.2.2.2.2.2.2.2.2.2.2.2.1, o_3.2.2.2.2.2.2.2.2.2.2.2.2.1, o_3.2.2.2.2.2.2.2.2.2.2.2.2.2.1, o_3.2.2.2.2.2.2.2.2.2.2.2.2.2.2.1, o_3.2.2.2.2.2.2.2.2.2.2.2.2.2.2.2.1, o_3.2.2.2.2.2.2.2.2.2.2.2.2.2.2.2.2.1, o_3.2.2.2.2.2.2.2.2.2.2.2.2.2.2.2.2.2.1, o_3.2.2.2.2.2.2.2.2.2.2.2.2.2.2.2.2.2.2))))))))
def fX10_misses (fuel : Nat) (M_kind : Nat → Int32) (M_figure : Nat → Int32) (M_minute : Nat → Int32) (M_left : Nat → Int32) (p1 : Int32) : Option (Int32) :=
  zg (zin p1 10) <|
  (fX10_spare fuel M_kind M_figure p1).bind fun o_2 =>
  if (M_left p1.toNatClampNeg) ≤ (((M_minute p1.toNatClampNeg) + o_2)) then (
    some (0))
  else (
    some (1))
def fX10_sums_J172 (k24 : Int32 → Int32 → Int32 → Int32 → (Nat → Int32) → Int32 → (Nat → Int32) → Int32 → (Nat → Int32) → (Nat → Int32) → (Nat → Int32) → (Nat → Int32) → Int32 → (Nat → Int32) → (Nat → Int32) → (Nat → Int32) → (Nat → Int32) → (Nat → Int32) → (Nat → Int32) → (Nat → Int32) → Int32 → Int32 → Option (Int32 × (Nat → Int32) × Int32 × (Nat → Int32) × Int32 × (Nat → Int32) × (Nat → Int32) × (Nat → Int32) × (Nat → Int32) × Int32 × (Nat → Int32) × (Nat → Int32) × (Nat → Int32) × (Nat → Int32) × (Nat → Int32) × (Nat → Int32) × (Nat → Int32) × Int32 × Int32)) (v2 : Int32) (v3 : Int32) (v4 : Int32) (v5 : Int32) (M_coming : Nat → Int32) (M_comingMany : Int32) (M_going : Nat → Int32) (M_goingMany : Int32) (M_minute : Nat → Int32) (M_pile : Nat → Int32) (M_high : Nat → Int32) (M_where : Nat → Int32) (M_latest : Int32) (M_lifts : Nat → Int32) (M_begun : Nat → Int32) (M_left : Nat → Int32) (M_has : Nat → Int32) (M_lifted : Nat → Int32) (M_taken : Nat → Int32) (M_above : Nat → Int32) (M_allLifts : Int32) (M_busy : Int32) : Option (Int32 × (Nat → Int32) × Int32 × (Nat → Int32) × Int32 × (Nat → Int32) × (Nat → Int32) × (Nat → Int32) × (Nat → Int32) × Int32 × (Nat → Int32) × (Nat → Int32) × (Nat → Int32) × (Nat → Int32) × (Nat → Int32) × (Nat → Int32) × (Nat → Int32) × Int32 × Int32) :=
  zlet (v5 + 1) fun v5_26 =>
  k24 v2 v3 v4 v5_26 M_coming M_comingMany M_going M_goingMany M_minute M_pile M_high M_where M_latest M_lifts M_begun M_left M_has M_lifted M_taken M_above M_allLifts M_busy
def fX10_sums_J178 (p1 : Int32) (v2 : Int32) (v3 : Int32) (v4 : Int32) (M_coming : Nat → Int32) (M_comingMany : Int32) (M_going : Nat → Int32) (M_goingMany : Int32) (M_minute : Nat → Int32) (M_pile : Nat → Int32) (M_high : Nat → Int32) (M_where : Nat → Int32) (M_latest : Int32) (M_lifts : Nat → Int32) (M_begun : Nat → Int32) (M_left : Nat → Int32) (M_has : Nat → Int32) (M_lifted : Nat → Int32) (M_taken : Nat → Int32) (M_above : Nat → Int32) (M_allLifts : Int32) (M_busy : Int32) : Option (Int32 × (Nat → Int32) × Int32 × (Nat → Int32) × Int32 × (Nat → Int32) × (Nat → Int32) × (Nat → Int32) × (Nat → Int32) × Int32 × (Nat → Int32) × (Nat → Int32) × (Nat → Int32) × (Nat → Int32) × (Nat → Int32) × (Nat → Int32) × (Nat → Int32) × Int32 × Int32) :=
  if p1 = 0 then (
    some (v2, M_coming, M_comingMany, M_going, M_goingMany, M_minute, M_pile, M_high, M_where, M_latest, M_lifts, M_begun, M_left, M_has, M_lifted, M_taken, M_above, M_allLifts, M_busy))
  else (
    if p1 = 4 then (
      some (v4, M_coming, M_comingMany, M_going, M_goingMany, M_minute, M_pile, M_high, M_where, M_latest, M_lifts, M_begun, M_left, M_has, M_lifted, M_taken, M_above, M_allLifts, M_busy))
    else (
      some (v3, M_coming, M_comingMany, M_going, M_goingMany, M_minute, M_pile, M_high, M_where, M_latest, M_lifts, M_begun, M_left, M_has, M_lifted, M_taken, M_above, M_allLifts, M_busy)))
def fX10_sums_L24 (fuel : Nat) (M_guests : Int32) (M_kind : Nat → Int32) (M_figure : Nat → Int32) (p1 : Int32) : Nat → Int32 → Int32 → Int32 → Int32 → (Nat → Int32) → Int32 → (Nat → Int32) → Int32 → (Nat → Int32) → (Nat → Int32) → (Nat → Int32) → (Nat → Int32) → Int32 → (Nat → Int32) → (Nat → Int32) → (Nat → Int32) → (Nat → Int32) → (Nat → Int32) → (Nat → Int32) → (Nat → Int32) → Int32 → Int32 → Option (Int32 × (Nat → Int32) × Int32 × (Nat → Int32) × Int32 × (Nat → Int32) × (Nat → Int32) × (Nat → Int32) × (Nat → Int32) × Int32 × (Nat → Int32) × (Nat → Int32) × (Nat → Int32) × (Nat → Int32) × (Nat → Int32) × (Nat → Int32) × (Nat → Int32) × Int32 × Int32)
  | 0, _, _, _, _, _, _, _, _, _, _, _, _, _, _, _, _, _, _, _, _, _, _ => none
  | n + 1, v2, v3, v4, v5, M_coming, M_comingMany, M_going, M_goingMany, M_minute, M_pile, M_high, M_where, M_latest, M_lifts, M_begun, M_left, M_has, M_lifted, M_taken, M_above, M_allLifts, M_busy =>
    if M_guests ≤ v5 then (
      fX10_sums_J178 p1 v2 v3 v4 M_coming M_comingMany M_going M_goingMany M_minute M_pile M_high M_where M_latest M_lifts M_begun M_left M_has M_lifted M_taken M_above M_allLifts M_busy)
    else (
      zg (zin v5 10) <|
      zlet ((zmax v4 (M_left v5.toNatClampNeg))) fun x_6 =>
      if p1 = 1 then (
        zlet (((M_begun v5.toNatClampNeg) - (M_minute v5.toNatClampNeg))) fun x_8 =>
        zlet (v3 + x_8) fun v3_9 =>
        fX10_sums_J172 (fX10_sums_L24 fuel M_guests M_kind M_figure p1 n) v2 v3_9 x_6 v5 M_coming M_comingMany M_going M_goingMany M_minute M_pile M_high M_where M_latest M_lifts M_begun M_left M_has M_lifted M_taken M_above M_allLifts M_busy)
      else (
        if p1 = 2 then (
          if (M_has v5.toNatClampNeg) = (-4) then (
            zlet (v3 + 0) fun v3_12 =>
            fX10_sums_J172 (fX10_sums_L24 fuel M_guests M_kind M_figure p1 n) v2 v3_12 x_6 v5 M_coming M_comingMany M_going M_goingMany M_minute M_pile M_high M_where M_latest M_lifts M_begun M_left M_has M_lifted M_taken M_above M_allLifts M_busy)
          else (
            if (M_has v5.toNatClampNeg) = v5 then (
              zlet (v3 + 0) fun v3_14 =>
              fX10_sums_J172 (fX10_sums_L24 fuel M_guests M_kind M_figure p1 n) v2 v3_14 x_6 v5 M_coming M_comingMany M_going M_goingMany M_minute M_pile M_high M_where M_latest M_lifts M_begun M_left M_has M_lifted M_taken M_above M_allLifts M_busy)
            else (
              zlet (v3 + 1) fun v3_15 =>
              fX10_sums_J172 (fX10_sums_L24 fuel M_guests M_kind M_figure p1 n) v2 v3_15 x_6 v5 M_coming M_comingMany M_going M_goingMany M_minute M_pile M_high M_where M_latest M_lifts M_begun M_left M_has M_lifted M_taken M_above M_allLifts M_busy)))
        else (
          if p1 = 3 then (
            if (M_has v5.toNatClampNeg) = (-4) then (
              zlet (v3 + 1) fun v3_19 =>
              fX10_sums_J172 (fX10_sums_L24 fuel M_guests M_kind M_figure p1 n) v2 v3_19 x_6 v5 M_coming M_comingMany M_going M_goingMany M_minute M_pile M_high M_where M_latest M_lifts M_begun M_left M_has M_lifted M_taken M_above M_allLifts M_busy)
            else (
              zlet (v3 + 0) fun v3_18 =>
              fX10_sums_J172 (fX10_sums_L24 fuel M_guests M_kind M_figure p1 n) v2 v3_18 x_6 v5 M_coming M_comingMany M_going M_goingMany M_minute M_pile M_high M_where M_latest M_lifts M_begun M_left M_has M_lifted M_taken M_above M_allLifts M_busy))
          else (
            (fX10_misses fuel M_kind M_figure M_minute M_left v5).bind fun o_20 =>
            if o_20 = 0 then (
              zlet (v3 + 0) fun v3_22 =>
              fX10_sums_J172 (fX10_sums_L24 fuel M_guests M_kind M_figure p1 n) v2 v3_22 x_6 v5 M_coming M_comingMany M_going M_goingMany M_minute M_pile M_high M_where M_latest M_lifts M_begun M_left M_has M_lifted M_taken M_above M_allLifts M_busy)
            else (
              zlet (v3 + 1) fun v3_23 =>
              fX10_sums_J172 (fX10_sums_L24 fuel M_guests M_kind M_figure p1 n) v2 v3_23 x_6 v5 M_coming M_comingMany M_going M_goingMany M_minute M_pile M_high M_where M_latest M_lifts M_begun M_left M_has M_lifted M_taken M_above M_allLifts M_busy)))))
def fX10_sums (fuel : Nat) (M_guests : Int32) (M_kind : Nat → Int32) (M_figure : Nat → Int32) (M_told : Nat → Int32) (M_heaps : Int32) (M_holds : Int32) (M_back : Int32) (M_mistakes : Int32) (M_hooks : Int32) (M_letters : Int32) (M_rule : Nat → Int32) (M_coming : Nat → Int32) (M_comingMany : Int32) (M_going : Nat → Int32) (M_goingMany : Int32) (M_minute : Nat → Int32) (M_pile : Nat → Int32) (M_high : Nat → Int32) (M_where : Nat → Int32) (M_latest : Int32) (M_lifts : Nat → Int32) (M_begun : Nat → Int32) (M_left : Nat → Int32) (M_has : Nat → Int32) (M_lifted : Nat → Int32) (M_taken : Nat → Int32) (M_above : Nat → Int32) (M_allLifts : Int32) (M_busy : Int32) (p1 : Int32) : Option (Int32 × (Nat → Int32) × Int32 × (Nat → Int32) × Int32 × (Nat → Int32) × (Nat → Int32) × (Nat → Int32) × (Nat → Int32) × Int32 × (Nat → Int32) × (Nat → Int32) × (Nat → Int32) × (Nat → Int32) × (Nat → Int32) × (Nat → Int32) × (Nat → Int32) × Int32 × Int32) :=
  (fX10_isIn fuel p1 0 5).bind fun o_1 =>
  if o_1 = 0 then (
    some ((-1), M_coming, M_comingMany, M_going, M_goingMany, M_minute, M_pile, M_high, M_where, M_latest, M_lifts, M_begun, M_left, M_has, M_lifted, M_taken, M_above, M_allLifts, M_busy))
  else (
    (fX10_night fuel M_guests M_kind M_figure M_told M_heaps M_holds M_back M_mistakes M_hooks M_letters M_rule M_coming M_comingMany M_going M_goingMany M_minute M_pile M_high M_where M_latest M_lifts M_begun M_left M_has M_lifted M_taken M_above M_allLifts M_busy).bind fun o_3 =>
    fX10_sums_L24 fuel M_guests M_kind M_figure p1 fuel o_3.1 0 0 0 o_3.2.1 o_3.2.2.1 o_3.2.2.2.1 o_3.2.2.2.2.1 o_3.2.2.2.2.2.1 o_3.2.2.2.2.2.2.1 o_3.2.2.2.2.2.2.2.1 o_3.2.2.2.2.2.2.2.2.1 o_3.2.2.2.2.2.2.2.2.2.1 o_3.2.2.2.2.2.2.2.2.2.2.1 o_3.2.2.2.2.2.2.2.2.2.2.2.1 o_3.2.2.2.2.2.2.2.2.2.2.2.2.1 o_3.2.2.2.2.2.2.2.2.2.2.2.2.2.1 o_3.2.2.2.2.2.2.2.2.2.2.2.2.2.2.1 o_3.2.2.2.2.2.2.2.2.2.2.2.2.2.2.2.1 o_3.2.2.2.2.2.2.2.2.2.2.2.2.2.2.2.2.1 o_3.2.2.2.2.2.2.2.2.2.2.2.2.2.2.2.2.2.1 o_3.2.2.2.2.2.2.2.2.2.2.2.2.2.2.2.2.2.2)
def fX10_missing_L9 (fuel : Nat) (M_guests : Int32) (M_kind : Nat → Int32) (M_figure : Nat → Int32) : Nat → Int32 → Int32 → (Nat → Int32) → Int32 → (Nat → Int32) → Int32 → (Nat → Int32) → (Nat → Int32) → (Nat → Int32) → (Nat → Int32) → Int32 → (Nat → Int32) → (Nat → Int32) → (Nat → Int32) → (Nat → Int32) → (Nat → Int32) → (Nat → Int32) → (Nat → Int32) → Int32 → Int32 → Option (Int32 × (Nat → Int32) × Int32 × (Nat → Int32) × Int32 × (Nat → Int32) × (Nat → Int32) × (Nat → Int32) × (Nat → Int32) × Int32 × (Nat → Int32) × (Nat → Int32) × (Nat → Int32) × (Nat → Int32) × (Nat → Int32) × (Nat → Int32) × (Nat → Int32) × Int32 × Int32)
  | 0, _, _, _, _, _, _, _, _, _, _, _, _, _, _, _, _, _, _, _, _ => none
  | n + 1, v1, v2, M_coming, M_comingMany, M_going, M_goingMany, M_minute, M_pile, M_high, M_where, M_latest, M_lifts, M_begun, M_left, M_has, M_lifted, M_taken, M_above, M_allLifts, M_busy =>
    if M_guests ≤ v2 then (
      some (v1, M_coming, M_comingMany, M_going, M_goingMany, M_minute, M_pile, M_high, M_where, M_latest, M_lifts, M_begun, M_left, M_has, M_lifted, M_taken, M_above, M_allLifts, M_busy))
    else (
      (fX10_misses fuel M_kind M_figure M_minute M_left v2).bind fun o_3 =>
      if o_3 = 0 then (
        zlet (v1 ||| 0) fun v1_5 =>
        zlet (v2 + 1) fun v2_6 =>
        fX10_missing_L9 fuel M_guests M_kind M_figure n v1_5 v2_6 M_coming M_comingMany M_going M_goingMany M_minute M_pile M_high M_where M_latest M_lifts M_begun M_left M_has M_lifted M_taken M_above M_allLifts M_busy)
      else (
        zlet ((v1 ||| (((1 : Int32) <<< (v2 &&& 31))))) fun v1_7 =>
        zlet (v2 + 1) fun v2_8 =>
        fX10_missing_L9 fuel M_guests M_kind M_figure n v1_7 v2_8 M_coming M_comingMany M_going M_goingMany M_minute M_pile M_high M_where M_latest M_lifts M_begun M_left M_has M_lifted M_taken M_above M_allLifts M_busy))
def fX10_missing (fuel : Nat) (M_guests : Int32) (M_kind : Nat → Int32) (M_figure : Nat → Int32) (M_told : Nat → Int32) (M_heaps : Int32) (M_holds : Int32) (M_back : Int32) (M_mistakes : Int32) (M_hooks : Int32) (M_letters : Int32) (M_rule : Nat → Int32) (M_coming : Nat → Int32) (M_comingMany : Int32) (M_going : Nat → Int32) (M_goingMany : Int32) (M_minute : Nat → Int32) (M_pile : Nat → Int32) (M_high : Nat → Int32) (M_where : Nat → Int32) (M_latest : Int32) (M_lifts : Nat → Int32) (M_begun : Nat → Int32) (M_left : Nat → Int32) (M_has : Nat → Int32) (M_lifted : Nat → Int32) (M_taken : Nat → Int32) (M_above : Nat → Int32) (M_allLifts : Int32) (M_busy : Int32) : Option (Int32 × (Nat → Int32) × Int32 × (Nat → Int32) × Int32 × (Nat → Int32) × (Nat → Int32) × (Nat → Int32) × (Nat → Int32) × Int32 × (Nat → Int32) × (Nat → Int32) × (Nat → Int32) × (Nat → Int32) × (Nat → Int32) × (Nat → Int32) × (Nat → Int32) × Int32 × Int32) :=
  (fX10_night fuel M_guests M_kind M_figure M_told M_heaps M_holds M_back M_mistakes M_hooks M_letters M_rule M_coming M_comingMany M_going M_goingMany M_minute M_pile M_high M_where M_latest M_lifts M_begun M_left M_has M_lifted M_taken M_above M_allLifts M_busy).bind fun o_1 =>
  fX10_missing_L9 fuel M_guests M_kind M_figure fuel 0 0 o_1.2.1 o_1.2.2.1 o_1.2.2.2.1 o_1.2.2.2.2.1 o_1.2.2.2.2.2.1 o_1.2.2.2.2.2.2.1 o_1.2.2.2.2.2.2.2.1 o_1.2.2.2.2.2.2.2.2.1 o_1.2.2.2.2.2.2.2.2.2.1 o_1.2.2.2.2.2.2.2.2.2.2.1 o_1.2.2.2.2.2.2.2.2.2.2.2.1 o_1.2.2.2.2.2.2.2.2.2.2.2.2.1 o_1.2.2.2.2.2.2.2.2.2.2.2.2.2.1 o_1.2.2.2.2.2.2.2.2.2.2.2.2.2.2.1 o_1.2.2.2.2.2.2.2.2.2.2.2.2.2.2.2.1 o_1.2.2.2.2.2.2.2.2.2.2.2.2.2.2.2.2.1 o_1.2.2.2.2.2.2.2.2.2.2.2.2.2.2.2.2.2.1 o_1.2.2.2.2.2.2.2.2.2.2.2.2.2.2.2.2.2.2
def fX10_then (fuel : Nat) (M_guests : Int32) (M_kind : Nat → Int32) (M_figure : Nat → Int32) (M_told : Nat → Int32) (M_heaps : Int32) (M_holds : Int32) (M_back : Int32) (M_mistakes : Int32) (M_hooks : Int32) (M_letters : Int32) (M_rule : Nat → Int32) (M_coming : Nat → Int32) (M_comingMany : Int32) (M_going : Nat → Int32) (M_goingMany : Int32) (M_minute : Nat → Int32) (M_pile : Nat → Int32) (M_high : Nat → Int32) (M_where : Nat → Int32) (M_latest : Int32) (M_lifts : Nat → Int32) (M_begun : Nat → Int32) (M_left : Nat → Int32) (M_has : Nat → Int32) (M_lifted : Nat → Int32) (M_taken : Nat → Int32) (M_above : Nat → Int32) (M_allLifts : Int32) (M_busy : Int32) (p1 : Int32) (p2 : Int32) (p3 : Int32) : Option (Int32 × (Nat → Int32) × Int32 × (Nat → Int32) × Int32 × (Nat → Int32) × (Nat → Int32) × (Nat → Int32) × (Nat → Int32) × Int32 × (Nat → Int32) × (Nat → Int32) × (Nat → Int32) × (Nat → Int32) × (Nat → Int32) × (Nat → Int32) × (Nat → Int32) × Int32 × Int32) :=
  (fX10_isIn fuel p1 0 M_guests).bind fun o_1 =>
  if o_1 = 0 then (
    some ((-1), M_coming, M_comingMany, M_going, M_goingMany, M_minute, M_pile, M_high, M_where, M_latest, M_lifts, M_begun, M_left, M_has, M_lifted, M_taken, M_above, M_allLifts, M_busy))
  else (
    (fX10_isIn fuel p2 0 2).bind fun o_3 =>
    if o_3 = 0 then (
      some ((-1), M_coming, M_comingMany, M_going, M_goingMany, M_minute, M_pile, M_high, M_where, M_latest, M_lifts, M_begun, M_left, M_has, M_lifted, M_taken, M_above, M_allLifts, M_busy))
    else (
      if 0 ≤ p3 then (
        (fX10_usual fuel M_guests M_kind M_figure M_told M_coming M_comingMany M_going M_goingMany M_minute).bind fun o_6 =>
        (fX10_lay fuel M_heaps M_holds M_hooks M_letters M_rule o_6.1 o_6.2.1 o_6.2.2.2.2 M_pile M_high M_where M_latest).bind fun o_7 =>
        (fX10_go fuel M_guests M_kind M_figure M_heaps M_back M_mistakes o_6.2.2.1 o_6.2.2.2.2 o_7.1 o_7.2.1 o_7.2.2.1 M_lifts M_begun M_left M_has M_lifted M_taken M_above M_allLifts M_busy p1 1000000).bind fun o_8 =>
        zg (zin p2 3) <|
        if (o_8.2.2.1 p2.toNatClampNeg) ≤ p3 then (
          some ((-4), o_6.1, o_6.2.1, o_6.2.2.1, o_6.2.2.2.1, o_6.2.2.2.2, o_8.2.1, o_8.2.2.1, o_7.2.2.1, o_7.2.2.2, o_8.2.2.2.1, o_8.2.2.2.2.1, o_8.2.2.2.2.2.1, o_8.2.2.2.2.2.2.1, o_8.2.2.2.2.2.2.2.1, o_8.2.2.2.2.2.2.2.2.1, o_8.2.2.2.2.2.2.2.2.2.1, o_8.2.2.2.2.2.2.2.2.2.2.1, o_8.2.2.2.2.2.2.2.2.2.2.2))
        else (
          zg (zin (((10 * p2) + p3)) 30) <|
          some ((o_8.2.1 (((10 * p2) + p3)).toNatClampNeg), o_6.1, o_6.2.1, o_6.2.2.1, o_6.2.2.2.1, o_6.2.2.2.2, o_8.2.1, o_8.2.2.1, o_7.2.2.1, o_7.2.2.2, o_8.2.2.2.1, o_8.2.2.2.2.1, o_8.2.2.2.2.2.1, o_8.2.2.2.2.2.2.1, o_8.2.2.2.2.2.2.2.1, o_8.2.2.2.2.2.2.2.2.1, o_8.2.2.2.2.2.2.2.2.2.1, o_8.2.2.2.2.2.2.2.2.2.2.1, o_8.2.2.2.2.2.2.2.2.2.2.2)))
      else (
        some ((-1), M_coming, M_comingMany, M_going, M_goingMany, M_minute, M_pile, M_high, M_where, M_latest, M_lifts, M_begun, M_left, M_has, M_lifted, M_taken, M_above, M_allLifts, M_busy))))
def fX10_order (fuel : Nat) (M_guests : Int32) (M_kind : Nat → Int32) (M_figure : Nat → Int32) (M_told : Nat → Int32) (M_coming : Nat → Int32) (M_comingMany : Int32) (M_going : Nat → Int32) (M_goingMany : Int32) (M_minute : Nat → Int32) (p1 : Int32) : Option (Int32 × (Nat → Int32) × Int32 × (Nat → Int32) × Int32 × (Nat → Int32)) :=
  if 0 ≤ p1 then (
    (fX10_usual fuel M_guests M_kind M_figure M_told M_coming M_comingMany M_going M_goingMany M_minute).bind fun o_2 =>
    if o_2.2.2.2.1 ≤ p1 then (
      some ((-4), o_2.1, o_2.2.1, o_2.2.2.1, o_2.2.2.2.1, o_2.2.2.2.2))
    else (
      zg (zin p1 10) <|
      some ((o_2.2.2.1 p1.toNatClampNeg), o_2.1, o_2.2.1, o_2.2.2.1, o_2.2.2.2.1, o_2.2.2.2.2)))
  else (
    some ((-1), M_coming, M_comingMany, M_going, M_goingMany, M_minute))
def fX10_chains_J89 (k13 : Int32 → Int32 → (Nat → Int32) → (Nat → Int32) → Option (Int32 × (Nat → Int32) × (Nat → Int32))) (v1 : Int32) (v2 : Int32) (M_minute : Nat → Int32) (M_longest : Nat → Int32) : Option (Int32 × (Nat → Int32) × (Nat → Int32)) :=
  zg (zin v2 11) <|
  zlet ((zmax v1 (M_longest v2.toNatClampNeg))) fun x_20 =>
  zlet (v2 + (-1)) fun v2_21 =>
  k13 x_20 v2_21 M_minute M_longest
def fX10_chains_L28 (M_guests : Int32) (k13 : Int32 → Int32 → (Nat → Int32) → (Nat → Int32) → Option (Int32 × (Nat → Int32) × (Nat → Int32))) : Nat → Int32 → Int32 → Int32 → (Nat → Int32) → (Nat → Int32) → Option (Int32 × (Nat → Int32) × (Nat → Int32))
  | 0, _, _, _, _, _ => none
  | n + 1, v1, v2, v3, M_minute, M_longest =>
    if M_guests ≤ v3 then (
      fX10_chains_J89 k13 v1 v2 M_minute M_longest)
    else (
      zg (zin v3 10) <|
      zg (zin v2 10) <|
      if (M_minute v3.toNatClampNeg) < (M_minute v2.toNatClampNeg) then (
        zg (zin v2 11) <|
        zlet (upd M_longest v2.toNatClampNeg (M_longest v2.toNatClampNeg)) fun M_longest_12 =>
        zlet (v3 + 1) fun v3_13 =>
        fX10_chains_L28 M_guests k13 n v1 v2 v3_13 M_minute M_longest_12)
      else (
        zg (zin v2 11) <|
        zg (zin v3 11) <|
        zlet ((zmax (M_longest v2.toNatClampNeg) (((M_longest v3.toNatClampNeg) + 1)))) fun x_16 =>
        zlet (upd M_longest v2.toNatClampNeg x_16) fun M_longest_17 =>
        zlet (v3 + 1) fun v3_18 =>
        fX10_chains_L28 M_guests k13 n v1 v2 v3_18 M_minute M_longest_17))
def fX10_chains_L13 (fuel : Nat) (M_guests : Int32) : Nat → Int32 → Int32 → (Nat → Int32) → (Nat → Int32) → Option (Int32 × (Nat → Int32) × (Nat → Int32))
  | 0, _, _, _, _ => none
  | n + 1, v1, v2, M_minute, M_longest =>
    if v2 < 0 then (
      some (v1, M_minute, M_longest))
    else (
      zg (zin v2 11) <|
      zlet (upd M_longest v2.toNatClampNeg 1) fun M_longest_5 =>
      zlet (v2 + 1) fun v3_6 =>
      fX10_chains_L28 M_guests (fX10_chains_L13 fuel M_guests n) fuel v1 v2 v3_6 M_minute M_longest_5)
def fX10_chains (fuel : Nat) (M_guests : Int32) (M_kind : Nat → Int32) (M_figure : Nat → Int32) (M_told : Nat → Int32) (M_minute : Nat → Int32) (M_longest : Nat → Int32) : Option (Int32 × (Nat → Int32) × (Nat → Int32)) :=
  (fX10_minutesAsTold fuel M_guests M_kind M_figure M_told M_minute).bind fun o_1 =>
  zlet (M_guests - 1) fun v2_2 =>
  fX10_chains_L13 fuel M_guests fuel 0 v2_2 o_1 M_longest
def fX10_fewest (fuel : Nat) (M_guests : Int32) (M_kind : Nat → Int32) (M_figure : Nat → Int32) (M_told : Nat → Int32) (M_minute : Nat → Int32) (M_longest : Nat → Int32) : Option (Int32 × (Nat → Int32) × (Nat → Int32)) :=
  (fX10_chains fuel M_guests M_kind M_figure M_told M_minute M_longest).bind fun o_1 =>
  some (o_1.1, o_1.2.1, o_1.2.2)
def fX10_shown_J88 (k28 : Int32 → Int32 → Int32 → Int32 → (Nat → Int32) → (Nat → Int32) → Option (Int32 × (Nat → Int32) × (Nat → Int32))) (v2 : Int32) (v3 : Int32) (v4 : Int32) (v5 : Int32) (M_minute : Nat → Int32) (M_longest : Nat → Int32) : Option (Int32 × (Nat → Int32) × (Nat → Int32)) :=
  zlet (v5 + 1) fun v5_14 =>
  k28 v2 v3 v4 v5_14 M_minute M_longest
def fX10_shown_J70 (p1 : Int32) (k28 : Int32 → Int32 → Int32 → Int32 → (Nat → Int32) → (Nat → Int32) → Option (Int32 × (Nat → Int32) × (Nat → Int32))) (v2 : Int32) (v4 : Int32) (v5 : Int32) (M_minute : Nat → Int32) (M_longest : Nat → Int32) : Option (Int32 × (Nat → Int32) × (Nat → Int32)) :=
  if v4 = p1 then (
    some (v5, M_minute, M_longest))
  else (
    zlet (v2 + (-1)) fun v2_12 =>
    zlet (v4 + 1) fun v4_13 =>
    fX10_shown_J88 k28 v2_12 v5 v4_13 v5 M_minute M_longest)
def fX10_shown_L28 (M_guests : Int32) (p1 : Int32) : Nat → Int32 → Int32 → Int32 → Int32 → (Nat → Int32) → (Nat → Int32) → Option (Int32 × (Nat → Int32) × (Nat → Int32))
  | 0, _, _, _, _, _, _ => none
  | n + 1, v2, v3, v4, v5, M_minute, M_longest =>
    if M_guests ≤ v5 then (
      some ((-4), M_minute, M_longest))
    else (
      zg (zin v5 11) <|
      if (M_longest v5.toNatClampNeg) = v2 then (
        if v3 = (-4) then (
          fX10_shown_J70 p1 (fX10_shown_L28 M_guests p1 n) v2 v4 v5 M_minute M_longest)
        else (
          zg (zin v5 10) <|
          zg (zin v3 10) <|
          if (M_minute v5.toNatClampNeg) < (M_minute v3.toNatClampNeg) then (
            fX10_shown_J88 (fX10_shown_L28 M_guests p1 n) v2 v3 v4 v5 M_minute M_longest)
          else (
            fX10_shown_J70 p1 (fX10_shown_L28 M_guests p1 n) v2 v4 v5 M_minute M_longest)))
      else (
        fX10_shown_J88 (fX10_shown_L28 M_guests p1 n) v2 v3 v4 v5 M_minute M_longest))
def fX10_shown (fuel : Nat) (M_guests : Int32) (M_kind : Nat → Int32) (M_figure : Nat → Int32) (M_told : Nat → Int32) (M_minute : Nat → Int32) (M_longest : Nat → Int32) (p1 : Int32) : Option (Int32 × (Nat → Int32) × (Nat → Int32)) :=
  if 0 ≤ p1 then (
    (fX10_chains fuel M_guests M_kind M_figure M_told M_minute M_longest).bind fun o_2 =>
    if p1 < o_2.1 then (
      fX10_shown_L28 M_guests p1 fuel o_2.1 (-4) 0 0 o_2.2.1 o_2.2.2)
    else (
      some ((-4), o_2.2.1, o_2.2.2)))
  else (
    some ((-1), M_minute, M_longest))
def fX10_layOnto_J63 (k6 : Int32 → (Nat → Int32) → (Nat → Int32) → (Nat → Int32) → Int32 → Option (Int32 × (Nat → Int32) × (Nat → Int32) × (Nat → Int32) × Int32)) (v1 : Int32) (M_pile : Nat → Int32) (M_high : Nat → Int32) (M_where : Nat → Int32) (M_latest : Int32) : Option (Int32 × (Nat → Int32) × (Nat → Int32) × (Nat → Int32) × Int32) :=
  zlet (v1 + 1) fun v1_9 =>
  k6 v1_9 M_pile M_high M_where M_latest
def fX10_layOnto_L6 (fuel : Nat) (M_guests : Int32) (M_holds : Int32) (M_onto : Nat → Int32) : Nat → Int32 → (Nat → Int32) → (Nat → Int32) → (Nat → Int32) → Int32 → Option (Int32 × (Nat → Int32) × (Nat → Int32) × (Nat → Int32) × Int32)
  | 0, _, _, _, _, _ => none
  | n + 1, v1, M_pile, M_high, M_where, M_latest =>
    if M_guests ≤ v1 then (
      some (1, M_pile, M_high, M_where, M_latest))
    else (
      zg (zin v1 10) <|
      zlet (upd M_where v1.toNatClampNeg (M_onto v1.toNatClampNeg)) fun M_where_4 =>
      if (M_onto v1.toNatClampNeg) = 9 then (
        fX10_layOnto_J63 (fX10_layOnto_L6 fuel M_guests M_holds M_onto n) v1 M_pile M_high M_where_4 M_latest)
      else (
        (fX10_hasRoom fuel M_holds M_high (M_onto v1.toNatClampNeg)).bind fun o_6 =>
        if o_6 = 0 then (
          some (0, M_pile, M_high, M_where_4, M_latest))
        else (
          (fX10_putOn fuel M_pile M_high (M_onto v1.toNatClampNeg) v1).bind fun o_8 =>
          fX10_layOnto_J63 (fX10_layOnto_L6 fuel M_guests M_holds M_onto n) v1 o_8.1 o_8.2 M_where_4 M_latest)))
def fX10_layOnto (fuel : Nat) (M_guests : Int32) (M_holds : Int32) (M_pile : Nat → Int32) (M_high : Nat → Int32) (M_where : Nat → Int32) (M_latest : Int32) (M_onto : Nat → Int32) : Option (Int32 × (Nat → Int32) × (Nat → Int32) × (Nat → Int32) × Int32) :=
  (fX10_clear fuel M_high M_latest).bind fun o_1 =>
  fX10_layOnto_L6 fuel M_guests M_holds M_onto fuel 0 M_pile o_1.1 M_where o_1.2
def fX10_nextLaying_J37 (k7 : Int32 → (Nat → Int32) → Option (Int32 × (Nat → Int32))) (v1 : Int32) (M_onto : Nat → Int32) : Option (Int32 × (Nat → Int32)) :=
  zg (zin v1 10) <|
  if (M_onto v1.toNatClampNeg) = 9 then (
    zlet (upd M_onto v1.toNatClampNeg 9) fun M_onto_13 =>
    zlet (v1 + (-1)) fun v1_14 =>
    k7 v1_14 M_onto_13)
  else (
    zlet (upd M_onto v1.toNatClampNeg 0) fun M_onto_11 =>
    zlet (v1 + (-1)) fun v1_12 =>
    k7 v1_12 M_onto_11)
def fX10_nextLaying_J66 (v1 : Int32) (M_onto : Nat → Int32) : Option (Int32 × (Nat → Int32)) :=
  if 0 ≤ v1 then (
    zg (zin v1 10) <|
    zlet (upd M_onto v1.toNatClampNeg (((M_onto v1.toNatClampNeg) + 1))) fun M_onto_8 =>
    some (1, M_onto_8))
  else (
    some (0, M_onto))
def fX10_nextLaying_L7 (M_heaps : Int32) : Nat → Int32 → (Nat → Int32) → Option (Int32 × (Nat → Int32))
  | 0, _, _ => none
  | n + 1, v1, M_onto =>
    if v1 < 0 then (
      fX10_nextLaying_J66 v1 M_onto)
    else (
      zg (zin v1 10) <|
      if (M_onto v1.toNatClampNeg) = 9 then (
        fX10_nextLaying_J37 (fX10_nextLaying_L7 M_heaps n) v1 M_onto)
      else (
        if (M_onto v1.toNatClampNeg) = (M_heaps - 1) then (
          fX10_nextLaying_J37 (fX10_nextLaying_L7 M_heaps n) v1 M_onto)
        else (
          fX10_nextLaying_J66 v1 M_onto)))
def fX10_nextLaying (fuel : Nat) (M_guests : Int32) (M_heaps : Int32) (M_onto : Nat → Int32) : Option (Int32 × (Nat → Int32)) :=
  zlet (M_guests - 1) fun v1_1 =>
  fX10_nextLaying_L7 M_heaps fuel v1_1 M_onto
def fX10_least_J145 (fuel : Nat) (M_guests : Int32) (M_heaps : Int32) (k72 : Int32 → Int32 → Int32 → (Nat → Int32) → Int32 → (Nat → Int32) → Int32 → (Nat → Int32) → (Nat → Int32) → (Nat → Int32) → (Nat → Int32) → Int32 → (Nat → Int32) → (Nat → Int32) → (Nat → Int32) → (Nat → Int32) → (Nat → Int32) → (Nat → Int32) → (Nat → Int32) → Int32 → Int32 → (Nat → Int32) → Option (Int32 × (Nat → Int32) × Int32 × (Nat → Int32) × Int32 × (Nat → Int32) × (Nat → Int32) × (Nat → Int32) × (Nat → Int32) × Int32 × (Nat → Int32) × (Nat → Int32) × (Nat → Int32) × (Nat → Int32) × (Nat → Int32) × (Nat → Int32) × (Nat → Int32) × Int32 × Int32 × (Nat → Int32))) (v2 : Int32) (v3 : Int32) (M_coming : Nat → Int32) (M_comingMany : Int32) (M_going : Nat → Int32) (M_goingMany : Int32) (M_minute : Nat → Int32) (M_pile : Nat → Int32) (M_high : Nat → Int32) (M_where : Nat → Int32) (M_latest : Int32) (M_lifts : Nat → Int32) (M_begun : Nat → Int32) (M_left : Nat → Int32) (M_has : Nat → Int32) (M_lifted : Nat → Int32) (M_taken : Nat → Int32) (M_above : Nat → Int32) (M_allLifts : Int32) (M_busy : Int32) (M_onto : Nat → Int32) : Option (Int32 × (Nat → Int32) × Int32 × (Nat → Int32) × Int32 × (Nat → Int32) × (Nat → Int32) × (Nat → Int32) × (Nat → Int32) × Int32 × (Nat → Int32) × (Nat → Int32) × (Nat → Int32) × (Nat → Int32) × (Nat → Int32) × (Nat → Int32) × (Nat → Int32) × Int32 × Int32 × (Nat → Int32)) :=
  (fX10_nextLaying fuel M_guests M_heaps M_onto).bind fun o_25 =>
  k72 v2 v3 o_25.1 M_coming M_comingMany M_going M_goingMany M_minute M_pile M_high M_where M_latest M_lifts M_begun M_left M_has M_lifted M_taken M_above M_allLifts M_busy o_25.2
def fX10_least_L117 (fuel : Nat) (M_guests : Int32) (M_heaps : Int32) (k72 : Int32 → Int32 → Int32 → (Nat → Int32) → Int32 → (Nat → Int32) → Int32 → (Nat → Int32) → (Nat → Int32) → (Nat → Int32) → (Nat → Int32) → Int32 → (Nat → Int32) → (Nat → Int32) → (Nat → Int32) → (Nat → Int32) → (Nat → Int32) → (Nat → Int32) → (Nat → Int32) → Int32 → Int32 → (Nat → Int32) → Option (Int32 × (Nat → Int32) × Int32 × (Nat → Int32) × Int32 × (Nat → Int32) × (Nat → Int32) × (Nat → Int32) × (Nat → Int32) × Int32 × (Nat → Int32) × (Nat → Int32) × (Nat → Int32) × (Nat → Int32) × (Nat → Int32) × (Nat → Int32) × (Nat → Int32) × Int32 × Int32 × (Nat → Int32))) : Nat → Int32 → Int32 → Int32 → (Nat → Int32) → Int32 → (Nat → Int32) → Int32 → (Nat → Int32) → (Nat → Int32) → (Nat → Int32) → (Nat → Int32) → Int32 → (Nat → Int32) → (Nat → Int32) → (Nat → Int32) → (Nat → Int32) → (Nat → Int32) → (Nat → Int32) → (Nat → Int32) → Int32 → Int32 → (Nat → Int32) → Option (Int32 × (Nat → Int32) × Int32 × (Nat → Int32) × Int32 × (Nat → Int32) × (Nat → Int32) × (Nat → Int32) × (Nat → Int32) × Int32 × (Nat → Int32) × (Nat → Int32) × (Nat → Int32) × (Nat → Int32) × (Nat → Int32) × (Nat → Int32) × (Nat → Int32) × Int32 × Int32 × (Nat → Int32))
  | 0, _, _, _, _, _, _, _, _, _, _, _, _, _, _, _, _, _, _, _, _, _, _ => none
  | n + 1, v2, v3, v6, M_coming, M_comingMany, M_going, M_goingMany, M_minute, M_pile, M_high, M_where, M_latest, M_lifts, M_begun, M_left, M_has, M_lifted, M_taken, M_above, M_allLifts, M_busy, M_onto =>
    if M_guests ≤ v6 then (
      fX10_least_J145 fuel M_guests M_heaps k72 v2 v3 M_coming M_comingMany M_going M_goingMany M_minute M_pile M_high M_where M_latest M_lifts M_begun M_left M_has M_lifted M_taken M_above M_allLifts M_busy M_onto)
    else (
      zg (zin v6 10) <|
      zlet (((10 * v2) + (M_onto v6.toNatClampNeg))) fun v2_23 =>
      zlet (v6 + 1) fun v6_24 =>
      fX10_least_L117 fuel M_guests M_heaps k72 n v2_23 v3 v6_24 M_coming M_comingMany M_going M_goingMany M_minute M_pile M_high M_where M_latest M_lifts M_begun M_left M_has M_lifted M_taken M_above M_allLifts M_busy M_onto)
def fX10_least_J109 (fuel : Nat) (M_guests : Int32) (M_heaps : Int32) (k72 : Int32 → Int32 → Int32 → (Nat → Int32) → Int32 → (Nat → Int32) → Int32 → (Nat → Int32) → (Nat → Int32) → (Nat → Int32) → (Nat → Int32) → Int32 → (Nat → Int32) → (Nat → Int32) → (Nat → Int32) → (Nat → Int32) → (Nat → Int32) → (Nat → Int32) → (Nat → Int32) → Int32 → Int32 → (Nat → Int32) → Option (Int32 × (Nat → Int32) × Int32 × (Nat → Int32) × Int32 × (Nat → Int32) × (Nat → Int32) × (Nat → Int32) × (Nat → Int32) × Int32 × (Nat → Int32) × (Nat → Int32) × (Nat → Int32) × (Nat → Int32) × (Nat → Int32) × (Nat → Int32) × (Nat → Int32) × Int32 × Int32 × (Nat → Int32))) (v5 : Int32) (M_coming : Nat → Int32) (M_comingMany : Int32) (M_going : Nat → Int32) (M_goingMany : Int32) (M_minute : Nat → Int32) (M_pile : Nat → Int32) (M_high : Nat → Int32) (M_where : Nat → Int32) (M_latest : Int32) (M_lifts : Nat → Int32) (M_begun : Nat → Int32) (M_left : Nat → Int32) (M_has : Nat → Int32) (M_lifted : Nat → Int32) (M_taken : Nat → Int32) (M_above : Nat → Int32) (M_allLifts : Int32) (M_busy : Int32) (M_onto : Nat → Int32) : Option (Int32 × (Nat → Int32) × Int32 × (Nat → Int32) × Int32 × (Nat → Int32) × (Nat → Int32) × (Nat → Int32) × (Nat → Int32) × Int32 × (Nat → Int32) × (Nat → Int32) × (Nat → Int32) × (Nat → Int32) × (Nat → Int32) × (Nat → Int32) × (Nat → Int32) × Int32 × Int32 × (Nat → Int32)) :=
  fX10_least_L117 fuel M_guests M_heaps k72 fuel 0 v5 0 M_coming M_comingMany M_going M_goingMany M_minute M_pile M_high M_where M_latest M_lifts M_begun M_left M_has M_lifted M_taken M_above M_allLifts M_busy M_onto
def fX10_least_J154 (p1 : Int32) (v2 : Int32) (v3 : Int32) (M_coming : Nat → Int32) (M_comingMany : Int32) (M_going : Nat → Int32) (M_goingMany : Int32) (M_minute : Nat → Int32) (M_pile : Nat → Int32) (M_high : Nat → Int32) (M_where : Nat → Int32) (M_latest : Int32) (M_lifts : Nat → Int32) (M_begun : Nat → Int32) (M_left : Nat → Int32) (M_has : Nat → Int32) (M_lifted : Nat → Int32) (M_taken : Nat → Int32) (M_above : Nat → Int32) (M_allLifts : Int32) (M_busy : Int32) (M_onto : Nat → Int32) : Option (Int32 × (Nat → Int32) × Int32 × (Nat → Int32) × Int32 × (Nat → Int32) × (Nat → Int32) × (Nat → Int32) × (Nat → Int32) × Int32 × (Nat → Int32) × (Nat → Int32) × (Nat → Int32) × (Nat → Int32) × (Nat → Int32) × (Nat → Int32) × (Nat → Int32) × Int32 × Int32 × (Nat → Int32)) :=
  if p1 = 0 then (
    some (v3, M_coming, M_comingMany, M_going, M_goingMany, M_minute, M_pile, M_high, M_where, M_latest, M_lifts, M_begun, M_left, M_has, M_lifted, M_taken, M_above, M_allLifts, M_busy, M_onto))
  else (
    some (v2, M_coming, M_comingMany, M_going, M_goingMany, M_minute, M_pile, M_high, M_where, M_latest, M_lifts, M_begun, M_left, M_has, M_lifted, M_taken, M_above, M_allLifts, M_busy, M_onto))
def fX10_least_L72 (fuel : Nat) (M_guests : Int32) (M_kind : Nat → Int32) (M_figure : Nat → Int32) (M_heaps : Int32) (M_holds : Int32) (M_back : Int32) (M_mistakes : Int32) (p1 : Int32) : Nat → Int32 → Int32 → Int32 → (Nat → Int32) → Int32 → (Nat → Int32) → Int32 → (Nat → Int32) → (Nat → Int32) → (Nat → Int32) → (Nat → Int32) → Int32 → (Nat → Int32) → (Nat → Int32) → (Nat → Int32) → (Nat → Int32) → (Nat → Int32) → (Nat → Int32) → (Nat → Int32) → Int32 → Int32 → (Nat → Int32) → Option (Int32 × (Nat → Int32) × Int32 × (Nat → Int32) × Int32 × (Nat → Int32) × (Nat → Int32) × (Nat → Int32) × (Nat → Int32) × Int32 × (Nat → Int32) × (Nat → Int32) × (Nat → Int32) × (Nat → Int32) × (Nat → Int32) × (Nat → Int32) × (Nat → Int32) × Int32 × Int32 × (Nat → Int32))
  | 0, _, _, _, _, _, _, _, _, _, _, _, _, _, _, _, _, _, _, _, _, _, _ => none
  | n + 1, v2, v3, v4, M_coming, M_comingMany, M_going, M_goingMany, M_minute, M_pile, M_high, M_where, M_latest, M_lifts, M_begun, M_left, M_has, M_lifted, M_taken, M_above, M_allLifts, M_busy, M_onto =>
    if v4 = 0 then (
      fX10_least_J154 p1 v2 v3 M_coming M_comingMany M_going M_goingMany M_minute M_pile M_high M_where M_latest M_lifts M_begun M_left M_has M_lifted M_taken M_above M_allLifts M_busy M_onto)
    else (
      (fX10_layOnto fuel M_guests M_holds M_pile M_high M_where M_latest M_onto).bind fun o_15 =>
      if o_15.1 = 0 then (
        fX10_least_J145 fuel M_guests M_heaps (fX10_least_L72 fuel M_guests M_kind M_figure M_heaps M_holds M_back M_mistakes p1 n) v2 v3 M_coming M_comingMany M_going M_goingMany M_minute o_15.2.1 o_15.2.2.1 o_15.2.2.2.1 o_15.2.2.2.2 M_lifts M_begun M_left M_has M_lifted M_taken M_above M_allLifts M_busy M_onto)
      else (
        (fX10_go fuel M_guests M_kind M_figure M_heaps M_back M_mistakes M_going M_minute o_15.2.1 o_15.2.2.1 o_15.2.2.2.1 M_lifts M_begun M_left M_has M_lifted M_taken M_above M_allLifts M_busy M_goingMany 1000000).bind fun o_17 =>
        if v3 = (-4) then (
          fX10_least_J109 fuel M_guests M_heaps (fX10_least_L72 fuel M_guests M_kind M_figure M_heaps M_holds M_back M_mistakes p1 n) o_17.1 M_coming M_comingMany M_going M_goingMany M_minute o_17.2.1 o_17.2.2.1 o_15.2.2.2.1 o_15.2.2.2.2 o_17.2.2.2.1 o_17.2.2.2.2.1 o_17.2.2.2.2.2.1 o_17.2.2.2.2.2.2.1 o_17.2.2.2.2.2.2.2.1 o_17.2.2.2.2.2.2.2.2.1 o_17.2.2.2.2.2.2.2.2.2.1 o_17.2.2.2.2.2.2.2.2.2.2.1 o_17.2.2.2.2.2.2.2.2.2.2.2 M_onto)
        else (
          if v3 ≤ o_17.1 then (
            fX10_least_J145 fuel M_guests M_heaps (fX10_least_L72 fuel M_guests M_kind M_figure M_heaps M_holds M_back M_mistakes p1 n) v2 v3 M_coming M_comingMany M_going M_goingMany M_minute o_17.2.1 o_17.2.2.1 o_15.2.2.2.1 o_15.2.2.2.2 o_17.2.2.2.1 o_17.2.2.2.2.1 o_17.2.2.2.2.2.1 o_17.2.2.2.2.2.2.1 o_17.2.2.2.2.2.2.2.1 o_17.2.2.2.2.2.2.2.2.1 o_17.2.2.2.2.2.2.2.2.2.1 o_17.2.2.2.2.2.2.2.2.2.2.1 o_17.2.2.2.2.2.2.2.2.2.2.2 M_onto)
          else (
            fX10_least_J109 fuel M_guests M_heaps (fX10_least_L72 fuel M_guests M_kind M_figure M_heaps M_holds M_back M_mistakes p1 n) o_17.1 M_coming M_comingMany M_going M_goingMany M_minute o_17.2.1 o_17.2.2.1 o_15.2.2.2.1 o_15.2.2.2.2 o_17.2.2.2.1 o_17.2.2.2.2.1 o_17.2.2.2.2.2.1 o_17.2.2.2.2.2.2.1 o_17.2.2.2.2.2.2.2.1 o_17.2.2.2.2.2.2.2.2.1 o_17.2.2.2.2.2.2.2.2.2.1 o_17.2.2.2.2.2.2.2.2.2.2.1 o_17.2.2.2.2.2.2.2.2.2.2.2 M_onto))))
def fX10_least_J63 (fuel : Nat) (M_guests : Int32) (M_kind : Nat → Int32) (M_figure : Nat → Int32) (M_heaps : Int32) (M_holds : Int32) (M_back : Int32) (M_mistakes : Int32) (p1 : Int32) (M_coming : Nat → Int32) (M_comingMany : Int32) (M_going : Nat → Int32) (M_goingMany : Int32) (M_minute : Nat → Int32) (M_pile : Nat → Int32) (M_high : Nat → Int32) (M_where : Nat → Int32) (M_latest : Int32) (M_lifts : Nat → Int32) (M_begun : Nat → Int32) (M_left : Nat → Int32) (M_has : Nat → Int32) (M_lifted : Nat → Int32) (M_taken : Nat → Int32) (M_above : Nat → Int32) (M_allLifts : Int32) (M_busy : Int32) (M_onto : Nat → Int32) : Option (Int32 × (Nat → Int32) × Int32 × (Nat → Int32) × Int32 × (Nat → Int32) × (Nat → Int32) × (Nat → Int32) × (Nat → Int32) × Int32 × (Nat → Int32) × (Nat → Int32) × (Nat → Int32) × (Nat → Int32) × (Nat → Int32) × (Nat → Int32) × (Nat → Int32) × Int32 × Int32 × (Nat → Int32)) :=
  fX10_least_L72 fuel M_guests M_kind M_figure M_heaps M_holds M_back M_mistakes p1 fuel (-4) (-4) 1 M_coming M_comingMany M_going M_goingMany M_minute M_pile M_high M_where M_latest M_lifts M_begun M_left M_has M_lifted M_taken M_above M_allLifts M_busy M_onto
def fX10_least_L29 (fuel : Nat) (M_guests : Int32) (M_kind : Nat → Int32) (M_figure : Nat → Int32) (M_heaps : Int32) (M_holds : Int32) (M_back : Int32) (M_mistakes : Int32) (M_hooks : Int32) (p1 : Int32) : Nat → Int32 → (Nat → Int32) → Int32 → (Nat → Int32) → Int32 → (Nat → Int32) → (Nat → Int32) → (Nat → Int32) → (Nat → Int32) → Int32 → (Nat → Int32) → (Nat → Int32) → (Nat → Int32) → (Nat → Int32) → (Nat → Int32) → (Nat → Int32) → (Nat → Int32) → Int32 → Int32 → (Nat → Int32) → Option (Int32 × (Nat → Int32) × Int32 × (Nat → Int32) × Int32 × (Nat → Int32) × (Nat → Int32) × (Nat → Int32) × (Nat → Int32) × Int32 × (Nat → Int32) × (Nat → Int32) × (Nat → Int32) × (Nat → Int32) × (Nat → Int32) × (Nat → Int32) × (Nat → Int32) × Int32 × Int32 × (Nat → Int32))
  | 0, _, _, _, _, _, _, _, _, _, _, _, _, _, _, _, _, _, _, _, _ => none
  | n + 1, v2, M_coming, M_comingMany, M_going, M_goingMany, M_minute, M_pile, M_high, M_where, M_latest, M_lifts, M_begun, M_left, M_has, M_lifted, M_taken, M_above, M_allLifts, M_busy, M_onto =>
    if M_guests ≤ v2 then (
      fX10_least_J63 fuel M_guests M_kind M_figure M_heaps M_holds M_back M_mistakes p1 M_coming M_comingMany M_going M_goingMany M_minute M_pile M_high M_where M_latest M_lifts M_begun M_left M_has M_lifted M_taken M_above M_allLifts M_busy M_onto)
    else (
      (fX10_hangs fuel M_hooks v2).bind fun o_6 =>
      if o_6 = 0 then (
        zg (zin v2 10) <|
        zlet (upd M_onto v2.toNatClampNeg 0) fun M_onto_9 =>
        zlet (v2 + 1) fun v2_10 =>
        fX10_least_L29 fuel M_guests M_kind M_figure M_heaps M_holds M_back M_mistakes M_hooks p1 n v2_10 M_coming M_comingMany M_going M_goingMany M_minute M_pile M_high M_where M_latest M_lifts M_begun M_left M_has M_lifted M_taken M_above M_allLifts M_busy M_onto_9)
      else (
        zg (zin v2 10) <|
        zlet (upd M_onto v2.toNatClampNeg 9) fun M_onto_12 =>
        zlet (v2 + 1) fun v2_13 =>
        fX10_least_L29 fuel M_guests M_kind M_figure M_heaps M_holds M_back M_mistakes M_hooks p1 n v2_13 M_coming M_comingMany M_going M_goingMany M_minute M_pile M_high M_where M_latest M_lifts M_begun M_left M_has M_lifted M_taken M_above M_allLifts M_busy M_onto_12))
def fX10_least (fuel : Nat) (M_guests : Int32) (M_kind : Nat → Int32) (M_figure : Nat → Int32) (M_told : Nat → Int32) (M_heaps : Int32) (M_holds : Int32) (M_back : Int32) (M_mistakes : Int32) (M_hooks : Int32) (M_coming : Nat → Int32) (M_comingMany : Int32) (M_going : Nat → Int32) (M_goingMany : Int32) (M_minute : Nat → Int32) (M_pile : Nat → Int32) (M_high : Nat → Int32) (M_where : Nat → Int32) (M_latest : Int32) (M_lifts : Nat → Int32) (M_begun : Nat → Int32) (M_left : Nat → Int32) (M_has : Nat → Int32) (M_lifted : Nat → Int32) (M_taken : Nat → Int32) (M_above : Nat → Int32) (M_allLifts : Int32) (M_busy : Int32) (M_onto : Nat → Int32) (p1 : Int32) : Option (Int32 × (Nat → Int32) × Int32 × (Nat → Int32) × Int32 × (Nat → Int32) × (Nat → Int32) × (Nat → Int32) × (Nat → Int32) × Int32 × (Nat → Int32) × (Nat → Int32) × (Nat → Int32) × (Nat → Int32) × (Nat → Int32) × (Nat → Int32) × (Nat → Int32) × Int32 × Int32 × (Nat → Int32)) :=
  (fX10_isIn fuel p1 0 1).bind fun o_1 =>
  if o_1 = 0 then (
    some ((-1), M_coming, M_comingMany, M_going, M_goingMany, M_minute, M_pile, M_high, M_where, M_latest, M_lifts, M_begun, M_left, M_has, M_lifted, M_taken, M_above, M_allLifts, M_busy, M_onto))
  else (
    if M_guests ≤ 6 then (
      (fX10_usual fuel M_guests M_kind M_figure M_told M_coming M_comingMany M_going M_goingMany M_minute).bind fun o_4 =>
      fX10_least_L29 fuel M_guests M_kind M_figure M_heaps M_holds M_back M_mistakes M_hooks p1 fuel 0 o_4.1 o_4.2.1 o_4.2.2.1 o_4.2.2.2.1 o_4.2.2.2.2 M_pile M_high M_where M_latest M_lifts M_begun M_left M_has M_lifted M_taken M_above M_allLifts M_busy M_onto)
    else (
      some ((-3), M_coming, M_comingMany, M_going, M_goingMany, M_minute, M_pile, M_high, M_where, M_latest, M_lifts, M_begun, M_left, M_has, M_lifted, M_taken, M_above, M_allLifts, M_busy, M_onto)))
def fX10_byBack (fuel : Nat) (M_guests : Int32) (M_kind : Nat → Int32) (M_figure : Nat → Int32) (M_told : Nat → Int32) (M_heaps : Int32) (M_holds : Int32) (M_back : Int32) (M_mistakes : Int32) (M_hooks : Int32) (M_letters : Int32) (M_rule : Nat → Int32) (M_coming : Nat → Int32) (M_comingMany : Int32) (M_going : Nat → Int32) (M_goingMany : Int32) (M_minute : Nat → Int32) (M_pile : Nat → Int32) (M_high : Nat → Int32) (M_where : Nat → Int32) (M_latest : Int32) (M_lifts : Nat → Int32) (M_begun : Nat → Int32) (M_left : Nat → Int32) (M_has : Nat → Int32) (M_lifted : Nat → Int32) (M_taken : Nat → Int32) (M_above : Nat → Int32) (M_allLifts : Int32) (M_busy : Int32) (p1 : Int32) : Option (Int32 × Int32 × (Nat → Int32) × Int32 × (Nat → Int32) × Int32 × (Nat → Int32) × (Nat → Int32) × (Nat → Int32) × (Nat → Int32) × Int32 × (Nat → Int32) × (Nat → Int32) × (Nat → Int32) × (Nat → Int32) × (Nat → Int32) × (Nat → Int32) × (Nat → Int32) × Int32 × Int32) :=
  (fX10_night fuel M_guests M_kind M_figure M_told M_heaps M_holds p1 M_mistakes M_hooks M_letters M_rule M_coming M_comingMany M_going M_goingMany M_minute M_pile M_high M_where M_latest M_lifts M_begun M_left M_has M_lifted M_taken M_above M_allLifts M_busy).bind fun o_1 =>
  some (o_1.1, M_back, o_1.2.1, o_1.2.2.1, o_1.2.2.2.1, o_1.2.2.2.2.1, o_1.2.2.2.2.2.1, o_1.2.2.2.2.2.2.1, o_1.2.2.2.2.2.2.2.1, o_1.2.2.2.2.2.2.2.2.1, o_1.2.2.2.2.2.2.2.2.2.1, o_1.2.2.2.2.2.2.2.2.2.2.1, o_1.2.2.2.2.2.2.2.2.2.2.2.1, o_1.2.2.2.2.2.2.2.2.2.2.2.2.1, o_1.2.2.2.2.2.2.2.2.2.2.2.2.2.1, o_1.2.2.2.2.2.2.2.2.2.2.2.2.2.2.1, o_1.2.2.2.2.2.2.2.2.2.2.2.2.2.2.2.1, o_1.2.2.2.2.2.2.2.2.2.2.2.2.2.2.2.2.1, o_1.2.2.2.2.2.2.2.2.2.2.2.2.2.2.2.2.2.1, o_1.2.2.2.2.2.2.2.2.2.2.2.2.2.2.2.2.2.2)
def fX10_backs (fuel : Nat) (M_guests : Int32) (M_kind : Nat → Int32) (M_figure : Nat → Int32) (M_told : Nat → Int32) (M_heaps : Int32) (M_holds : Int32) (M_back : Int32) (M_mistakes : Int32) (M_hooks : Int32) (M_letters : Int32) (M_rule : Nat → Int32) (M_coming : Nat → Int32) (M_comingMany : Int32) (M_going : Nat → Int32) (M_goingMany : Int32) (M_minute : Nat → Int32) (M_pile : Nat → Int32) (M_high : Nat → Int32) (M_where : Nat → Int32) (M_latest : Int32) (M_lifts : Nat → Int32) (M_begun : Nat → Int32) (M_left : Nat → Int32) (M_has : Nat → Int32) (M_lifted : Nat → Int32) (M_taken : Nat → Int32) (M_above : Nat → Int32) (M_allLifts : Int32) (M_busy : Int32) (p1 : Int32) : Option (Int32 × Int32 × (Nat → Int32) × Int32 × (Nat → Int32) × Int32 × (Nat → Int32) × (Nat → Int32) × (Nat → Int32) × (Nat → Int32) × Int32 × (Nat → Int32) × (Nat → Int32) × (Nat → Int32) × (Nat → Int32) × (Nat → Int32) × (Nat → Int32) × (Nat → Int32) × Int32 × Int32) :=
  (fX10_isIn fuel p1 0 2).bind fun o_1 =>
  if o_1 = 0 then (
    some ((-1), M_back, M_coming, M_comingMany, M_going, M_goingMany, M_minute, M_pile, M_high, M_where, M_latest, M_lifts, M_begun, M_left, M_has, M_lifted, M_taken, M_above, M_allLifts, M_busy))
  else (
    (fX10_byBack fuel M_guests M_kind M_figure M_told M_heaps M_holds M_back M_mistakes M_hooks M_letters M_rule M_coming M_comingMany M_going M_goingMany M_minute M_pile M_high M_where M_latest M_lifts M_begun M_left M_has M_lifted M_taken M_above M_allLifts M_busy p1).bind fun o_3 =>
    some (o_3.1, o_3.2.1, o_3.2.2.1, o_3.2.2.2.1, o_3.2.2.2.2.1, o_3.2.2.2.2.2.1, o_3.2.2.2.2.2.2.1, o_3.2.2.2.2.2.2.2.1, o_3.2.2.2.2.2.2.2.2.1, o_3.2.2.2.2.2.2.2.2.2.1, o_3.2.2.2.2.2.2.2.2.2.2.1, o_3.2.2.2.2.2.2.2.2.2.2.2.1, o_3.2.2.2.2.2.2.2.2.2.2.2.2.1, o_3.2.2.2.2.2.2.2.2.2.2.2.2.2.1, o_3.2.2.2.2.2.2.2.2.2.2.2.2.2.2.1, o_3.2.2.2.2.2.2.2.2.2.2.2.2.2.2.2.1, o_3.2.2.2.2.2.2.2.2.2.2.2.2.2.2.2.2.1, o_3.2.2.2.2.2.2.2.2.2.2.2.2.2.2.2.2.2.1, o_3.2.2.2.2.2.2.2.2.2.2.2.2.2.2.2.2.2.2.1, o_3.2.2.2.2.2.2.2.2.2.2.2.2.2.2.2.2.2.2.2))
def fX10_bestBack_L4 (fuel : Nat) (M_guests : Int32) (M_kind : Nat → Int32) (M_figure : Nat → Int32) (M_told : Nat → Int32) (M_heaps : Int32) (M_holds : Int32) (M_mistakes : Int32) (M_hooks : Int32) (M_letters : Int32) (M_rule : Nat → Int32) : Nat → Int32 → Int32 → Int32 → (Nat → Int32) → Int32 → (Nat → Int32) → Int32 → (Nat → Int32) → (Nat → Int32) → (Nat → Int32) → (Nat → Int32) → Int32 → (Nat → Int32) → (Nat → Int32) → (Nat → Int32) → (Nat → Int32) → (Nat → Int32) → (Nat → Int32) → (Nat → Int32) → Int32 → Int32 → Option (Int32 × Int32 × (Nat → Int32) × Int32 × (Nat → Int32) × Int32 × (Nat → Int32) × (Nat → Int32) × (Nat → Int32) × (Nat → Int32) × Int32 × (Nat → Int32) × (Nat → Int32) × (Nat → Int32) × (Nat → Int32) × (Nat → Int32) × (Nat → Int32) × (Nat → Int32) × Int32 × Int32)
  | 0, _, _, _, _, _, _, _, _, _, _, _, _, _, _, _, _, _, _, _, _, _ => none
  | n + 1, v1, v2, M_back, M_coming, M_comingMany, M_going, M_goingMany, M_minute, M_pile, M_high, M_where, M_latest, M_lifts, M_begun, M_left, M_has, M_lifted, M_taken, M_above, M_allLifts, M_busy =>
    if 3 ≤ v2 then (
      some (v1, M_back, M_coming, M_comingMany, M_going, M_goingMany, M_minute, M_pile, M_high, M_where, M_latest, M_lifts, M_begun, M_left, M_has, M_lifted, M_taken, M_above, M_allLifts, M_busy))
    else (
      (fX10_byBack fuel M_guests M_kind M_figure M_told M_heaps M_holds M_back M_mistakes M_hooks M_letters M_rule M_coming M_comingMany M_going M_goingMany M_minute M_pile M_high M_where M_latest M_lifts M_begun M_left M_has M_lifted M_taken M_above M_allLifts M_busy v2).bind fun o_2 =>
      (fX10_byBack fuel M_guests M_kind M_figure M_told M_heaps M_holds o_2.2.1 M_mistakes M_hooks M_letters M_rule o_2.2.2.1 o_2.2.2.2.1 o_2.2.2.2.2.1 o_2.2.2.2.2.2.1 o_2.2.2.2.2.2.2.1 o_2.2.2.2.2.2.2.2.1 o_2.2.2.2.2.2.2.2.2.1 o_2.2.2.2.2.2.2.2.2.2.1 o_2.2.2.2.2.2.2.2.2.2.2.1 o_2.2.2.2.2.2.2.2.2.2.2.2.1 o_2.2.2.2.2.2.2.2.2.2.2.2.2.1 o_2.2.2.2.2.2.2.2.2.2.2.2.2.2.1 o_2.2.2.2.2.2.2.2.2.2.2.2.2.2.2.1 o_2.2.2.2.2.2.2.2.2.2.2.2.2.2.2.2.1 o_2.2.2.2.2.2.2.2.2.2.2.2.2.2.2.2.2.1 o_2.2.2.2.2.2.2.2.2.2.2.2.2.2.2.2.2.2.1 o_2.2.2.2.2.2.2.2.2.2.2.2.2.2.2.2.2.2.2.1 o_2.2.2.2.2.2.2.2.2.2.2.2.2.2.2.2.2.2.2.2 v1).bind fun o_3 =>
      if o_3.1 ≤ o_2.1 then (
        zlet (v2 + 1) fun v2_5 =>
        fX10_bestBack_L4 fuel M_guests M_kind M_figure M_told M_heaps M_holds M_mistakes M_hooks M_letters M_rule n v1 v2_5 o_3.2.1 o_3.2.2.1 o_3.2.2.2.1 o_3.2.2.2.2.1 o_3.2.2.2.2.2.1 o_3.2.2.2.2.2.2.1 o_3.2.2.2.2.2.2.2.1 o_3.2.2.2.2.2.2.2.2.1 o_3.2.2.2.2.2.2.2.2.2.1 o_3.2.2.2.2.2.2.2.2.2.2.1 o_3.2.2.2.2.2.2.2.2.2.2.2.1 o_3.2.2.2.2.2.2.2.2.2.2.2.2.1 o_3.2.2.2.2.2.2.2.2.2.2.2.2.2.1 o_3.2.2.2.2.2.2.2.2.2.2.2.2.2.2.1 o_3.2.2.2.2.2.2.2.2.2.2.2.2.2.2.2.1 o_3.2.2.2.2.2.2.2.2.2.2.2.2.2.2.2.2.1 o_3.2.2.2.2.2.2.2.2.2.2.2.2.2.2.2.2.2.1 o_3.2.2.2.2.2.2.2.2.2.2.2.2.2.2.2.2.2.2.1 o_3.2.2.2.2.2.2.2.2.2.2.2.2.2.2.2.2.2.2.2)
      else (
        zlet (v2 + 1) fun v2_6 =>
        fX10_bestBack_L4 fuel M_guests M_kind M_figure M_told M_heaps M_holds M_mistakes M_hooks M_letters M_rule n v2 v2_6 o_3.2.1 o_3.2.2.1 o_3.2.2.2.1 o_3.2.2.2.2.1 o_3.2.2.2.2.2.1 o_3.2.2.2.2.2.2.1 o_3.2.2.2.2.2.2.2.1 o_3.2.2.2.2.2.2.2.2.1 o_3.2.2.2.2.2.2.2.2.2.1 o_3.2.2.2.2.2.2.2.2.2.2.1 o_3.2.2.2.2.2.2.2.2.2.2.2.1 o_3.2.2.2.2.2.2.2.2.2.2.2.2.1 o_3.2.2.2.2.2.2.2.2.2.2.2.2.2.1 o_3.2.2.2.2.2.2.2.2.2.2.2.2.2.2.1 o_3.2.2.2.2.2.2.2.2.2.2.2.2.2.2.2.1 o_3.2.2.2.2.2.2.2.2.2.2.2.2.2.2.2.2.1 o_3.2.2.2.2.2.2.2.2.2.2.2.2.2.2.2.2.2.1 o_3.2.2.2.2.2.2.2.2.2.2.2.2.2.2.2.2.2.2.1 o_3.2.2.2.2.2.2.2.2.2.2.2.2.2.2.2.2.2.2.2))
def fX10_bestBack (fuel : Nat) (M_guests : Int32) (M_kind : Nat → Int32) (M_figure : Nat → Int32) (M_told : Nat → Int32) (M_heaps : Int32) (M_holds : Int32) (M_back : Int32) (M_mistakes : Int32) (M_hooks : Int32) (M_letters : Int32) (M_rule : Nat → Int32) (M_coming : Nat → Int32) (M_comingMany : Int32) (M_going : Nat → Int32) (M_goingMany : Int32) (M_minute : Nat → Int32) (M_pile : Nat → Int32) (M_high : Nat → Int32) (M_where : Nat → Int32) (M_latest : Int32) (M_lifts : Nat → Int32) (M_begun : Nat → Int32) (M_left : Nat → Int32) (M_has : Nat → Int32) (M_lifted : Nat → Int32) (M_taken : Nat → Int32) (M_above : Nat → Int32) (M_allLifts : Int32) (M_busy : Int32) : Option (Int32 × Int32 × (Nat → Int32) × Int32 × (Nat → Int32) × Int32 × (Nat → Int32) × (Nat → Int32) × (Nat → Int32) × (Nat → Int32) × Int32 × (Nat → Int32) × (Nat → Int32) × (Nat → Int32) × (Nat → Int32) × (Nat → Int32) × (Nat → Int32) × (Nat → Int32) × Int32 × Int32) :=
  fX10_bestBack_L4 fuel M_guests M_kind M_figure M_told M_heaps M_holds M_mistakes M_hooks M_letters M_rule fuel 0 1 M_back M_coming M_comingMany M_going M_goingMany M_minute M_pile M_high M_where M_latest M_lifts M_begun M_left M_has M_lifted M_taken M_above M_allLifts M_busy
def fX10_byHooks (fuel : Nat) (M_guests : Int32) (M_kind : Nat → Int32) (M_figure : Nat → Int32) (M_told : Nat → Int32) (M_heaps : Int32) (M_holds : Int32) (M_back : Int32) (M_mistakes : Int32) (M_hooks : Int32) (M_letters : Int32) (M_rule : Nat → Int32) (M_coming : Nat → Int32) (M_comingMany : Int32) (M_going : Nat → Int32) (M_goingMany : Int32) (M_minute : Nat → Int32) (M_pile : Nat → Int32) (M_high : Nat → Int32) (M_where : Nat → Int32) (M_latest : Int32) (M_lifts : Nat → Int32) (M_begun : Nat → Int32) (M_left : Nat → Int32) (M_has : Nat → Int32) (M_lifted : Nat → Int32) (M_taken : Nat → Int32) (M_above : Nat → Int32) (M_allLifts : Int32) (M_busy : Int32) (p1 : Int32) : Option (Int32 × Int32 × (Nat → Int32) × Int32 × (Nat → Int32) × Int32 × (Nat → Int32) × (Nat → Int32) × (Nat → Int32) × (Nat → Int32) × Int32 × (Nat → Int32) × (Nat → Int32) × (Nat → Int32) × (Nat → Int32) × (Nat → Int32) × (Nat → Int32) × (Nat → Int32) × Int32 × Int32) :=
  (fX10_night fuel M_guests M_kind M_figure M_told M_heaps M_holds M_back M_mistakes p1 M_letters M_rule M_coming M_comingMany M_going M_goingMany M_minute M_pile M_high M_where M_latest M_lifts M_begun M_left M_has M_lifted M_taken M_above M_allLifts M_busy).bind fun o_1 =>
  some (o_1.1, M_hooks, o_1.2.1, o_1.2.2.1, o_1.2.2.2.1, o_1.2.2.2.2.1, o_1.2.2.2.2.2.1, o_1.2.2.2.2.2.2.1, o_1.2.2.2.2.2.2.2.1, o_1.2.2.2.2.2.2.2.2.1, o_1.2.2.2.2.2.2.2.2.2.1, o_1.2.2.2.2.2.2.2.2.2.2.1, o_1.2.2.2.2.2.2.2.2.2.2.2.1, o_1.2.2.2.2.2.2.2.2.2.2.2.2.1, o_1.2.2.2.2.2.2.2.2.2.2.2.2.2.1, o_1.2.2.2.2.2.2.2.2.2.2.2.2.2.2.1, o_1.2.2.2.2.2.2.2.2.2.2.2.2.2.2.2.1, o_1.2.2.2.2.2.2.2.2.2.2.2.2.2.2.2.2.1, o_1.2.2.2.2.2.2.2.2.2.2.2.2.2.2.2.2.2.1, o_1.2.2.2.2.2.2.2.2.2.2.2.2.2.2.2.2.2.2)
def fX10_bestHooks_J54 (k8 : Int32 → Int32 → Int32 → Int32 → (Nat → Int32) → Int32 → (Nat → Int32) → Int32 → (Nat → Int32) → (Nat → Int32) → (Nat → Int32) → (Nat → Int32) → Int32 → (Nat → Int32) → (Nat → Int32) → (Nat → Int32) → (Nat → Int32) → (Nat → Int32) → (Nat → Int32) → (Nat → Int32) → Int32 → Int32 → Option (Int32 × Int32 × (Nat → Int32) × Int32 × (Nat → Int32) × Int32 × (Nat → Int32) × (Nat → Int32) × (Nat → Int32) × (Nat → Int32) × Int32 × (Nat → Int32) × (Nat → Int32) × (Nat → Int32) × (Nat → Int32) × (Nat → Int32) × (Nat → Int32) × (Nat → Int32) × Int32 × Int32)) (v2 : Int32) (v3 : Int32) (v4 : Int32) (M_hooks : Int32) (M_coming : Nat → Int32) (M_comingMany : Int32) (M_going : Nat → Int32) (M_goingMany : Int32) (M_minute : Nat → Int32) (M_pile : Nat → Int32) (M_high : Nat → Int32) (M_where : Nat → Int32) (M_latest : Int32) (M_lifts : Nat → Int32) (M_begun : Nat → Int32) (M_left : Nat → Int32) (M_has : Nat → Int32) (M_lifted : Nat → Int32) (M_taken : Nat → Int32) (M_above : Nat → Int32) (M_allLifts : Int32) (M_busy : Int32) : Option (Int32 × Int32 × (Nat → Int32) × Int32 × (Nat → Int32) × Int32 × (Nat → Int32) × (Nat → Int32) × (Nat → Int32) × (Nat → Int32) × Int32 × (Nat → Int32) × (Nat → Int32) × (Nat → Int32) × (Nat → Int32) × (Nat → Int32) × (Nat → Int32) × (Nat → Int32) × Int32 × Int32) :=
  zlet (v4 + 1) fun v4_7 =>
  k8 v2 v3 v4_7 M_hooks M_coming M_comingMany M_going M_goingMany M_minute M_pile M_high M_where M_latest M_lifts M_begun M_left M_has M_lifted M_taken M_above M_allLifts M_busy
def fX10_bestHooks_J48 (k8 : Int32 → Int32 → Int32 → Int32 → (Nat → Int32) → Int32 → (Nat → Int32) → Int32 → (Nat → Int32) → (Nat → Int32) → (Nat → Int32) → (Nat → Int32) → Int32 → (Nat → Int32) → (Nat → Int32) → (Nat → Int32) → (Nat → Int32) → (Nat → Int32) → (Nat → Int32) → (Nat → Int32) → Int32 → Int32 → Option (Int32 × Int32 × (Nat → Int32) × Int32 × (Nat → Int32) × Int32 × (Nat → Int32) × (Nat → Int32) × (Nat → Int32) × (Nat → Int32) × Int32 × (Nat → Int32) × (Nat → Int32) × (Nat → Int32) × (Nat → Int32) × (Nat → Int32) × (Nat → Int32) × (Nat → Int32) × Int32 × Int32)) (v4 : Int32) (v5 : Int32) (M_hooks : Int32) (M_coming : Nat → Int32) (M_comingMany : Int32) (M_going : Nat → Int32) (M_goingMany : Int32) (M_minute : Nat → Int32) (M_pile : Nat → Int32) (M_high : Nat → Int32) (M_where : Nat → Int32) (M_latest : Int32) (M_lifts : Nat → Int32) (M_begun : Nat → Int32) (M_left : Nat → Int32) (M_has : Nat → Int32) (M_lifted : Nat → Int32) (M_taken : Nat → Int32) (M_above : Nat → Int32) (M_allLifts : Int32) (M_busy : Int32) : Option (Int32 × Int32 × (Nat → Int32) × Int32 × (Nat → Int32) × Int32 × (Nat → Int32) × (Nat → Int32) × (Nat → Int32) × (Nat → Int32) × Int32 × (Nat → Int32) × (Nat → Int32) × (Nat → Int32) × (Nat → Int32) × (Nat → Int32) × (Nat → Int32) × (Nat → Int32) × Int32 × Int32) :=
  fX10_bestHooks_J54 k8 v4 v5 v4 M_hooks M_coming M_comingMany M_going M_goingMany M_minute M_pile M_high M_where M_latest M_lifts M_begun M_left M_has M_lifted M_taken M_above M_allLifts M_busy
def fX10_bestHooks_L8 (fuel : Nat) (M_guests : Int32) (M_kind : Nat → Int32) (M_figure : Nat → Int32) (M_told : Nat → Int32) (M_heaps : Int32) (M_holds : Int32) (M_back : Int32) (M_mistakes : Int32) (M_letters : Int32) (M_rule : Nat → Int32) (p1 : Int32) : Nat → Int32 → Int32 → Int32 → Int32 → (Nat → Int32) → Int32 → (Nat → Int32) → Int32 → (Nat → Int32) → (Nat → Int32) → (Nat → Int32) → (Nat → Int32) → Int32 → (Nat → Int32) → (Nat → Int32) → (Nat → Int32) → (Nat → Int32) → (Nat → Int32) → (Nat → Int32) → (Nat → Int32) → Int32 → Int32 → Option (Int32 × Int32 × (Nat → Int32) × Int32 × (Nat → Int32) × Int32 × (Nat → Int32) × (Nat → Int32) × (Nat → Int32) × (Nat → Int32) × Int32 × (Nat → Int32) × (Nat → Int32) × (Nat → Int32) × (Nat → Int32) × (Nat → Int32) × (Nat → Int32) × (Nat → Int32) × Int32 × Int32)
  | 0, _, _, _, _, _, _, _, _, _, _, _, _, _, _, _, _, _, _, _, _, _, _ => none
  | n + 1, v2, v3, v4, M_hooks, M_coming, M_comingMany, M_going, M_goingMany, M_minute, M_pile, M_high, M_where, M_latest, M_lifts, M_begun, M_left, M_has, M_lifted, M_taken, M_above, M_allLifts, M_busy =>
    if (((1 : Int32) <<< (M_guests &&& 31))) ≤ v4 then (
      some (v2, M_hooks, M_coming, M_comingMany, M_going, M_goingMany, M_minute, M_pile, M_high, M_where, M_latest, M_lifts, M_begun, M_left, M_has, M_lifted, M_taken, M_above, M_allLifts, M_busy))
    else (
      (fX10_bits fuel v4).bind fun o_2 =>
      if o_2 = p1 then (
        (fX10_byHooks fuel M_guests M_kind M_figure M_told M_heaps M_holds M_back M_mistakes M_hooks M_letters M_rule M_coming M_comingMany M_going M_goingMany M_minute M_pile M_high M_where M_latest M_lifts M_begun M_left M_has M_lifted M_taken M_above M_allLifts M_busy v4).bind fun o_4 =>
        if v2 = (-4) then (
          fX10_bestHooks_J48 (fX10_bestHooks_L8 fuel M_guests M_kind M_figure M_told M_heaps M_holds M_back M_mistakes M_letters M_rule p1 n) v4 o_4.1 o_4.2.1 o_4.2.2.1 o_4.2.2.2.1 o_4.2.2.2.2.1 o_4.2.2.2.2.2.1 o_4.2.2.2.2.2.2.1 o_4.2.2.2.2.2.2.2.1 o_4.2.2.2.2.2.2.2.2.1 o_4.2.2.2.2.2.2.2.2.2.1 o_4.2.2.2.2.2.2.2.2.2.2.1 o_4.2.2.2.2.2.2.2.2.2.2.2.1 o_4.2.2.2.2.2.2.2.2.2.2.2.2.1 o_4.2.2.2.2.2.2.2.2.2.2.2.2.2.1 o_4.2.2.2.2.2.2.2.2.2.2.2.2.2.2.1 o_4.2.2.2.2.2.2.2.2.2.2.2.2.2.2.2.1 o_4.2.2.2.2.2.2.2.2.2.2.2.2.2.2.2.2.1 o_4.2.2.2.2.2.2.2.2.2.2.2.2.2.2.2.2.2.1 o_4.2.2.2.2.2.2.2.2.2.2.2.2.2.2.2.2.2.2.1 o_4.2.2.2.2.2.2.2.2.2.2.2.2.2.2.2.2.2.2.2)
        else (
          if v3 ≤ o_4.1 then (
            fX10_bestHooks_J54 (fX10_bestHooks_L8 fuel M_guests M_kind M_figure M_told M_heaps M_holds M_back M_mistakes M_letters M_rule p1 n) v2 v3 v4 o_4.2.1 o_4.2.2.1 o_4.2.2.2.1 o_4.2.2.2.2.1 o_4.2.2.2.2.2.1 o_4.2.2.2.2.2.2.1 o_4.2.2.2.2.2.2.2.1 o_4.2.2.2.2.2.2.2.2.1 o_4.2.2.2.2.2.2.2.2.2.1 o_4.2.2.2.2.2.2.2.2.2.2.1 o_4.2.2.2.2.2.2.2.2.2.2.2.1 o_4.2.2.2.2.2.2.2.2.2.2.2.2.1 o_4.2.2.2.2.2.2.2.2.2.2.2.2.2.1 o_4.2.2.2.2.2.2.2.2.2.2.2.2.2.2.1 o_4.2.2.2.2.2.2.2.2.2.2.2.2.2.2.2.1 o_4.2.2.2.2.2.2.2.2.2.2.2.2.2.2.2.2.1 o_4.2.2.2.2.2.2.2.2.2.2.2.2.2.2.2.2.2.1 o_4.2.2.2.2.2.2.2.2.2.2.2.2.2.2.2.2.2.2.1 o_4.2.2.2.2.2.2.2.2.2.2.2.2.2.2.2.2.2.2.2)
          else (
            fX10_bestHooks_J48 (fX10_bestHooks_L8 fuel M_guests M_kind M_figure M_told M_heaps M_holds M_back M_mistakes M_letters M_rule p1 n) v4 o_4.1 o_4.2.1 o_4.2.2.1 o_4.2.2.2.1 o_4.2.2.2.2.1 o_4.2.2.2.2.2.1 o_4.2.2.2.2.2.2.1 o_4.2.2.2.2.2.2.2.1 o_4.2.2.2.2.2.2.2.2.1 o_4.2.2.2.2.2.2.2.2.2.1 o_4.2.2.2.2.2.2.2.2.2.2.1 o_4.2.2.2.2.2.2.2.2.2.2.2.1 o_4.2.2.2.2.2.2.2.2.2.2.2.2.1 o_4.2.2.2.2.2.2.2.2.2.2.2.2.2.1 o_4.2.2.2.2.2.2.2.2.2.2.2.2.2.2.1 o_4.2.2.2.2.2.2.2.2.2.2.2.2.2.2.2.1 o_4.2.2.2.2.2.2.2.2.2.2.2.2.2.2.2.2.1 o_4.2.2.2.2.2.2.2.2.2.2.2.2.2.2.2.2.2.1 o_4.2.2.2.2.2.2.2.2.2.2.2.2.2.2.2.2.2.2.1 o_4.2.2.2.2.2.2.2.2.2.2.2.2.2.2.2.2.2.2.2)))
      else (
        fX10_bestHooks_J54 (fX10_bestHooks_L8 fuel M_guests M_kind M_figure M_told M_heaps M_holds M_back M_mistakes M_letters M_rule p1 n) v2 v3 v4 M_hooks M_coming M_comingMany M_going M_goingMany M_minute M_pile M_high M_where M_latest M_lifts M_begun M_left M_has M_lifted M_taken M_above M_allLifts M_busy))
def fX10_bestHooks (fuel : Nat) (M_guests : Int32) (M_kind : Nat → Int32) (M_figure : Nat → Int32) (M_told : Nat → Int32) (M_heaps : Int32) (M_holds : Int32) (M_back : Int32) (M_mistakes : Int32) (M_hooks : Int32) (M_letters : Int32) (M_rule : Nat → Int32) (M_coming : Nat → Int32) (M_comingMany : Int32) (M_going : Nat → Int32) (M_goingMany : Int32) (M_minute : Nat → Int32) (M_pile : Nat → Int32) (M_high : Nat → Int32) (M_where : Nat → Int32) (M_latest : Int32) (M_lifts : Nat → Int32) (M_begun : Nat → Int32) (M_left : Nat → Int32) (M_has : Nat → Int32) (M_lifted : Nat → Int32) (M_taken : Nat → Int32) (M_above : Nat → Int32) (M_allLifts : Int32) (M_busy : Int32) (p1 : Int32) : Option (Int32 × Int32 × (Nat → Int32) × Int32 × (Nat → Int32) × Int32 × (Nat → Int32) × (Nat → Int32) × (Nat → Int32) × (Nat → Int32) × Int32 × (Nat → Int32) × (Nat → Int32) × (Nat → Int32) × (Nat → Int32) × (Nat → Int32) × (Nat → Int32) × (Nat → Int32) × Int32 × Int32) :=
  fX10_bestHooks_L8 fuel M_guests M_kind M_figure M_told M_heaps M_holds M_back M_mistakes M_letters M_rule p1 fuel (-4) 0 0 M_hooks M_coming M_comingMany M_going M_goingMany M_minute M_pile M_high M_where M_latest M_lifts M_begun M_left M_has M_lifted M_taken M_above M_allLifts M_busy
def fX10_isHooks (fuel : Nat) (M_guests : Int32) (p1 : Int32) : Option (Int32) :=
  zlet (zmin 3 M_guests) fun x_1 =>
  (fX10_isIn fuel p1 0 x_1).bind fun o_2 =>
  zg (decide (o_2 = 0 ∨ o_2 = 1)) <|
  some (o_2)
def fX10_whom (fuel : Nat) (M_guests : Int32) (M_kind : Nat → Int32) (M_figure : Nat → Int32) (M_told : Nat → Int32) (M_heaps : Int32) (M_holds : Int32) (M_back : Int32) (M_mistakes : Int32) (M_hooks : Int32) (M_letters : Int32) (M_rule : Nat → Int32) (M_coming : Nat → Int32) (M_comingMany : Int32) (M_going : Nat → Int32) (M_goingMany : Int32) (M_minute : Nat → Int32) (M_pile : Nat → Int32) (M_high : Nat → Int32) (M_where : Nat → Int32) (M_latest : Int32) (M_lifts : Nat → Int32) (M_begun : Nat → Int32) (M_left : Nat → Int32) (M_has : Nat → Int32) (M_lifted : Nat → Int32) (M_taken : Nat → Int32) (M_above : Nat → Int32) (M_allLifts : Int32) (M_busy : Int32) (p1 : Int32) (p2 : Int32) : Option (Int32 × Int32 × (Nat → Int32) × Int32 × (Nat → Int32) × Int32 × (Nat → Int32) × (Nat → Int32) × (Nat → Int32) × (Nat → Int32) × Int32 × (Nat → Int32) × (Nat → Int32) × (Nat → Int32) × (Nat → Int32) × (Nat → Int32) × (Nat → Int32) × (Nat → Int32) × Int32 × Int32) :=
  (fX10_isHooks fuel M_guests p1).bind fun o_1 =>
  if o_1 = 0 then (
    some ((-1), M_hooks, M_coming, M_comingMany, M_going, M_goingMany, M_minute, M_pile, M_high, M_where, M_latest, M_lifts, M_begun, M_left, M_has, M_lifted, M_taken, M_above, M_allLifts, M_busy))
  else (
    (fX10_isIn fuel p2 0 1).bind fun o_3 =>
    if o_3 = 0 then (
      some ((-1), M_hooks, M_coming, M_comingMany, M_going, M_goingMany, M_minute, M_pile, M_high, M_where, M_latest, M_lifts, M_begun, M_left, M_has, M_lifted, M_taken, M_above, M_allLifts, M_busy))
    else (
      (fX10_bestHooks fuel M_guests M_kind M_figure M_told M_heaps M_holds M_back M_mistakes M_hooks M_letters M_rule M_coming M_comingMany M_going M_goingMany M_minute M_pile M_high M_where M_latest M_lifts M_begun M_left M_has M_lifted M_taken M_above M_allLifts M_busy p1).bind fun o_5 =>
      if p2 = 0 then (
        some (o_5.1, o_5.2.1, o_5.2.2.1, o_5.2.2.2.1, o_5.2.2.2.2.1, o_5.2.2.2.2.2.1, o_5.2.2.2.2.2.2.1, o_5.2.2.2.2.2.2.2.1, o_5.2.2.2.2.2.2.2.2.1, o_5.2.2.2.2.2.2.2.2.2.1, o_5.2.2.2.2.2.2.2.2.2.2.1, o_5.2.2.2.2.2.2.2.2.2.2.2.1, o_5.2.2.2.2.2.2.2.2.2.2.2.2.1, o_5.2.2.2.2.2.2.2.2.2.2.2.2.2.1, o_5.2.2.2.2.2.2.2.2.2.2.2.2.2.2.1, o_5.2.2.2.2.2.2.2.2.2.2.2.2.2.2.2.1, o_5.2.2.2.2.2.2.2.2.2.2.2.2.2.2.2.2.1, o_5.2.2.2.2.2.2.2.2.2.2.2.2.2.2.2.2.2.1, o_5.2.2.2.2.2.2.2.2.2.2.2.2.2.2.2.2.2.2.1, o_5.2.2.2.2.2.2.2.2.2.2.2.2.2.2.2.2.2.2.2))
      else (
        (fX10_byHooks fuel M_guests M_kind M_figure M_told M_heaps M_holds M_back M_mistakes o_5.2.1 M_letters M_rule o_5.2.2.1 o_5.2.2.2.1 o_5.2.2.2.2.1 o_5.2.2.2.2.2.1 o_5.2.2.2.2.2.2.1 o_5.2.2.2.2.2.2.2.1 o_5.2.2.2.2.2.2.2.2.1 o_5.2.2.2.2.2.2.2.2.2.1 o_5.2.2.2.2.2.2.2.2.2.2.1 o_5.2.2.2.2.2.2.2.2.2.2.2.1 o_5.2.2.2.2.2.2.2.2.2.2.2.2.1 o_5.2.2.2.2.2.2.2.2.2.2.2.2.2.1 o_5.2.2.2.2.2.2.2.2.2.2.2.2.2.2.1 o_5.2.2.2.2.2.2.2.2.2.2.2.2.2.2.2.1 o_5.2.2.2.2.2.2.2.2.2.2.2.2.2.2.2.2.1 o_5.2.2.2.2.2.2.2.2.2.2.2.2.2.2.2.2.2.1 o_5.2.2.2.2.2.2.2.2.2.2.2.2.2.2.2.2.2.2.1 o_5.2.2.2.2.2.2.2.2.2.2.2.2.2.2.2.2.2.2.2 o_5.1).bind fun o_7 =>
        some (o_7.1, o_7.2.1, o_7.2.2.1, o_7.2.2.2.1, o_7.2.2.2.2.1, o_7.2.2.2.2.2.1, o_7.2.2.2.2.2.2.1, o_7.2.2.2.2.2.2.2.1, o_7.2.2.2.2.2.2.2.2.1, o_7.2.2.2.2.2.2.2.2.2.1, o_7.2.2.2.2.2.2.2.2.2.2.1, o_7.2.2.2.2.2.2.2.2.2.2.2.1, o_7.2.2.2.2.2.2.2.2.2.2.2.2.1, o_7.2.2.2.2.2.2.2.2.2.2.2.2.2.1, o_7.2.2.2.2.2.2.2.2.2.2.2.2.2.2.1, o_7.2.2.2.2.2.2.2.2.2.2.2.2.2.2.2.1, o_7.2.2.2.2.2.2.2.2.2.2.2.2.2.2.2.2.1, o_7.2.2.2.2.2.2.2.2.2.2.2.2.2.2.2.2.2.1, o_7.2.2.2.2.2.2.2.2.2.2.2.2.2.2.2.2.2.2.1, o_7.2.2.2.2.2.2.2.2.2.2.2.2.2.2.2.2.2.2.2))))
def fX10_worth (fuel : Nat) (M_guests : Int32) (M_kind : Nat → Int32) (M_figure : Nat → Int32) (M_told : Nat → Int32) (M_heaps : Int32) (M_holds : Int32) (M_back : Int32) (M_mistakes : Int32) (M_hooks : Int32) (M_letters : Int32) (M_rule : Nat → Int32) (M_coming : Nat → Int32) (M_comingMany : Int32) (M_going : Nat → Int32) (M_goingMany : Int32) (M_minute : Nat → Int32) (M_pile : Nat → Int32) (M_high : Nat → Int32) (M_where : Nat → Int32) (M_latest : Int32) (M_lifts : Nat → Int32) (M_begun : Nat → Int32) (M_left : Nat → Int32) (M_has : Nat → Int32) (M_lifted : Nat → Int32) (M_taken : Nat → Int32) (M_above : Nat → Int32) (M_allLifts : Int32) (M_busy : Int32) (p1 : Int32) : Option (Int32 × Int32 × (Nat → Int32) × Int32 × (Nat → Int32) × Int32 × (Nat → Int32) × (Nat → Int32) × (Nat → Int32) × (Nat → Int32) × Int32 × (Nat → Int32) × (Nat → Int32) × (Nat → Int32) × (Nat → Int32) × (Nat → Int32) × (Nat → Int32) × (Nat → Int32) × Int32 × Int32) :=
  (fX10_isHooks fuel M_guests p1).bind fun o_1 =>
  if o_1 = 0 then (
    some ((-1), M_hooks, M_coming, M_comingMany, M_going, M_goingMany, M_minute, M_pile, M_high, M_where, M_latest, M_lifts, M_begun, M_left, M_has, M_lifted, M_taken, M_above, M_allLifts, M_busy))
  else (
    (fX10_byHooks fuel M_guests M_kind M_figure M_told M_heaps M_holds M_back M_mistakes M_hooks M_letters M_rule M_coming M_comingMany M_going M_goingMany M_minute M_pile M_high M_where M_latest M_lifts M_begun M_left M_has M_lifted M_taken M_above M_allLifts M_busy 0).bind fun o_3 =>
    (fX10_bestHooks fuel M_guests M_kind M_figure M_told M_heaps M_holds M_back M_mistakes o_3.2.1 M_letters M_rule o_3.2.2.1 o_3.2.2.2.1 o_3.2.2.2.2.1 o_3.2.2.2.2.2.1 o_3.2.2.2.2.2.2.1 o_3.2.2.2.2.2.2.2.1 o_3.2.2.2.2.2.2.2.2.1 o_3.2.2.2.2.2.2.2.2.2.1 o_3.2.2.2.2.2.2.2.2.2.2.1 o_3.2.2.2.2.2.2.2.2.2.2.2.1 o_3.2.2.2.2.2.2.2.2.2.2.2.2.1 o_3.2.2.2.2.2.2.2.2.2.2.2.2.2.1 o_3.2.2.2.2.2.2.2.2.2.2.2.2.2.2.1 o_3.2.2.2.2.2.2.2.2.2.2.2.2.2.2.2.1 o_3.2.2.2.2.2.2.2.2.2.2.2.2.2.2.2.2.1 o_3.2.2.2.2.2.2.2.2.2.2.2.2.2.2.2.2.2.1 o_3.2.2.2.2.2.2.2.2.2.2.2.2.2.2.2.2.2.2.1 o_3.2.2.2.2.2.2.2.2.2.2.2.2.2.2.2.2.2.2.2 p1).bind fun o_4 =>
    (fX10_byHooks fuel M_guests M_kind M_figure M_told M_heaps M_holds M_back M_mistakes o_4.2.1 M_letters M_rule o_4.2.2.1 o_4.2.2.2.1 o_4.2.2.2.2.1 o_4.2.2.2.2.2.1 o_4.2.2.2.2.2.2.1 o_4.2.2.2.2.2.2.2.1 o_4.2.2.2.2.2.2.2.2.1 o_4.2.2.2.2.2.2.2.2.2.1 o_4.2.2.2.2.2.2.2.2.2.2.1 o_4.2.2.2.2.2.2.2.2.2.2.2.1 o_4.2.2.2.2.2.2.2.2.2.2.2.2.1 o_4.2.2.2.2.2.2.2.2.2.2.2.2.2.1 o_4.2.2.2.2.2.2.2.2.2.2.2.2.2.2.1 o_4.2.2.2.2.2.2.2.2.2.2.2.2.2.2.2.1 o_4.2.2.2.2.2.2.2.2.2.2.2.2.2.2.2.2.1 o_4.2.2.2.2.2.2.2.2.2.2.2.2.2.2.2.2.2.1 o_4.2.2.2.2.2.2.2.2.2.2.2.2.2.2.2.2.2.2.1 o_4.2.2.2.2.2.2.2.2.2.2.2.2.2.2.2.2.2.2.2 o_4.1).bind fun o_5 =>
    zlet ((zmax 0 (o_3.1 - o_5.1))) fun x_6 =>
    some (x_6, o_5.2.1, o_5.2.2.1, o_5.2.2.2.1, o_5.2.2.2.2.1, o_5.2.2.2.2.2.1, o_5.2.2.2.2.2.2.1, o_5.2.2.2.2.2.2.2.1, o_5.2.2.2.2.2.2.2.2.1, o_5.2.2.2.2.2.2.2.2.2.1, o_5.2.2.2.2.2.2.2.2.2.2.1, o_5.2.2.2.2.2.2.2.2.2.2.2.1, o_5.2.2.2.2.2.2.2.2.2.2.2.2.1, o_5.2.2.2.2.2.2.2.2.2.2.2.2.2.1, o_5.2.2.2.2.2.2.2.2.2.2.2.2.2.2.1, o_5.2.2.2.2.2.2.2.2.2.2.2.2.2.2.2.1, o_5.2.2.2.2.2.2.2.2.2.2.2.2.2.2.2.2.1, o_5.2.2.2.2.2.2.2.2.2.2.2.2.2.2.2.2.2.1, o_5.2.2.2.2.2.2.2.2.2.2.2.2.2.2.2.2.2.2.1, o_5.2.2.2.2.2.2.2.2.2.2.2.2.2.2.2.2.2.2.2))
def fX10_enough_J56 (v2 : Int32) (v3 : Int32) (M_heaps : Int32) (M_coming : Nat → Int32) (M_comingMany : Int32) (M_going : Nat → Int32) (M_goingMany : Int32) (M_minute : Nat → Int32) (M_pile : Nat → Int32) (M_high : Nat → Int32) (M_where : Nat → Int32) (M_latest : Int32) (M_lifts : Nat → Int32) (M_begun : Nat → Int32) (M_left : Nat → Int32) (M_has : Nat → Int32) (M_lifted : Nat → Int32) (M_taken : Nat → Int32) (M_above : Nat → Int32) (M_allLifts : Int32) (M_busy : Int32) : Option (Int32 × Int32 × (Nat → Int32) × Int32 × (Nat → Int32) × Int32 × (Nat → Int32) × (Nat → Int32) × (Nat → Int32) × (Nat → Int32) × Int32 × (Nat → Int32) × (Nat → Int32) × (Nat → Int32) × (Nat → Int32) × (Nat → Int32) × (Nat → Int32) × (Nat → Int32) × Int32 × Int32) :=
  some (v3, v2, M_coming, M_comingMany, M_going, M_goingMany, M_minute, M_pile, M_high, M_where, M_latest, M_lifts, M_begun, M_left, M_has, M_lifted, M_taken, M_above, M_allLifts, M_busy)
def fX10_enough_L24 (fuel : Nat) (M_guests : Int32) (M_kind : Nat → Int32) (M_figure : Nat → Int32) (M_told : Nat → Int32) (M_holds : Int32) (M_back : Int32) (M_mistakes : Int32) (M_hooks : Int32) (M_letters : Int32) (M_rule : Nat → Int32) (p1 : Int32) : Nat → Int32 → Int32 → Int32 → Int32 → (Nat → Int32) → Int32 → (Nat → Int32) → Int32 → (Nat → Int32) → (Nat → Int32) → (Nat → Int32) → (Nat → Int32) → Int32 → (Nat → Int32) → (Nat → Int32) → (Nat → Int32) → (Nat → Int32) → (Nat → Int32) → (Nat → Int32) → (Nat → Int32) → Int32 → Int32 → Option (Int32 × Int32 × (Nat → Int32) × Int32 × (Nat → Int32) × Int32 × (Nat → Int32) × (Nat → Int32) × (Nat → Int32) × (Nat → Int32) × Int32 × (Nat → Int32) × (Nat → Int32) × (Nat → Int32) × (Nat → Int32) × (Nat → Int32) × (Nat → Int32) × (Nat → Int32) × Int32 × Int32)
  | 0, _, _, _, _, _, _, _, _, _, _, _, _, _, _, _, _, _, _, _, _, _, _ => none
  | n + 1, v2, v3, v4, M_heaps, M_coming, M_comingMany, M_going, M_goingMany, M_minute, M_pile, M_high, M_where, M_latest, M_lifts, M_begun, M_left, M_has, M_lifted, M_taken, M_above, M_allLifts, M_busy =>
    if v4 ≤ 0 then (
      fX10_enough_J56 v2 v3 M_heaps M_coming M_comingMany M_going M_goingMany M_minute M_pile M_high M_where M_latest M_lifts M_begun M_left M_has M_lifted M_taken M_above M_allLifts M_busy)
    else (
      (fX10_night fuel M_guests M_kind M_figure M_told v4 M_holds M_back M_mistakes M_hooks M_letters M_rule M_coming M_comingMany M_going M_goingMany M_minute M_pile M_high M_where M_latest M_lifts M_begun M_left M_has M_lifted M_taken M_above M_allLifts M_busy).bind fun o_4 =>
      if p1 < o_4.1 then (
        zlet (v4 + (-1)) fun v4_6 =>
        fX10_enough_L24 fuel M_guests M_kind M_figure M_told M_holds M_back M_mistakes M_hooks M_letters M_rule p1 n v2 v3 v4_6 v4 o_4.2.1 o_4.2.2.1 o_4.2.2.2.1 o_4.2.2.2.2.1 o_4.2.2.2.2.2.1 o_4.2.2.2.2.2.2.1 o_4.2.2.2.2.2.2.2.1 o_4.2.2.2.2.2.2.2.2.1 o_4.2.2.2.2.2.2.2.2.2.1 o_4.2.2.2.2.2.2.2.2.2.2.1 o_4.2.2.2.2.2.2.2.2.2.2.2.1 o_4.2.2.2.2.2.2.2.2.2.2.2.2.1 o_4.2.2.2.2.2.2.2.2.2.2.2.2.2.1 o_4.2.2.2.2.2.2.2.2.2.2.2.2.2.2.1 o_4.2.2.2.2.2.2.2.2.2.2.2.2.2.2.2.1 o_4.2.2.2.2.2.2.2.2.2.2.2.2.2.2.2.2.1 o_4.2.2.2.2.2.2.2.2.2.2.2.2.2.2.2.2.2.1 o_4.2.2.2.2.2.2.2.2.2.2.2.2.2.2.2.2.2.2)
      else (
        zlet (v4 + (-1)) fun v4_7 =>
        fX10_enough_L24 fuel M_guests M_kind M_figure M_told M_holds M_back M_mistakes M_hooks M_letters M_rule p1 n v2 v4 v4_7 v4 o_4.2.1 o_4.2.2.1 o_4.2.2.2.1 o_4.2.2.2.2.1 o_4.2.2.2.2.2.1 o_4.2.2.2.2.2.2.1 o_4.2.2.2.2.2.2.2.1 o_4.2.2.2.2.2.2.2.2.1 o_4.2.2.2.2.2.2.2.2.2.1 o_4.2.2.2.2.2.2.2.2.2.2.1 o_4.2.2.2.2.2.2.2.2.2.2.2.1 o_4.2.2.2.2.2.2.2.2.2.2.2.2.1 o_4.2.2.2.2.2.2.2.2.2.2.2.2.2.1 o_4.2.2.2.2.2.2.2.2.2.2.2.2.2.2.1 o_4.2.2.2.2.2.2.2.2.2.2.2.2.2.2.2.1 o_4.2.2.2.2.2.2.2.2.2.2.2.2.2.2.2.2.1 o_4.2.2.2.2.2.2.2.2.2.2.2.2.2.2.2.2.2.1 o_4.2.2.2.2.2.2.2.2.2.2.2.2.2.2.2.2.2.2))
def fX10_enough (fuel : Nat) (M_guests : Int32) (M_kind : Nat → Int32) (M_figure : Nat → Int32) (M_told : Nat → Int32) (M_heaps : Int32) (M_holds : Int32) (M_back : Int32) (M_mistakes : Int32) (M_hooks : Int32) (M_letters : Int32) (M_rule : Nat → Int32) (M_coming : Nat → Int32) (M_comingMany : Int32) (M_going : Nat → Int32) (M_goingMany : Int32) (M_minute : Nat → Int32) (M_pile : Nat → Int32) (M_high : Nat → Int32) (M_where : Nat → Int32) (M_latest : Int32) (M_lifts : Nat → Int32) (M_begun : Nat → Int32) (M_left : Nat → Int32) (M_has : Nat → Int32) (M_lifted : Nat → Int32) (M_taken : Nat → Int32) (M_above : Nat → Int32) (M_allLifts : Int32) (M_busy : Int32) (p1 : Int32) : Option (Int32 × Int32 × (Nat → Int32) × Int32 × (Nat → Int32) × Int32 × (Nat → Int32) × (Nat → Int32) × (Nat → Int32) × (Nat → Int32) × Int32 × (Nat → Int32) × (Nat → Int32) × (Nat → Int32) × (Nat → Int32) × (Nat → Int32) × (Nat → Int32) × (Nat → Int32) × Int32 × Int32) :=
  (fX10_isIn fuel p1 0 999).bind fun o_1 =>
  if o_1 = 0 then (
    some ((-1), M_heaps, M_coming, M_comingMany, M_going, M_goingMany, M_minute, M_pile, M_high, M_where, M_latest, M_lifts, M_begun, M_left, M_has, M_lifted, M_taken, M_above, M_allLifts, M_busy))
  else (
    fX10_enough_L24 fuel M_guests M_kind M_figure M_told M_holds M_back M_mistakes M_hooks M_letters M_rule p1 fuel M_heaps (-4) 3 M_heaps M_coming M_comingMany M_going M_goingMany M_minute M_pile M_high M_where M_latest M_lifts M_begun M_left M_has M_lifted M_taken M_above M_allLifts M_busy)
def fX10_alongWith_J61 (k25 : Int32 → Int32 → (Nat → Int32) → Int32 → (Nat → Int32) → Int32 → (Nat → Int32) → (Nat → Int32) → (Nat → Int32) → (Nat → Int32) → Int32 → (Nat → Int32) → (Nat → Int32) → (Nat → Int32) → (Nat → Int32) → (Nat → Int32) → (Nat → Int32) → (Nat → Int32) → Int32 → Int32 → Option (Int32 × (Nat → Int32) × Int32 × (Nat → Int32) × Int32 × (Nat → Int32) × (Nat → Int32) × (Nat → Int32) × (Nat → Int32) × Int32 × (Nat → Int32) × (Nat → Int32) × (Nat → Int32) × (Nat → Int32) × (Nat → Int32) × (Nat → Int32) × (Nat → Int32) × Int32 × Int32)) (v3 : Int32) (v4 : Int32) (M_coming : Nat → Int32) (M_comingMany : Int32) (M_going : Nat → Int32) (M_goingMany : Int32) (M_minute : Nat → Int32) (M_pile : Nat → Int32) (M_high : Nat → Int32) (M_where : Nat → Int32) (M_latest : Int32) (M_lifts : Nat → Int32) (M_begun : Nat → Int32) (M_left : Nat → Int32) (M_has : Nat → Int32) (M_lifted : Nat → Int32) (M_taken : Nat → Int32) (M_above : Nat → Int32) (M_allLifts : Int32) (M_busy : Int32) : Option (Int32 × (Nat → Int32) × Int32 × (Nat → Int32) × Int32 × (Nat → Int32) × (Nat → Int32) × (Nat → Int32) × (Nat → Int32) × Int32 × (Nat → Int32) × (Nat → Int32) × (Nat → Int32) × (Nat → Int32) × (Nat → Int32) × (Nat → Int32) × (Nat → Int32) × Int32 × Int32) :=
  zlet (v4 + 1) fun v4_20 =>
  k25 v3 v4_20 M_coming M_comingMany M_going M_goingMany M_minute M_pile M_high M_where M_latest M_lifts M_begun M_left M_has M_lifted M_taken M_above M_allLifts M_busy
def fX10_alongWith_J105 (fuel : Nat) (M_guests : Int32) (M_kind : Nat → Int32) (M_figure : Nat → Int32) (M_heaps : Int32) (M_back : Int32) (M_mistakes : Int32) (p1 : Int32) (v4 : Int32) (M_coming : Nat → Int32) (M_comingMany : Int32) (M_going : Nat → Int32) (M_goingMany : Int32) (M_minute : Nat → Int32) (M_pile : Nat → Int32) (M_high : Nat → Int32) (M_where : Nat → Int32) (M_latest : Int32) (M_lifts : Nat → Int32) (M_begun : Nat → Int32) (M_left : Nat → Int32) (M_has : Nat → Int32) (M_lifted : Nat → Int32) (M_taken : Nat → Int32) (M_above : Nat → Int32) (M_allLifts : Int32) (M_busy : Int32) : Option (Int32 × (Nat → Int32) × Int32 × (Nat → Int32) × Int32 × (Nat → Int32) × (Nat → Int32) × (Nat → Int32) × (Nat → Int32) × Int32 × (Nat → Int32) × (Nat → Int32) × (Nat → Int32) × (Nat → Int32) × (Nat → Int32) × (Nat → Int32) × (Nat → Int32) × Int32 × Int32) :=
  zg (zin v4 10) <|
  zlet (upd M_going v4.toNatClampNeg p1) fun M_going_18 =>
  (fX10_go fuel M_guests M_kind M_figure M_heaps M_back M_mistakes M_going_18 M_minute M_pile M_high M_where M_lifts M_begun M_left M_has M_lifted M_taken M_above M_allLifts M_busy M_goingMany 1000000).bind fun o_19 =>
  some (o_19.1, M_coming, M_comingMany, M_going_18, M_goingMany, M_minute, o_19.2.1, o_19.2.2.1, M_where, M_latest, o_19.2.2.2.1, o_19.2.2.2.2.1, o_19.2.2.2.2.2.1, o_19.2.2.2.2.2.2.1, o_19.2.2.2.2.2.2.2.1, o_19.2.2.2.2.2.2.2.2.1, o_19.2.2.2.2.2.2.2.2.2.1, o_19.2.2.2.2.2.2.2.2.2.2.1, o_19.2.2.2.2.2.2.2.2.2.2.2)
def fX10_alongWith_L70 (fuel : Nat) (M_guests : Int32) (M_kind : Nat → Int32) (M_figure : Nat → Int32) (M_heaps : Int32) (M_back : Int32) (M_mistakes : Int32) (p1 : Int32) (p2 : Int32) : Nat → Int32 → (Nat → Int32) → Int32 → (Nat → Int32) → Int32 → (Nat → Int32) → (Nat → Int32) → (Nat → Int32) → (Nat → Int32) → Int32 → (Nat → Int32) → (Nat → Int32) → (Nat → Int32) → (Nat → Int32) → (Nat → Int32) → (Nat → Int32) → (Nat → Int32) → Int32 → Int32 → Option (Int32 × (Nat → Int32) × Int32 × (Nat → Int32) × Int32 × (Nat → Int32) × (Nat → Int32) × (Nat → Int32) × (Nat → Int32) × Int32 × (Nat → Int32) × (Nat → Int32) × (Nat → Int32) × (Nat → Int32) × (Nat → Int32) × (Nat → Int32) × (Nat → Int32) × Int32 × Int32)
  | 0, _, _, _, _, _, _, _, _, _, _, _, _, _, _, _, _, _, _, _ => none
  | n + 1, v4, M_coming, M_comingMany, M_going, M_goingMany, M_minute, M_pile, M_high, M_where, M_latest, M_lifts, M_begun, M_left, M_has, M_lifted, M_taken, M_above, M_allLifts, M_busy =>
    zg (zin (v4 - 1) 10) <|
    if ((M_going (v4 - 1).toNatClampNeg)) = p2 then (
      fX10_alongWith_J105 fuel M_guests M_kind M_figure M_heaps M_back M_mistakes p1 v4 M_coming M_comingMany M_going M_goingMany M_minute M_pile M_high M_where M_latest M_lifts M_begun M_left M_has M_lifted M_taken M_above M_allLifts M_busy)
    else (
      zg (zin v4 10) <|
      zlet (upd M_going v4.toNatClampNeg ((M_going (v4 - 1).toNatClampNeg))) fun M_going_15 =>
      zlet (v4 + (-1)) fun v4_16 =>
      fX10_alongWith_L70 fuel M_guests M_kind M_figure M_heaps M_back M_mistakes p1 p2 n v4_16 M_coming M_comingMany M_going_15 M_goingMany M_minute M_pile M_high M_where M_latest M_lifts M_begun M_left M_has M_lifted M_taken M_above M_allLifts M_busy)
def fX10_alongWith_J67 (fuel : Nat) (M_guests : Int32) (M_kind : Nat → Int32) (M_figure : Nat → Int32) (M_heaps : Int32) (M_back : Int32) (M_mistakes : Int32) (p1 : Int32) (p2 : Int32) (v3 : Int32) (M_coming : Nat → Int32) (M_comingMany : Int32) (M_going : Nat → Int32) (M_goingMany : Int32) (M_minute : Nat → Int32) (M_pile : Nat → Int32) (M_high : Nat → Int32) (M_where : Nat → Int32) (M_latest : Int32) (M_lifts : Nat → Int32) (M_begun : Nat → Int32) (M_left : Nat → Int32) (M_has : Nat → Int32) (M_lifted : Nat → Int32) (M_taken : Nat → Int32) (M_above : Nat → Int32) (M_allLifts : Int32) (M_busy : Int32) : Option (Int32 × (Nat → Int32) × Int32 × (Nat → Int32) × Int32 × (Nat → Int32) × (Nat → Int32) × (Nat → Int32) × (Nat → Int32) × Int32 × (Nat → Int32) × (Nat → Int32) × (Nat → Int32) × (Nat → Int32) × (Nat → Int32) × (Nat → Int32) × (Nat → Int32) × Int32 × Int32) :=
  fX10_alongWith_L70 fuel M_guests M_kind M_figure M_heaps M_back M_mistakes p1 p2 fuel v3 M_coming M_comingMany M_going M_goingMany M_minute M_pile M_high M_where M_latest M_lifts M_begun M_left M_has M_lifted M_taken M_above M_allLifts M_busy
def fX10_alongWith_L25 (fuel : Nat) (M_guests : Int32) (M_kind : Nat → Int32) (M_figure : Nat → Int32) (M_heaps : Int32) (M_back : Int32) (M_mistakes : Int32) (p1 : Int32) (p2 : Int32) : Nat → Int32 → Int32 → (Nat → Int32) → Int32 → (Nat → Int32) → Int32 → (Nat → Int32) → (Nat → Int32) → (Nat → Int32) → (Nat → Int32) → Int32 → (Nat → Int32) → (Nat → Int32) → (Nat → Int32) → (Nat → Int32) → (Nat → Int32) → (Nat → Int32) → (Nat → Int32) → Int32 → Int32 → Option (Int32 × (Nat → Int32) × Int32 × (Nat → Int32) × Int32 × (Nat → Int32) × (Nat → Int32) × (Nat → Int32) × (Nat → Int32) × Int32 × (Nat → Int32) × (Nat → Int32) × (Nat → Int32) × (Nat → Int32) × (Nat → Int32) × (Nat → Int32) × (Nat → Int32) × Int32 × Int32)
  | 0, _, _, _, _, _, _, _, _, _, _, _, _, _, _, _, _, _, _, _, _ => none
  | n + 1, v3, v4, M_coming, M_comingMany, M_going, M_goingMany, M_minute, M_pile, M_high, M_where, M_latest, M_lifts, M_begun, M_left, M_has, M_lifted, M_taken, M_above, M_allLifts, M_busy =>
    if M_goingMany ≤ v4 then (
      fX10_alongWith_J67 fuel M_guests M_kind M_figure M_heaps M_back M_mistakes p1 p2 v3 M_coming M_comingMany M_going M_goingMany M_minute M_pile M_high M_where M_latest M_lifts M_begun M_left M_has M_lifted M_taken M_above M_allLifts M_busy)
    else (
      zg (zin v4 10) <|
      if (M_going v4.toNatClampNeg) = p1 then (
        fX10_alongWith_J61 (fX10_alongWith_L25 fuel M_guests M_kind M_figure M_heaps M_back M_mistakes p1 p2 n) v3 v4 M_coming M_comingMany M_going M_goingMany M_minute M_pile M_high M_where M_latest M_lifts M_begun M_left M_has M_lifted M_taken M_above M_allLifts M_busy)
      else (
        zg (zin v3 10) <|
        zlet (upd M_going v3.toNatClampNeg (M_going v4.toNatClampNeg)) fun M_going_10 =>
        zlet (v3 + 1) fun v3_11 =>
        fX10_alongWith_J61 (fX10_alongWith_L25 fuel M_guests M_kind M_figure M_heaps M_back M_mistakes p1 p2 n) v3_11 v4 M_coming M_comingMany M_going_10 M_goingMany M_minute M_pile M_high M_where M_latest M_lifts M_begun M_left M_has M_lifted M_taken M_above M_allLifts M_busy))
def fX10_alongWith (fuel : Nat) (M_guests : Int32) (M_kind : Nat → Int32) (M_figure : Nat → Int32) (M_told : Nat → Int32) (M_heaps : Int32) (M_holds : Int32) (M_back : Int32) (M_mistakes : Int32) (M_hooks : Int32) (M_letters : Int32) (M_rule : Nat → Int32) (M_coming : Nat → Int32) (M_comingMany : Int32) (M_going : Nat → Int32) (M_goingMany : Int32) (M_minute : Nat → Int32) (M_pile : Nat → Int32) (M_high : Nat → Int32) (M_where : Nat → Int32) (M_latest : Int32) (M_lifts : Nat → Int32) (M_begun : Nat → Int32) (M_left : Nat → Int32) (M_has : Nat → Int32) (M_lifted : Nat → Int32) (M_taken : Nat → Int32) (M_above : Nat → Int32) (M_allLifts : Int32) (M_busy : Int32) (p1 : Int32) (p2 : Int32) : Option (Int32 × (Nat → Int32) × Int32 × (Nat → Int32) × Int32 × (Nat → Int32) × (Nat → Int32) × (Nat → Int32) × (Nat → Int32) × Int32 × (Nat → Int32) × (Nat → Int32) × (Nat → Int32) × (Nat → Int32) × (Nat → Int32) × (Nat → Int32) × (Nat → Int32) × Int32 × Int32) :=
  (fX10_usual fuel M_guests M_kind M_figure M_told M_coming M_comingMany M_going M_goingMany M_minute).bind fun o_1 =>
  (fX10_lay fuel M_heaps M_holds M_hooks M_letters M_rule o_1.1 o_1.2.1 o_1.2.2.2.2 M_pile M_high M_where M_latest).bind fun o_2 =>
  zg (zin p2 10) <|
  zg (zin p1 10) <|
  zlet (upd o_1.2.2.2.2 p1.toNatClampNeg (o_1.2.2.2.2 p2.toNatClampNeg)) fun M_minute_5 =>
  fX10_alongWith_L25 fuel M_guests M_kind M_figure M_heaps M_back M_mistakes p1 p2 fuel 0 0 o_1.1 o_1.2.1 o_1.2.2.1 o_1.2.2.2.1 M_minute_5 o_2.1 o_2.2.1 o_2.2.2.1 o_2.2.2.2 M_lifts M_begun M_left M_has M_lifted M_taken M_above M_allLifts M_busy
def fX10_along_J92 (k31 : Int32 → Int32 → Int32 → (Nat → Int32) → Int32 → (Nat → Int32) → Int32 → (Nat → Int32) → (Nat → Int32) → (Nat → Int32) → (Nat → Int32) → Int32 → (Nat → Int32) → (Nat → Int32) → (Nat → Int32) → (Nat → Int32) → (Nat → Int32) → (Nat → Int32) → (Nat → Int32) → Int32 → Int32 → Option (Int32 × (Nat → Int32) × Int32 × (Nat → Int32) × Int32 × (Nat → Int32) × (Nat → Int32) × (Nat → Int32) × (Nat → Int32) × Int32 × (Nat → Int32) × (Nat → Int32) × (Nat → Int32) × (Nat → Int32) × (Nat → Int32) × (Nat → Int32) × (Nat → Int32) × Int32 × Int32)) (v3 : Int32) (v4 : Int32) (v5 : Int32) (M_coming : Nat → Int32) (M_comingMany : Int32) (M_going : Nat → Int32) (M_goingMany : Int32) (M_minute : Nat → Int32) (M_pile : Nat → Int32) (M_high : Nat → Int32) (M_where : Nat → Int32) (M_latest : Int32) (M_lifts : Nat → Int32) (M_begun : Nat → Int32) (M_left : Nat → Int32) (M_has : Nat → Int32) (M_lifted : Nat → Int32) (M_taken : Nat → Int32) (M_above : Nat → Int32) (M_allLifts : Int32) (M_busy : Int32) : Option (Int32 × (Nat → Int32) × Int32 × (Nat → Int32) × Int32 × (Nat → Int32) × (Nat → Int32) × (Nat → Int32) × (Nat → Int32) × Int32 × (Nat → Int32) × (Nat → Int32) × (Nat → Int32) × (Nat → Int32) × (Nat → Int32) × (Nat → Int32) × (Nat → Int32) × Int32 × Int32) :=
  zlet (v5 + 1) fun v5_17 =>
  k31 v3 v4 v5_17 M_coming M_comingMany M_going M_goingMany M_minute M_pile M_high M_where M_latest M_lifts M_begun M_left M_has M_lifted M_taken M_above M_allLifts M_busy
def fX10_along_J98 (p2 : Int32) (v3 : Int32) (v4 : Int32) (M_coming : Nat → Int32) (M_comingMany : Int32) (M_going : Nat → Int32) (M_goingMany : Int32) (M_minute : Nat → Int32) (M_pile : Nat → Int32) (M_high : Nat → Int32) (M_where : Nat → Int32) (M_latest : Int32) (M_lifts : Nat → Int32) (M_begun : Nat → Int32) (M_left : Nat → Int32) (M_has : Nat → Int32) (M_lifted : Nat → Int32) (M_taken : Nat → Int32) (M_above : Nat → Int32) (M_allLifts : Int32) (M_busy : Int32) : Option (Int32 × (Nat → Int32) × Int32 × (Nat → Int32) × Int32 × (Nat → Int32) × (Nat → Int32) × (Nat → Int32) × (Nat → Int32) × Int32 × (Nat → Int32) × (Nat → Int32) × (Nat → Int32) × (Nat → Int32) × (Nat → Int32) × (Nat → Int32) × (Nat → Int32) × Int32 × Int32) :=
  if p2 = 0 then (
    some (v3, M_coming, M_comingMany, M_going, M_goingMany, M_minute, M_pile, M_high, M_where, M_latest, M_lifts, M_begun, M_left, M_has, M_lifted, M_taken, M_above, M_allLifts, M_busy))
  else (
    if v3 = (-4) then (
      some (v3, M_coming, M_comingMany, M_going, M_goingMany, M_minute, M_pile, M_high, M_where, M_latest, M_lifts, M_begun, M_left, M_has, M_lifted, M_taken, M_above, M_allLifts, M_busy))
    else (
      some (v4, M_coming, M_comingMany, M_going, M_goingMany, M_minute, M_pile, M_high, M_where, M_latest, M_lifts, M_begun, M_left, M_has, M_lifted, M_taken, M_above, M_allLifts, M_busy)))
def fX10_along_L31 (fuel : Nat) (M_guests : Int32) (M_kind : Nat → Int32) (M_figure : Nat → Int32) (M_told : Nat → Int32) (M_heaps : Int32) (M_holds : Int32) (M_back : Int32) (M_mistakes : Int32) (M_hooks : Int32) (M_letters : Int32) (M_rule : Nat → Int32) (p1 : Int32) (p2 : Int32) : Nat → Int32 → Int32 → Int32 → (Nat → Int32) → Int32 → (Nat → Int32) → Int32 → (Nat → Int32) → (Nat → Int32) → (Nat → Int32) → (Nat → Int32) → Int32 → (Nat → Int32) → (Nat → Int32) → (Nat → Int32) → (Nat → Int32) → (Nat → Int32) → (Nat → Int32) → (Nat → Int32) → Int32 → Int32 → Option (Int32 × (Nat → Int32) × Int32 × (Nat → Int32) × Int32 × (Nat → Int32) × (Nat → Int32) × (Nat → Int32) × (Nat → Int32) × Int32 × (Nat → Int32) × (Nat → Int32) × (Nat → Int32) × (Nat → Int32) × (Nat → Int32) × (Nat → Int32) × (Nat → Int32) × Int32 × Int32)
  | 0, _, _, _, _, _, _, _, _, _, _, _, _, _, _, _, _, _, _, _, _, _ => none
  | n + 1, v3, v4, v5, M_coming, M_comingMany, M_going, M_goingMany, M_minute, M_pile, M_high, M_where, M_latest, M_lifts, M_begun, M_left, M_has, M_lifted, M_taken, M_above, M_allLifts, M_busy =>
    if M_guests ≤ v5 then (
      fX10_along_J98 p2 v3 v4 M_coming M_comingMany M_going M_goingMany M_minute M_pile M_high M_where M_latest M_lifts M_begun M_left M_has M_lifted M_taken M_above M_allLifts M_busy)
    else (
      (fX10_minutesAsTold fuel M_guests M_kind M_figure M_told M_minute).bind fun o_7 =>
      if v5 = p1 then (
        fX10_along_J92 (fX10_along_L31 fuel M_guests M_kind M_figure M_told M_heaps M_holds M_back M_mistakes M_hooks M_letters M_rule p1 p2 n) v3 v4 v5 M_coming M_comingMany M_going M_goingMany o_7 M_pile M_high M_where M_latest M_lifts M_begun M_left M_has M_lifted M_taken M_above M_allLifts M_busy)
      else (
        (fX10_goesAhead fuel o_7 v5 p1).bind fun o_9 =>
        if o_9 = 0 then (
          fX10_along_J92 (fX10_along_L31 fuel M_guests M_kind M_figure M_told M_heaps M_holds M_back M_mistakes M_hooks M_letters M_rule p1 p2 n) v3 v4 v5 M_coming M_comingMany M_going M_goingMany o_7 M_pile M_high M_where M_latest M_lifts M_begun M_left M_has M_lifted M_taken M_above M_allLifts M_busy)
        else (
          (fX10_alongWith fuel M_guests M_kind M_figure M_told M_heaps M_holds M_back M_mistakes M_hooks M_letters M_rule M_coming M_comingMany M_going M_goingMany o_7 M_pile M_high M_where M_latest M_lifts M_begun M_left M_has M_lifted M_taken M_above M_allLifts M_busy p1 v5).bind fun o_11 =>
          if v4 ≤ o_11.1 then (
            zlet (zmin v4 o_11.1) fun x_13 =>
            fX10_along_J92 (fX10_along_L31 fuel M_guests M_kind M_figure M_told M_heaps M_holds M_back M_mistakes M_hooks M_letters M_rule p1 p2 n) v3 x_13 v5 o_11.2.1 o_11.2.2.1 o_11.2.2.2.1 o_11.2.2.2.2.1 o_11.2.2.2.2.2.1 o_11.2.2.2.2.2.2.1 o_11.2.2.2.2.2.2.2.1 o_11.2.2.2.2.2.2.2.2.1 o_11.2.2.2.2.2.2.2.2.2.1 o_11.2.2.2.2.2.2.2.2.2.2.1 o_11.2.2.2.2.2.2.2.2.2.2.2.1 o_11.2.2.2.2.2.2.2.2.2.2.2.2.1 o_11.2.2.2.2.2.2.2.2.2.2.2.2.2.1 o_11.2.2.2.2.2.2.2.2.2.2.2.2.2.2.1 o_11.2.2.2.2.2.2.2.2.2.2.2.2.2.2.2.1 o_11.2.2.2.2.2.2.2.2.2.2.2.2.2.2.2.2.1 o_11.2.2.2.2.2.2.2.2.2.2.2.2.2.2.2.2.2.1 o_11.2.2.2.2.2.2.2.2.2.2.2.2.2.2.2.2.2.2)
          else (
            zlet (zmin v4 o_11.1) fun x_14 =>
            fX10_along_J92 (fX10_along_L31 fuel M_guests M_kind M_figure M_told M_heaps M_holds M_back M_mistakes M_hooks M_letters M_rule p1 p2 n) v5 x_14 v5 o_11.2.1 o_11.2.2.1 o_11.2.2.2.1 o_11.2.2.2.2.1 o_11.2.2.2.2.2.1 o_11.2.2.2.2.2.2.1 o_11.2.2.2.2.2.2.2.1 o_11.2.2.2.2.2.2.2.2.1 o_11.2.2.2.2.2.2.2.2.2.1 o_11.2.2.2.2.2.2.2.2.2.2.1 o_11.2.2.2.2.2.2.2.2.2.2.2.1 o_11.2.2.2.2.2.2.2.2.2.2.2.2.1 o_11.2.2.2.2.2.2.2.2.2.2.2.2.2.1 o_11.2.2.2.2.2.2.2.2.2.2.2.2.2.2.1 o_11.2.2.2.2.2.2.2.2.2.2.2.2.2.2.2.1 o_11.2.2.2.2.2.2.2.2.2.2.2.2.2.2.2.2.1 o_11.2.2.2.2.2.2.2.2.2.2.2.2.2.2.2.2.2.1 o_11.2.2.2.2.2.2.2.2.2.2.2.2.2.2.2.2.2.2))))
def fX10_along (fuel : Nat) (M_guests : Int32) (M_kind : Nat → Int32) (M_figure : Nat → Int32) (M_told : Nat → Int32) (M_heaps : Int32) (M_holds : Int32) (M_back : Int32) (M_mistakes : Int32) (M_hooks : Int32) (M_letters : Int32) (M_rule : Nat → Int32) (M_coming : Nat → Int32) (M_comingMany : Int32) (M_going : Nat → Int32) (M_goingMany : Int32) (M_minute : Nat → Int32) (M_pile : Nat → Int32) (M_high : Nat → Int32) (M_where : Nat → Int32) (M_latest : Int32) (M_lifts : Nat → Int32) (M_begun : Nat → Int32) (M_left : Nat → Int32) (M_has : Nat → Int32) (M_lifted : Nat → Int32) (M_taken : Nat → Int32) (M_above : Nat → Int32) (M_allLifts : Int32) (M_busy : Int32) (p1 : Int32) (p2 : Int32) : Option (Int32 × (Nat → Int32) × Int32 × (Nat → Int32) × Int32 × (Nat → Int32) × (Nat → Int32) × (Nat → Int32) × (Nat → Int32) × Int32 × (Nat → Int32) × (Nat → Int32) × (Nat → Int32) × (Nat → Int32) × (Nat → Int32) × (Nat → Int32) × (Nat → Int32) × Int32 × Int32) :=
  (fX10_isGuest fuel M_guests p1).bind fun o_1 =>
  if o_1 = 0 then (
    some ((-1), M_coming, M_comingMany, M_going, M_goingMany, M_minute, M_pile, M_high, M_where, M_latest, M_lifts, M_begun, M_left, M_has, M_lifted, M_taken, M_above, M_allLifts, M_busy))
  else (
    (fX10_isIn fuel p2 0 1).bind fun o_3 =>
    if o_3 = 0 then (
      some ((-1), M_coming, M_comingMany, M_going, M_goingMany, M_minute, M_pile, M_high, M_where, M_latest, M_lifts, M_begun, M_left, M_has, M_lifted, M_taken, M_above, M_allLifts, M_busy))
    else (
      (fX10_night fuel M_guests M_kind M_figure M_told M_heaps M_holds M_back M_mistakes M_hooks M_letters M_rule M_coming M_comingMany M_going M_goingMany M_minute M_pile M_high M_where M_latest M_lifts M_begun M_left M_has M_lifted M_taken M_above M_allLifts M_busy).bind fun o_5 =>
      fX10_along_L31 fuel M_guests M_kind M_figure M_told M_heaps M_holds M_back M_mistakes M_hooks M_letters M_rule p1 p2 fuel (-4) o_5.1 0 o_5.2.1 o_5.2.2.1 o_5.2.2.2.1 o_5.2.2.2.2.1 o_5.2.2.2.2.2.1 o_5.2.2.2.2.2.2.1 o_5.2.2.2.2.2.2.2.1 o_5.2.2.2.2.2.2.2.2.1 o_5.2.2.2.2.2.2.2.2.2.1 o_5.2.2.2.2.2.2.2.2.2.2.1 o_5.2.2.2.2.2.2.2.2.2.2.2.1 o_5.2.2.2.2.2.2.2.2.2.2.2.2.1 o_5.2.2.2.2.2.2.2.2.2.2.2.2.2.1 o_5.2.2.2.2.2.2.2.2.2.2.2.2.2.2.1 o_5.2.2.2.2.2.2.2.2.2.2.2.2.2.2.2.1 o_5.2.2.2.2.2.2.2.2.2.2.2.2.2.2.2.2.1 o_5.2.2.2.2.2.2.2.2.2.2.2.2.2.2.2.2.2.1 o_5.2.2.2.2.2.2.2.2.2.2.2.2.2.2.2.2.2.2))
def fX10_byTurn (fuel : Nat) (M_guests : Int32) (M_kind : Nat → Int32) (M_figure : Nat → Int32) (M_told : Nat → Int32) (M_heaps : Int32) (M_holds : Int32) (M_back : Int32) (M_mistakes : Int32) (M_hooks : Int32) (M_letters : Int32) (M_rule : Nat → Int32) (M_coming : Nat → Int32) (M_comingMany : Int32) (M_going : Nat → Int32) (M_goingMany : Int32) (M_minute : Nat → Int32) (M_pile : Nat → Int32) (M_high : Nat → Int32) (M_where : Nat → Int32) (M_latest : Int32) (M_lifts : Nat → Int32) (M_begun : Nat → Int32) (M_left : Nat → Int32) (M_has : Nat → Int32) (M_lifted : Nat → Int32) (M_taken : Nat → Int32) (M_above : Nat → Int32) (M_allLifts : Int32) (M_busy : Int32) (p1 : Int32) : Option (Int32 × (Nat → Int32) × Int32 × (Nat → Int32) × Int32 × (Nat → Int32) × (Nat → Int32) × (Nat → Int32) × (Nat → Int32) × Int32 × (Nat → Int32) × (Nat → Int32) × (Nat → Int32) × (Nat → Int32) × (Nat → Int32) × (Nat → Int32) × (Nat → Int32) × Int32 × Int32) :=
  (fX10_usual fuel M_guests M_kind M_figure M_told M_coming M_comingMany M_going M_goingMany M_minute).bind fun o_1 =>
  (fX10_lay fuel M_heaps M_holds M_hooks M_letters M_rule o_1.1 o_1.2.1 o_1.2.2.2.2 M_pile M_high M_where M_latest).bind fun o_2 =>
  (fX10_go fuel M_guests M_kind M_figure M_heaps M_back M_mistakes o_1.2.2.1 o_1.2.2.2.2 o_2.1 o_2.2.1 o_2.2.2.1 M_lifts M_begun M_left M_has M_lifted M_taken M_above M_allLifts M_busy o_1.2.2.2.1 p1).bind fun o_3 =>
  some (o_3.1, o_1.1, o_1.2.1, o_1.2.2.1, o_1.2.2.2.1, o_1.2.2.2.2, o_3.2.1, o_3.2.2.1, o_2.2.2.1, o_2.2.2.2, o_3.2.2.2.1, o_3.2.2.2.2.1, o_3.2.2.2.2.2.1, o_3.2.2.2.2.2.2.1, o_3.2.2.2.2.2.2.2.1, o_3.2.2.2.2.2.2.2.2.1, o_3.2.2.2.2.2.2.2.2.2.1, o_3.2.2.2.2.2.2.2.2.2.2.1, o_3.2.2.2.2.2.2.2.2.2.2.2)
def fX10_turn (fuel : Nat) (M_guests : Int32) (M_kind : Nat → Int32) (M_figure : Nat → Int32) (M_told : Nat → Int32) (M_heaps : Int32) (M_holds : Int32) (M_back : Int32) (M_mistakes : Int32) (M_hooks : Int32) (M_letters : Int32) (M_rule : Nat → Int32) (M_coming : Nat → Int32) (M_comingMany : Int32) (M_going : Nat → Int32) (M_goingMany : Int32) (M_minute : Nat → Int32) (M_pile : Nat → Int32) (M_high : Nat → Int32) (M_where : Nat → Int32) (M_latest : Int32) (M_lifts : Nat → Int32) (M_begun : Nat → Int32) (M_left : Nat → Int32) (M_has : Nat → Int32) (M_lifted : Nat → Int32) (M_taken : Nat → Int32) (M_above : Nat → Int32) (M_allLifts : Int32) (M_busy : Int32) (p1 : Int32) : Option (Int32 × (Nat → Int32) × Int32 × (Nat → Int32) × Int32 × (Nat → Int32) × (Nat → Int32) × (Nat → Int32) × (Nat → Int32) × Int32 × (Nat → Int32) × (Nat → Int32) × (Nat → Int32) × (Nat → Int32) × (Nat → Int32) × (Nat → Int32) × (Nat → Int32) × Int32 × Int32) :=
  (fX10_isIn fuel p1 0 99).bind fun o_1 =>
  if o_1 = 0 then (
    some ((-1), M_coming, M_comingMany, M_going, M_goingMany, M_minute, M_pile, M_high, M_where, M_latest, M_lifts, M_begun, M_left, M_has, M_lifted, M_taken, M_above, M_allLifts, M_busy))
  else (
    (fX10_byTurn fuel M_guests M_kind M_figure M_told M_heaps M_holds M_back M_mistakes M_hooks M_letters M_rule M_coming M_comingMany M_going M_goingMany M_minute M_pile M_high M_where M_latest M_lifts M_begun M_left M_has M_lifted M_taken M_above M_allLifts M_busy p1).bind fun o_3 =>
    some (o_3.1, o_3.2.1, o_3.2.2.1, o_3.2.2.2.1, o_3.2.2.2.2.1, o_3.2.2.2.2.2.1, o_3.2.2.2.2.2.2.1, o_3.2.2.2.2.2.2.2.1, o_3.2.2.2.2.2.2.2.2.1, o_3.2.2.2.2.2.2.2.2.2.1, o_3.2.2.2.2.2.2.2.2.2.2.1, o_3.2.2.2.2.2.2.2.2.2.2.2.1, o_3.2.2.2.2.2.2.2.2.2.2.2.2.1, o_3.2.2.2.2.2.2.2.2.2.2.2.2.2.1, o_3.2.2.2.2.2.2.2.2.2.2.2.2.2.2.1, o_3.2.2.2.2.2.2.2.2.2.2.2.2.2.2.2.1, o_3.2.2.2.2.2.2.2.2.2.2.2.2.2.2.2.2.1, o_3.2.2.2.2.2.2.2.2.2.2.2.2.2.2.2.2.2.1, o_3.2.2.2.2.2.2.2.2.2.2.2.2.2.2.2.2.2.2))
def fX10_bestTurn_L10 (fuel : Nat) (M_guests : Int32) (M_kind : Nat → Int32) (M_figure : Nat → Int32) (M_told : Nat → Int32) (M_heaps : Int32) (M_holds : Int32) (M_back : Int32) (M_mistakes : Int32) (M_hooks : Int32) (M_letters : Int32) (M_rule : Nat → Int32) : Nat → Int32 → Int32 → Int32 → (Nat → Int32) → Int32 → (Nat → Int32) → Int32 → (Nat → Int32) → (Nat → Int32) → (Nat → Int32) → (Nat → Int32) → Int32 → (Nat → Int32) → (Nat → Int32) → (Nat → Int32) → (Nat → Int32) → (Nat → Int32) → (Nat → Int32) → (Nat → Int32) → Int32 → Int32 → Option (Int32 × (Nat → Int32) × Int32 × (Nat → Int32) × Int32 × (Nat → Int32) × (Nat → Int32) × (Nat → Int32) × (Nat → Int32) × Int32 × (Nat → Int32) × (Nat → Int32) × (Nat → Int32) × (Nat → Int32) × (Nat → Int32) × (Nat → Int32) × (Nat → Int32) × Int32 × Int32)
  | 0, _, _, _, _, _, _, _, _, _, _, _, _, _, _, _, _, _, _, _, _, _ => none
  | n + 1, v1, v2, v3, M_coming, M_comingMany, M_going, M_goingMany, M_minute, M_pile, M_high, M_where, M_latest, M_lifts, M_begun, M_left, M_has, M_lifted, M_taken, M_above, M_allLifts, M_busy =>
    if 100 ≤ v3 then (
      some (v1, M_coming, M_comingMany, M_going, M_goingMany, M_minute, M_pile, M_high, M_where, M_latest, M_lifts, M_begun, M_left, M_has, M_lifted, M_taken, M_above, M_allLifts, M_busy))
    else (
      (fX10_byTurn fuel M_guests M_kind M_figure M_told M_heaps M_holds M_back M_mistakes M_hooks M_letters M_rule M_coming M_comingMany M_going M_goingMany M_minute M_pile M_high M_where M_latest M_lifts M_begun M_left M_has M_lifted M_taken M_above M_allLifts M_busy v3).bind fun o_3 =>
      if v2 ≤ o_3.1 then (
        zlet (zmin v2 o_3.1) fun x_5 =>
        zlet (v3 + 1) fun v3_6 =>
        fX10_bestTurn_L10 fuel M_guests M_kind M_figure M_told M_heaps M_holds M_back M_mistakes M_hooks M_letters M_rule n v1 x_5 v3_6 o_3.2.1 o_3.2.2.1 o_3.2.2.2.1 o_3.2.2.2.2.1 o_3.2.2.2.2.2.1 o_3.2.2.2.2.2.2.1 o_3.2.2.2.2.2.2.2.1 o_3.2.2.2.2.2.2.2.2.1 o_3.2.2.2.2.2.2.2.2.2.1 o_3.2.2.2.2.2.2.2.2.2.2.1 o_3.2.2.2.2.2.2.2.2.2.2.2.1 o_3.2.2.2.2.2.2.2.2.2.2.2.2.1 o_3.2.2.2.2.2.2.2.2.2.2.2.2.2.1 o_3.2.2.2.2.2.2.2.2.2.2.2.2.2.2.1 o_3.2.2.2.2.2.2.2.2.2.2.2.2.2.2.2.1 o_3.2.2.2.2.2.2.2.2.2.2.2.2.2.2.2.2.1 o_3.2.2.2.2.2.2.2.2.2.2.2.2.2.2.2.2.2.1 o_3.2.2.2.2.2.2.2.2.2.2.2.2.2.2.2.2.2.2)
      else (
        zlet (zmin v2 o_3.1) fun x_7 =>
        zlet (v3 + 1) fun v3_8 =>
        fX10_bestTurn_L10 fuel M_guests M_kind M_figure M_told M_heaps M_holds M_back M_mistakes M_hooks M_letters M_rule n v3 x_7 v3_8 o_3.2.1 o_3.2.2.1 o_3.2.2.2.1 o_3.2.2.2.2.1 o_3.2.2.2.2.2.1 o_3.2.2.2.2.2.2.1 o_3.2.2.2.2.2.2.2.1 o_3.2.2.2.2.2.2.2.2.1 o_3.2.2.2.2.2.2.2.2.2.1 o_3.2.2.2.2.2.2.2.2.2.2.1 o_3.2.2.2.2.2.2.2.2.2.2.2.1 o_3.2.2.2.2.2.2.2.2.2.2.2.2.1 o_3.2.2.2.2.2.2.2.2.2.2.2.2.2.1 o_3.2.2.2.2.2.2.2.2.2.2.2.2.2.2.1 o_3.2.2.2.2.2.2.2.2.2.2.2.2.2.2.2.1 o_3.2.2.2.2.2.2.2.2.2.2.2.2.2.2.2.2.1 o_3.2.2.2.2.2.2.2.2.2.2.2.2.2.2.2.2.2.1 o_3.2.2.2.2.2.2.2.2.2.2.2.2.2.2.2.2.2.2))
def fX10_bestTurn (fuel : Nat) (M_guests : Int32) (M_kind : Nat → Int32) (M_figure : Nat → Int32) (M_told : Nat → Int32) (M_heaps : Int32) (M_holds : Int32) (M_back : Int32) (M_mistakes : Int32) (M_hooks : Int32) (M_letters : Int32) (M_rule : Nat → Int32) (M_coming : Nat → Int32) (M_comingMany : Int32) (M_going : Nat → Int32) (M_goingMany : Int32) (M_minute : Nat → Int32) (M_pile : Nat → Int32) (M_high : Nat → Int32) (M_where : Nat → Int32) (M_latest : Int32) (M_lifts : Nat → Int32) (M_begun : Nat → Int32) (M_left : Nat → Int32) (M_has : Nat → Int32) (M_lifted : Nat → Int32) (M_taken : Nat → Int32) (M_above : Nat → Int32) (M_allLifts : Int32) (M_busy : Int32) : Option (Int32 × (Nat → Int32) × Int32 × (Nat → Int32) × Int32 × (Nat → Int32) × (Nat → Int32) × (Nat → Int32) × (Nat → Int32) × Int32 × (Nat → Int32) × (Nat → Int32) × (Nat → Int32) × (Nat → Int32) × (Nat → Int32) × (Nat → Int32) × (Nat → Int32) × Int32 × Int32) :=
  (fX10_night fuel M_guests M_kind M_figure M_told M_heaps M_holds M_back M_mistakes M_hooks M_letters M_rule M_coming M_comingMany M_going M_goingMany M_minute M_pile M_high M_where M_latest M_lifts M_begun M_left M_has M_lifted M_taken M_above M_allLifts M_busy).bind fun o_1 =>
  fX10_bestTurn_L10 fuel M_guests M_kind M_figure M_told M_heaps M_holds M_back M_mistakes M_hooks M_letters M_rule fuel (-4) o_1.1 0 o_1.2.1 o_1.2.2.1 o_1.2.2.2.1 o_1.2.2.2.2.1 o_1.2.2.2.2.2.1 o_1.2.2.2.2.2.2.1 o_1.2.2.2.2.2.2.2.1 o_1.2.2.2.2.2.2.2.2.1 o_1.2.2.2.2.2.2.2.2.2.1 o_1.2.2.2.2.2.2.2.2.2.2.1 o_1.2.2.2.2.2.2.2.2.2.2.2.1 o_1.2.2.2.2.2.2.2.2.2.2.2.2.1 o_1.2.2.2.2.2.2.2.2.2.2.2.2.2.1 o_1.2.2.2.2.2.2.2.2.2.2.2.2.2.2.1 o_1.2.2.2.2.2.2.2.2.2.2.2.2.2.2.2.1 o_1.2.2.2.2.2.2.2.2.2.2.2.2.2.2.2.2.1 o_1.2.2.2.2.2.2.2.2.2.2.2.2.2.2.2.2.2.1 o_1.2.2.2.2.2.2.2.2.2.2.2.2.2.2.2.2.2.2
def fX10_swap_going (fuel : Nat) (M_going : Nat → Int32) (p2 : Int32) (p3 : Int32) : Option ((Nat → Int32)) :=
  zg (zin p2 10) <|
  zlet (M_going p2.toNatClampNeg) fun v4_2 =>
  zg (zin p3 10) <|
  zlet (upd M_going p2.toNatClampNeg (M_going p3.toNatClampNeg)) fun M_going_4 =>
  zlet (upd M_going_4 p3.toNatClampNeg v4_2) fun M_going_5 =>
  some (M_going_5)
def fX10_swap_coming (fuel : Nat) (M_coming : Nat → Int32) (p2 : Int32) (p3 : Int32) : Option ((Nat → Int32)) :=
  zg (zin p2 10) <|
  zlet (M_coming p2.toNatClampNeg) fun v4_2 =>
  zg (zin p3 10) <|
  zlet (upd M_coming p2.toNatClampNeg (M_coming p3.toNatClampNeg)) fun M_coming_4 =>
  zlet (upd M_coming_4 p3.toNatClampNeg v4_2) fun M_coming_5 =>
  some (M_coming_5)
def fX10_nextOrder_going_L70 (fuel : Nat) : Nat → Int32 → Int32 → (Nat → Int32) → Option (Int32 × (Nat → Int32))
  | 0, _, _, _ => none
  | n + 1, v5, v6, M_going =>
    if v6 ≤ v5 then (
      some (1, M_going))
    else (
      (fX10_swap_going fuel M_going v5 v6).bind fun o_17 =>
      zlet (v5 + 1) fun v5_18 =>
      zlet (v6 + (-1)) fun v6_19 =>
      fX10_nextOrder_going_L70 fuel n v5_18 v6_19 o_17)
def fX10_nextOrder_going_J52 (fuel : Nat) (p2 : Int32) (v3 : Int32) (v4 : Int32) (M_going : Nat → Int32) : Option (Int32 × (Nat → Int32)) :=
  (fX10_swap_going fuel M_going v3 v4).bind fun o_13 =>
  zlet (v3 + 1) fun v5_14 =>
  zlet (p2 - 1) fun v6_15 =>
  fX10_nextOrder_going_L70 fuel fuel v5_14 v6_15 o_13
def fX10_nextOrder_going_L36 (fuel : Nat) (p2 : Int32) : Nat → Int32 → Int32 → (Nat → Int32) → Option (Int32 × (Nat → Int32))
  | 0, _, _, _ => none
  | n + 1, v3, v4, M_going =>
    zg (zin v4 10) <|
    zg (zin v3 10) <|
    if (M_going v3.toNatClampNeg) ≤ (M_going v4.toNatClampNeg) then (
      fX10_nextOrder_going_J52 fuel p2 v3 v4 M_going)
    else (
      zlet (v4 + (-1)) fun v4_12 =>
      fX10_nextOrder_going_L36 fuel p2 n v3 v4_12 M_going)
def fX10_nextOrder_going_J25 (fuel : Nat) (p2 : Int32) (v3 : Int32) (M_going : Nat → Int32) : Option (Int32 × (Nat → Int32)) :=
  if 0 ≤ v3 then (
    zlet (p2 - 1) fun v4_8 =>
    fX10_nextOrder_going_L36 fuel p2 fuel v3 v4_8 M_going)
  else (
    some (0, M_going))
def fX10_nextOrder_going_L4 (fuel : Nat) (p2 : Int32) : Nat → Int32 → (Nat → Int32) → Option (Int32 × (Nat → Int32))
  | 0, _, _ => none
  | n + 1, v3, M_going =>
    if v3 < 0 then (
      fX10_nextOrder_going_J25 fuel p2 v3 M_going)
    else (
      zg (zin v3 10) <|
      zg (zin (v3 + 1) 10) <|
      if (M_going v3.toNatClampNeg) ≤ ((M_going (v3 + 1).toNatClampNeg)) then (
        fX10_nextOrder_going_J25 fuel p2 v3 M_going)
      else (
        zlet (v3 + (-1)) fun v3_6 =>
        fX10_nextOrder_going_L4 fuel p2 n v3_6 M_going))
def fX10_nextOrder_going (fuel : Nat) (M_going : Nat → Int32) (p2 : Int32) : Option (Int32 × (Nat → Int32)) :=
  zlet (p2 - 2) fun v3_1 =>
  fX10_nextOrder_going_L4 fuel p2 fuel v3_1 M_going
def fX10_nextOrder_coming_L70 (fuel : Nat) : Nat → Int32 → Int32 → (Nat → Int32) → Option (Int32 × (Nat → Int32))
  | 0, _, _, _ => none
  | n + 1, v5, v6, M_coming =>
    if v6 ≤ v5 then (
      some (1, M_coming))
    else (
      (fX10_swap_coming fuel M_coming v5 v6).bind fun o_17 =>
      zlet (v5 + 1) fun v5_18 =>
      zlet (v6 + (-1)) fun v6_19 =>
      fX10_nextOrder_coming_L70 fuel n v5_18 v6_19 o_17)
def fX10_nextOrder_coming_J52 (fuel : Nat) (p2 : Int32) (v3 : Int32) (v4 : Int32) (M_coming : Nat → Int32) : Option (Int32 × (Nat → Int32)) :=
  (fX10_swap_coming fuel M_coming v3 v4).bind fun o_13 =>
  zlet (v3 + 1) fun v5_14 =>
  zlet (p2 - 1) fun v6_15 =>
  fX10_nextOrder_coming_L70 fuel fuel v5_14 v6_15 o_13
def fX10_nextOrder_coming_L36 (fuel : Nat) (p2 : Int32) : Nat → Int32 → Int32 → (Nat → Int32) → Option (Int32 × (Nat → Int32))
  | 0, _, _, _ => none
  | n + 1, v3, v4, M_coming =>
    zg (zin v4 10) <|
    zg (zin v3 10) <|
    if (M_coming v3.toNatClampNeg) ≤ (M_coming v4.toNatClampNeg) then (
      fX10_nextOrder_coming_J52 fuel p2 v3 v4 M_coming)
    else (
      zlet (v4 + (-1)) fun v4_12 =>
      fX10_nextOrder_coming_L36 fuel p2 n v3 v4_12 M_coming)
def fX10_nextOrder_coming_J25 (fuel : Nat) (p2 : Int32) (v3 : Int32) (M_coming : Nat → Int32) : Option (Int32 × (Nat → Int32)) :=
  if 0 ≤ v3 then (
    zlet (p2 - 1) fun v4_8 =>
    fX10_nextOrder_coming_L36 fuel p2 fuel v3 v4_8 M_coming)
  else (
    some (0, M_coming))
def fX10_nextOrder_coming_L4 (fuel : Nat) (p2 : Int32) : Nat → Int32 → (Nat → Int32) → Option (Int32 × (Nat → Int32))
  | 0, _, _ => none
  | n + 1, v3, M_coming =>
    if v3 < 0 then (
      fX10_nextOrder_coming_J25 fuel p2 v3 M_coming)
    else (
      zg (zin v3 10) <|
      zg (zin (v3 + 1) 10) <|
      if (M_coming v3.toNatClampNeg) ≤ ((M_coming (v3 + 1).toNatClampNeg)) then (
        fX10_nextOrder_coming_J25 fuel p2 v3 M_coming)
      else (
        zlet (v3 + (-1)) fun v3_6 =>
        fX10_nextOrder_coming_L4 fuel p2 n v3_6 M_coming))
def fX10_nextOrder_coming (fuel : Nat) (M_coming : Nat → Int32) (p2 : Int32) : Option (Int32 × (Nat → Int32)) :=
  zlet (p2 - 2) fun v3_1 =>
  fX10_nextOrder_coming_L4 fuel p2 fuel v3_1 M_coming
def fX10_allOrders_L51 (fuel : Nat) (M_guests : Int32) (M_kind : Nat → Int32) (M_figure : Nat → Int32) (M_heaps : Int32) (M_holds : Int32) (M_back : Int32) (M_mistakes : Int32) (M_hooks : Int32) (M_letters : Int32) (M_rule : Nat → Int32) : Nat → Int32 → (Nat → Int32) → Int32 → (Nat → Int32) → Int32 → (Nat → Int32) → (Nat → Int32) → (Nat → Int32) → (Nat → Int32) → Int32 → (Nat → Int32) → (Nat → Int32) → (Nat → Int32) → (Nat → Int32) → (Nat → Int32) → (Nat → Int32) → (Nat → Int32) → Int32 → Int32 → Int32 → Int32 → Int32 → Int32 → Option ((Nat → Int32) × Int32 × (Nat → Int32) × Int32 × (Nat → Int32) × (Nat → Int32) × (Nat → Int32) × (Nat → Int32) × Int32 × (Nat → Int32) × (Nat → Int32) × (Nat → Int32) × (Nat → Int32) × (Nat → Int32) × (Nat → Int32) × (Nat → Int32) × Int32 × Int32 × Int32 × Int32 × Int32 × Int32)
  | 0, _, _, _, _, _, _, _, _, _, _, _, _, _, _, _, _, _, _, _, _, _, _, _ => none
  | n + 1, v1, M_coming, M_comingMany, M_going, M_goingMany, M_minute, M_pile, M_high, M_where, M_latest, M_lifts, M_begun, M_left, M_has, M_lifted, M_taken, M_above, M_allLifts, M_busy, M_worst, M_best, M_orders, M_together =>
    if v1 = 0 then (
      some (M_coming, M_comingMany, M_going, M_goingMany, M_minute, M_pile, M_high, M_where, M_latest, M_lifts, M_begun, M_left, M_has, M_lifted, M_taken, M_above, M_allLifts, M_busy, M_worst, M_best, M_orders, M_together))
    else (
      (fX10_layAndGo fuel M_guests M_kind M_figure M_heaps M_holds M_back M_mistakes M_hooks M_letters M_rule M_coming M_comingMany M_going M_goingMany M_minute M_pile M_high M_where M_latest M_lifts M_begun M_left M_has M_lifted M_taken M_above M_allLifts M_busy).bind fun o_7 =>
      zlet (zmax M_worst o_7.1) fun x_8 =>
      zlet (zmin M_best o_7.1) fun x_9 =>
      zlet (M_together + o_7.1) fun together_10 =>
      zlet (M_orders + 1) fun orders_11 =>
      (fX10_nextOrder_going fuel M_going M_guests).bind fun o_12 =>
      fX10_allOrders_L51 fuel M_guests M_kind M_figure M_heaps M_holds M_back M_mistakes M_hooks M_letters M_rule n o_12.1 M_coming M_comingMany o_12.2 M_goingMany M_minute o_7.2.1 o_7.2.2.1 o_7.2.2.2.1 o_7.2.2.2.2.1 o_7.2.2.2.2.2.1 o_7.2.2.2.2.2.2.1 o_7.2.2.2.2.2.2.2.1 o_7.2.2.2.2.2.2.2.2.1 o_7.2.2.2.2.2.2.2.2.2.1 o_7.2.2.2.2.2.2.2.2.2.2.1 o_7.2.2.2.2.2.2.2.2.2.2.2.1 o_7.2.2.2.2.2.2.2.2.2.2.2.2.1 o_7.2.2.2.2.2.2.2.2.2.2.2.2.2 x_8 x_9 orders_11 together_10)
def fX10_allOrders_J49 (fuel : Nat) (M_guests : Int32) (M_kind : Nat → Int32) (M_figure : Nat → Int32) (M_heaps : Int32) (M_holds : Int32) (M_back : Int32) (M_mistakes : Int32) (M_hooks : Int32) (M_letters : Int32) (M_rule : Nat → Int32) (M_coming : Nat → Int32) (M_comingMany : Int32) (M_going : Nat → Int32) (M_goingMany : Int32) (M_minute : Nat → Int32) (M_pile : Nat → Int32) (M_high : Nat → Int32) (M_where : Nat → Int32) (M_latest : Int32) (M_lifts : Nat → Int32) (M_begun : Nat → Int32) (M_left : Nat → Int32) (M_has : Nat → Int32) (M_lifted : Nat → Int32) (M_taken : Nat → Int32) (M_above : Nat → Int32) (M_allLifts : Int32) (M_busy : Int32) (M_worst : Int32) (M_best : Int32) (M_orders : Int32) (M_together : Int32) : Option ((Nat → Int32) × Int32 × (Nat → Int32) × Int32 × (Nat → Int32) × (Nat → Int32) × (Nat → Int32) × (Nat → Int32) × Int32 × (Nat → Int32) × (Nat → Int32) × (Nat → Int32) × (Nat → Int32) × (Nat → Int32) × (Nat → Int32) × (Nat → Int32) × Int32 × Int32 × Int32 × Int32 × Int32 × Int32) :=
  fX10_allOrders_L51 fuel M_guests M_kind M_figure M_heaps M_holds M_back M_mistakes M_hooks M_letters M_rule fuel 1 M_coming M_comingMany M_going M_goingMany M_minute M_pile M_high M_where M_latest M_lifts M_begun M_left M_has M_lifted M_taken M_above M_allLifts M_busy M_worst M_best M_orders M_together
def fX10_allOrders_L28 (fuel : Nat) (M_guests : Int32) (M_kind : Nat → Int32) (M_figure : Nat → Int32) (M_heaps : Int32) (M_holds : Int32) (M_back : Int32) (M_mistakes : Int32) (M_hooks : Int32) (M_letters : Int32) (M_rule : Nat → Int32) : Nat → Int32 → (Nat → Int32) → Int32 → (Nat → Int32) → Int32 → (Nat → Int32) → (Nat → Int32) → (Nat → Int32) → (Nat → Int32) → Int32 → (Nat → Int32) → (Nat → Int32) → (Nat → Int32) → (Nat → Int32) → (Nat → Int32) → (Nat → Int32) → (Nat → Int32) → Int32 → Int32 → Int32 → Int32 → Int32 → Int32 → Option ((Nat → Int32) × Int32 × (Nat → Int32) × Int32 × (Nat → Int32) × (Nat → Int32) × (Nat → Int32) × (Nat → Int32) × Int32 × (Nat → Int32) × (Nat → Int32) × (Nat → Int32) × (Nat → Int32) × (Nat → Int32) × (Nat → Int32) × (Nat → Int32) × Int32 × Int32 × Int32 × Int32 × Int32 × Int32)
  | 0, _, _, _, _, _, _, _, _, _, _, _, _, _, _, _, _, _, _, _, _, _, _, _ => none
  | n + 1, v1, M_coming, M_comingMany, M_going, M_goingMany, M_minute, M_pile, M_high, M_where, M_latest, M_lifts, M_begun, M_left, M_has, M_lifted, M_taken, M_above, M_allLifts, M_busy, M_worst, M_best, M_orders, M_together =>
    if M_guests ≤ v1 then (
      fX10_allOrders_J49 fuel M_guests M_kind M_figure M_heaps M_holds M_back M_mistakes M_hooks M_letters M_rule M_coming M_comingMany M_going M_goingMany M_minute M_pile M_high M_where M_latest M_lifts M_begun M_left M_has M_lifted M_taken M_above M_allLifts M_busy M_worst M_best M_orders M_together)
    else (
      zg (zin v1 10) <|
      zlet (upd M_going v1.toNatClampNeg v1) fun M_going_4 =>
      zlet (v1 + 1) fun v1_5 =>
      fX10_allOrders_L28 fuel M_guests M_kind M_figure M_heaps M_holds M_back M_mistakes M_hooks M_letters M_rule n v1_5 M_coming M_comingMany M_going_4 M_goingMany M_minute M_pile M_high M_where M_latest M_lifts M_begun M_left M_has M_lifted M_taken M_above M_allLifts M_busy M_worst M_best M_orders M_together)
def fX10_allOrders (fuel : Nat) (M_guests : Int32) (M_kind : Nat → Int32) (M_figure : Nat → Int32) (M_told : Nat → Int32) (M_heaps : Int32) (M_holds : Int32) (M_back : Int32) (M_mistakes : Int32) (M_hooks : Int32) (M_letters : Int32) (M_rule : Nat → Int32) (M_coming : Nat → Int32) (M_comingMany : Int32) (M_going : Nat → Int32) (M_goingMany : Int32) (M_minute : Nat → Int32) (M_pile : Nat → Int32) (M_high : Nat → Int32) (M_where : Nat → Int32) (M_latest : Int32) (M_lifts : Nat → Int32) (M_begun : Nat → Int32) (M_left : Nat → Int32) (M_has : Nat → Int32) (M_lifted : Nat → Int32) (M_taken : Nat → Int32) (M_above : Nat → Int32) (M_allLifts : Int32) (M_busy : Int32) (M_worst : Int32) (M_best : Int32) (M_orders : Int32) (M_together : Int32) : Option ((Nat → Int32) × Int32 × (Nat → Int32) × Int32 × (Nat → Int32) × (Nat → Int32) × (Nat → Int32) × (Nat → Int32) × Int32 × (Nat → Int32) × (Nat → Int32) × (Nat → Int32) × (Nat → Int32) × (Nat → Int32) × (Nat → Int32) × (Nat → Int32) × Int32 × Int32 × Int32 × Int32 × Int32 × Int32) :=
  (fX10_usual fuel M_guests M_kind M_figure M_told M_coming M_comingMany M_going M_goingMany M_minute).bind fun o_1 =>
  fX10_allOrders_L28 fuel M_guests M_kind M_figure M_heaps M_holds M_back M_mistakes M_hooks M_letters M_rule fuel 0 o_1.1 o_1.2.1 o_1.2.2.1 o_1.2.2.2.1 o_1.2.2.2.2 M_pile M_high M_where M_latest M_lifts M_begun M_left M_has M_lifted M_taken M_above M_allLifts M_busy 0 1000000 0 0
def fX10_mean_J56 (p1 : Int32) (v2 : Int32) (M_coming : Nat → Int32) (M_comingMany : Int32) (M_going : Nat → Int32) (M_goingMany : Int32) (M_minute : Nat → Int32) (M_pile : Nat → Int32) (M_high : Nat → Int32) (M_where : Nat → Int32) (M_latest : Int32) (M_lifts : Nat → Int32) (M_begun : Nat → Int32) (M_left : Nat → Int32) (M_has : Nat → Int32) (M_lifted : Nat → Int32) (M_taken : Nat → Int32) (M_above : Nat → Int32) (M_allLifts : Int32) (M_busy : Int32) (M_worst : Int32) (M_best : Int32) (M_orders : Int32) (M_together : Int32) : Option (Int64 × (Nat → Int32) × Int32 × (Nat → Int32) × Int32 × (Nat → Int32) × (Nat → Int32) × (Nat → Int32) × (Nat → Int32) × Int32 × (Nat → Int32) × (Nat → Int32) × (Nat → Int32) × (Nat → Int32) × (Nat → Int32) × (Nat → Int32) × (Nat → Int32) × Int32 × Int32 × Int32 × Int32 × Int32 × Int32) :=
  if p1 = 0 then (
    zg (decide (¬ v2 = 0)) <|
    some ((Int32.toInt64 (M_together / v2)), M_coming, M_comingMany, M_going, M_goingMany, M_minute, M_pile, M_high, M_where, M_latest, M_lifts, M_begun, M_left, M_has, M_lifted, M_taken, M_above, M_allLifts, M_busy, M_worst, M_best, M_orders, M_together))
  else (
    zg (decide (¬ v2 = 0)) <|
    some ((Int32.toInt64 (M_orders / v2)), M_coming, M_comingMany, M_going, M_goingMany, M_minute, M_pile, M_high, M_where, M_latest, M_lifts, M_begun, M_left, M_has, M_lifted, M_taken, M_above, M_allLifts, M_busy, M_worst, M_best, M_orders, M_together))
def fX10_mean_L39 (p1 : Int32) : Nat → Int32 → Int32 → (Nat → Int32) → Int32 → (Nat → Int32) → Int32 → (Nat → Int32) → (Nat → Int32) → (Nat → Int32) → (Nat → Int32) → Int32 → (Nat → Int32) → (Nat → Int32) → (Nat → Int32) → (Nat → Int32) → (Nat → Int32) → (Nat → Int32) → (Nat → Int32) → Int32 → Int32 → Int32 → Int32 → Int32 → Int32 → Option (Int64 × (Nat → Int32) × Int32 × (Nat → Int32) × Int32 × (Nat → Int32) × (Nat → Int32) × (Nat → Int32) × (Nat → Int32) × Int32 × (Nat → Int32) × (Nat → Int32) × (Nat → Int32) × (Nat → Int32) × (Nat → Int32) × (Nat → Int32) × (Nat → Int32) × Int32 × Int32 × Int32 × Int32 × Int32 × Int32)
  | 0, _, _, _, _, _, _, _, _, _, _, _, _, _, _, _, _, _, _, _, _, _, _, _, _ => none
  | n + 1, v2, v3, M_coming, M_comingMany, M_going, M_goingMany, M_minute, M_pile, M_high, M_where, M_latest, M_lifts, M_begun, M_left, M_has, M_lifted, M_taken, M_above, M_allLifts, M_busy, M_worst, M_best, M_orders, M_together =>
    if v3 = 0 then (
      fX10_mean_J56 p1 v2 M_coming M_comingMany M_going M_goingMany M_minute M_pile M_high M_where M_latest M_lifts M_begun M_left M_has M_lifted M_taken M_above M_allLifts M_busy M_worst M_best M_orders M_together)
    else (
      zg (decide (¬ v3 = 0)) <|
      zlet (v2 - v2 / v3 * v3) fun v4_7 =>
      fX10_mean_L39 p1 n v3 v4_7 M_coming M_comingMany M_going M_goingMany M_minute M_pile M_high M_where M_latest M_lifts M_begun M_left M_has M_lifted M_taken M_above M_allLifts M_busy M_worst M_best M_orders M_together)
def fX10_mean (fuel : Nat) (M_guests : Int32) (M_kind : Nat → Int32) (M_figure : Nat → Int32) (M_told : Nat → Int32) (M_heaps : Int32) (M_holds : Int32) (M_back : Int32) (M_mistakes : Int32) (M_hooks : Int32) (M_letters : Int32) (M_rule : Nat → Int32) (M_coming : Nat → Int32) (M_comingMany : Int32) (M_going : Nat → Int32) (M_goingMany : Int32) (M_minute : Nat → Int32) (M_pile : Nat → Int32) (M_high : Nat → Int32) (M_where : Nat → Int32) (M_latest : Int32) (M_lifts : Nat → Int32) (M_begun : Nat → Int32) (M_left : Nat → Int32) (M_has : Nat → Int32) (M_lifted : Nat → Int32) (M_taken : Nat → Int32) (M_above : Nat → Int32) (M_allLifts : Int32) (M_busy : Int32) (M_worst : Int32) (M_best : Int32) (M_orders : Int32) (M_together : Int32) (p1 : Int32) : Option (Int64 × (Nat → Int32) × Int32 × (Nat → Int32) × Int32 × (Nat → Int32) × (Nat → Int32) × (Nat → Int32) × (Nat → Int32) × Int32 × (Nat → Int32) × (Nat → Int32) × (Nat → Int32) × (Nat → Int32) × (Nat → Int32) × (Nat → Int32) × (Nat → Int32) × Int32 × Int32 × Int32 × Int32 × Int32 × Int32) :=
  (fX10_isIn fuel p1 0 1).bind fun o_1 =>
  if o_1 = 0 then (
    some ((-1000000001), M_coming, M_comingMany, M_going, M_goingMany, M_minute, M_pile, M_high, M_where, M_latest, M_lifts, M_begun, M_left, M_has, M_lifted, M_taken, M_above, M_allLifts, M_busy, M_worst, M_best, M_orders, M_together))
  else (
    if M_guests ≤ 5 then (
      (fX10_allOrders fuel M_guests M_kind M_figure M_told M_heaps M_holds M_back M_mistakes M_hooks M_letters M_rule M_coming M_comingMany M_going M_goingMany M_minute M_pile M_high M_where M_latest M_lifts M_begun M_left M_has M_lifted M_taken M_above M_allLifts M_busy M_worst M_best M_orders M_together).bind fun o_4 =>
      fX10_mean_L39 p1 fuel o_4.2.2.2.2.2.2.2.2.2.2.2.2.2.2.2.2.2.2.2.2.2 o_4.2.2.2.2.2.2.2.2.2.2.2.2.2.2.2.2.2.2.2.2.1 o_4.1 o_4.2.1 o_4.2.2.1 o_4.2.2.2.1 o_4.2.2.2.2.1 o_4.2.2.2.2.2.1 o_4.2.2.2.2.2.2.1 o_4.2.2.2.2.2.2.2.1 o_4.2.2.2.2.2.2.2.2.1 o_4.2.2.2.2.2.2.2.2.2.1 o_4.2.2.2.2.2.2.2.2.2.2.1 o_4.2.2.2.2.2.2.2.2.2.2.2.1 o_4.2.2.2.2.2.2.2.2.2.2.2.2.1 o_4.2.2.2.2.2.2.2.2.2.2.2.2.2.1 o_4.2.2.2.2.2.2.2.2.2.2.2.2.2.2.1 o_4.2.2.2.2.2.2.2.2.2.2.2.2.2.2.2.1 o_4.2.2.2.2.2.2.2.2.2.2.2.2.2.2.2.2.1 o_4.2.2.2.2.2.2.2.2.2.2.2.2.2.2.2.2.2.1 o_4.2.2.2.2.2.2.2.2.2.2.2.2.2.2.2.2.2.2.1 o_4.2.2.2.2.2.2.2.2.2.2.2.2.2.2.2.2.2.2.2.1 o_4.2.2.2.2.2.2.2.2.2.2.2.2.2.2.2.2.2.2.2.2.1 o_4.2.2.2.2.2.2.2.2.2.2.2.2.2.2.2.2.2.2.2.2.2)
    else (
      some ((-1000000003), M_coming, M_comingMany, M_going, M_goingMany, M_minute, M_pile, M_high, M_where, M_latest, M_lifts, M_begun, M_left, M_has, M_lifted, M_taken, M_above, M_allLifts, M_busy, M_worst, M_best, M_orders, M_together)))
def fX10_orders (fuel : Nat) (M_guests : Int32) (M_kind : Nat → Int32) (M_figure : Nat → Int32) (M_told : Nat → Int32) (M_heaps : Int32) (M_holds : Int32) (M_back : Int32) (M_mistakes : Int32) (M_hooks : Int32) (M_letters : Int32) (M_rule : Nat → Int32) (M_coming : Nat → Int32) (M_comingMany : Int32) (M_going : Nat → Int32) (M_goingMany : Int32) (M_minute : Nat → Int32) (M_pile : Nat → Int32) (M_high : Nat → Int32) (M_where : Nat → Int32) (M_latest : Int32) (M_lifts : Nat → Int32) (M_begun : Nat → Int32) (M_left : Nat → Int32) (M_has : Nat → Int32) (M_lifted : Nat → Int32) (M_taken : Nat → Int32) (M_above : Nat → Int32) (M_allLifts : Int32) (M_busy : Int32) (M_worst : Int32) (M_best : Int32) (M_orders : Int32) (M_together : Int32) (p1 : Int32) : Option (Int32 × (Nat → Int32) × Int32 × (Nat → Int32) × Int32 × (Nat → Int32) × (Nat → Int32) × (Nat → Int32) × (Nat → Int32) × Int32 × (Nat → Int32) × (Nat → Int32) × (Nat → Int32) × (Nat → Int32) × (Nat → Int32) × (Nat → Int32) × (Nat → Int32) × Int32 × Int32 × Int32 × Int32 × Int32 × Int32) :=
  (fX10_isIn fuel p1 0 1).bind fun o_1 =>
  if o_1 = 0 then (
    some ((-1), M_coming, M_comingMany, M_going, M_goingMany, M_minute, M_pile, M_high, M_where, M_latest, M_lifts, M_begun, M_left, M_has, M_lifted, M_taken, M_above, M_allLifts, M_busy, M_worst, M_best, M_orders, M_together))
  else (
    if M_guests ≤ 5 then (
      (fX10_allOrders fuel M_guests M_kind M_figure M_told M_heaps M_holds M_back M_mistakes M_hooks M_letters M_rule M_coming M_comingMany M_going M_goingMany M_minute M_pile M_high M_where M_latest M_lifts M_begun M_left M_has M_lifted M_taken M_above M_allLifts M_busy M_worst M_best M_orders M_together).bind fun o_4 =>
      if p1 = 0 then (
        some (o_4.2.2.2.2.2.2.2.2.2.2.2.2.2.2.2.2.2.2.1, o_4.1, o_4.2.1, o_4.2.2.1, o_4.2.2.2.1, o_4.2.2.2.2.1, o_4.2.2.2.2.2.1, o_4.2.2.2.2.2.2.1, o_4.2.2.2.2.2.2.2.1, o_4.2.2.2.2.2.2.2.2.1, o_4.2.2.2.2.2.2.2.2.2.1, o_4.2.2.2.2.2.2.2.2.2.2.1, o_4.2.2.2.2.2.2.2.2.2.2.2.1, o_4.2.2.2.2.2.2.2.2.2.2.2.2.1, o_4.2.2.2.2.2.2.2.2.2.2.2.2.2.1, o_4.2.2.2.2.2.2.2.2.2.2.2.2.2.2.1, o_4.2.2.2.2.2.2.2.2.2.2.2.2.2.2.2.1, o_4.2.2.2.2.2.2.2.2.2.2.2.2.2.2.2.2.1, o_4.2.2.2.2.2.2.2.2.2.2.2.2.2.2.2.2.2.1, o_4.2.2.2.2.2.2.2.2.2.2.2.2.2.2.2.2.2.2.1, o_4.2.2.2.2.2.2.2.2.2.2.2.2.2.2.2.2.2.2.2.1, o_4.2.2.2.2.2.2.2.2.2.2.2.2.2.2.2.2.2.2.2.2.1, o_4.2.2.2.2.2.2.2.2.2.2.2.2.2.2.2.2.2.2.2.2.2))
      else (
        some (o_4.2.2.2.2.2.2.2.2.2.2.2.2.2.2.2.2.2.2.2.1, o_4.1, o_4.2.1, o_4.2.2.1, o_4.2.2.2.1, o_4.2.2.2.2.1, o_4.2.2.2.2.2.1, o_4.2.2.2.2.2.2.1, o_4.2.2.2.2.2.2.2.1, o_4.2.2.2.2.2.2.2.2.1, o_4.2.2.2.2.2.2.2.2.2.1, o_4.2.2.2.2.2.2.2.2.2.2.1, o_4.2.2.2.2.2.2.2.2.2.2.2.1, o_4.2.2.2.2.2.2.2.2.2.2.2.2.1, o_4.2.2.2.2.2.2.2.2.2.2.2.2.2.1, o_4.2.2.2.2.2.2.2.2.2.2.2.2.2.2.1, o_4.2.2.2.2.2.2.2.2.2.2.2.2.2.2.2.1, o_4.2.2.2.2.2.2.2.2.2.2.2.2.2.2.2.2.1, o_4.2.2.2.2.2.2.2.2.2.2.2.2.2.2.2.2.2.1, o_4.2.2.2.2.2.2.2.2.2.2.2.2.2.2.2.2.2.2.1, o_4.2.2.2.2.2.2.2.2.2.2.2.2.2.2.2.2.2.2.2.1, o_4.2.2.2.2.2.2.2.2.2.2.2.2.2.2.2.2.2.2.2.2.1, o_4.2.2.2.2.2.2.2.2.2.2.2.2.2.2.2.2.2.2.2.2.2)))
    else (
      some ((-3), M_coming, M_comingMany, M_going, M_goingMany, M_minute, M_pile, M_high, M_where, M_latest, M_lifts, M_begun, M_left, M_has, M_lifted, M_taken, M_above, M_allLifts, M_busy, M_worst, M_best, M_orders, M_together)))
def fX10_byLetter (fuel : Nat) (M_guests : Int32) (M_kind : Nat → Int32) (M_figure : Nat → Int32) (M_told : Nat → Int32) (M_heaps : Int32) (M_holds : Int32) (M_back : Int32) (M_mistakes : Int32) (M_hooks : Int32) (M_letters : Int32) (M_rule : Nat → Int32) (M_coming : Nat → Int32) (M_comingMany : Int32) (M_going : Nat → Int32) (M_goingMany : Int32) (M_minute : Nat → Int32) (M_pile : Nat → Int32) (M_high : Nat → Int32) (M_where : Nat → Int32) (M_latest : Int32) (M_lifts : Nat → Int32) (M_begun : Nat → Int32) (M_left : Nat → Int32) (M_has : Nat → Int32) (M_lifted : Nat → Int32) (M_taken : Nat → Int32) (M_above : Nat → Int32) (M_allLifts : Int32) (M_busy : Int32) (p1 : Int32) : Option (Int32 × Int32 × (Nat → Int32) × (Nat → Int32) × Int32 × (Nat → Int32) × Int32 × (Nat → Int32) × (Nat → Int32) × (Nat → Int32) × (Nat → Int32) × Int32 × (Nat → Int32) × (Nat → Int32) × (Nat → Int32) × (Nat → Int32) × (Nat → Int32) × (Nat → Int32) × (Nat → Int32) × Int32 × Int32) :=
  zlet (M_rule 0) fun v3_1 =>
  zlet (upd M_rule 0 p1) fun M_rule_2 =>
  (fX10_night fuel M_guests M_kind M_figure M_told M_heaps M_holds M_back M_mistakes M_hooks 1 M_rule_2 M_coming M_comingMany M_going M_goingMany M_minute M_pile M_high M_where M_latest M_lifts M_begun M_left M_has M_lifted M_taken M_above M_allLifts M_busy).bind fun o_3 =>
  zlet (upd M_rule_2 0 v3_1) fun M_rule_4 =>
  some (o_3.1, M_letters, M_rule_4, o_3.2.1, o_3.2.2.1, o_3.2.2.2.1, o_3.2.2.2.2.1, o_3.2.2.2.2.2.1, o_3.2.2.2.2.2.2.1, o_3.2.2.2.2.2.2.2.1, o_3.2.2.2.2.2.2.2.2.1, o_3.2.2.2.2.2.2.2.2.2.1, o_3.2.2.2.2.2.2.2.2.2.2.1, o_3.2.2.2.2.2.2.2.2.2.2.2.1, o_3.2.2.2.2.2.2.2.2.2.2.2.2.1, o_3.2.2.2.2.2.2.2.2.2.2.2.2.2.1, o_3.2.2.2.2.2.2.2.2.2.2.2.2.2.2.1, o_3.2.2.2.2.2.2.2.2.2.2.2.2.2.2.2.1, o_3.2.2.2.2.2.2.2.2.2.2.2.2.2.2.2.2.1, o_3.2.2.2.2.2.2.2.2.2.2.2.2.2.2.2.2.2.1, o_3.2.2.2.2.2.2.2.2.2.2.2.2.2.2.2.2.2.2)
def fX10_rival (fuel : Nat) (M_guests : Int32) (M_kind : Nat → Int32) (M_figure : Nat → Int32) (M_told : Nat → Int32) (M_heaps : Int32) (M_holds : Int32) (M_back : Int32) (M_mistakes : Int32) (M_hooks : Int32) (M_letters : Int32) (M_rule : Nat → Int32) (M_coming : Nat → Int32) (M_comingMany : Int32) (M_going : Nat → Int32) (M_goingMany : Int32) (M_minute : Nat → Int32) (M_pile : Nat → Int32) (M_high : Nat → Int32) (M_where : Nat → Int32) (M_latest : Int32) (M_lifts : Nat → Int32) (M_begun : Nat → Int32) (M_left : Nat → Int32) (M_has : Nat → Int32) (M_lifted : Nat → Int32) (M_taken : Nat → Int32) (M_above : Nat → Int32) (M_allLifts : Int32) (M_busy : Int32) (p1 : Int32) : Option (Int32 × Int32 × (Nat → Int32) × (Nat → Int32) × Int32 × (Nat → Int32) × Int32 × (Nat → Int32) × (Nat → Int32) × (Nat → Int32) × (Nat → Int32) × Int32 × (Nat → Int32) × (Nat → Int32) × (Nat → Int32) × (Nat → Int32) × (Nat → Int32) × (Nat → Int32) × (Nat → Int32) × Int32 × Int32) :=
  (fX10_isIn fuel p1 0 5).bind fun o_1 =>
  if o_1 = 0 then (
    some ((-1), M_letters, M_rule, M_coming, M_comingMany, M_going, M_goingMany, M_minute, M_pile, M_high, M_where, M_latest, M_lifts, M_begun, M_left, M_has, M_lifted, M_taken, M_above, M_allLifts, M_busy))
  else (
    (fX10_byLetter fuel M_guests M_kind M_figure M_told M_heaps M_holds M_back M_mistakes M_hooks M_letters M_rule M_coming M_comingMany M_going M_goingMany M_minute M_pile M_high M_where M_latest M_lifts M_begun M_left M_has M_lifted M_taken M_above M_allLifts M_busy p1).bind fun o_3 =>
    some (o_3.1, o_3.2.1, o_3.2.2.1, o_3.2.2.2.1, o_3.2.2.2.2.1, o_3.2.2.2.2.2.1, o_3.2.2.2.2.2.2.1, o_3.2.2.2.2.2.2.2.1, o_3.2.2.2.2.2.2.2.2.1, o_3.2.2.2.2.2.2.2.2.2.1, o_3.2.2.2.2.2.2.2.2.2.2.1, o_3.2.2.2.2.2.2.2.2.2.2.2.1, o_3.2.2.2.2.2.2.2.2.2.2.2.2.1, o_3.2.2.2.2.2.2.2.2.2.2.2.2.2.1, o_3.2.2.2.2.2.2.2.2.2.2.2.2.2.2.1, o_3.2.2.2.2.2.2.2.2.2.2.2.2.2.2.2.1, o_3.2.2.2.2.2.2.2.2.2.2.2.2.2.2.2.2.1, o_3.2.2.2.2.2.2.2.2.2.2.2.2.2.2.2.2.2.1, o_3.2.2.2.2.2.2.2.2.2.2.2.2.2.2.2.2.2.2.1, o_3.2.2.2.2.2.2.2.2.2.2.2.2.2.2.2.2.2.2.2.1, o_3.2.2.2.2.2.2.2.2.2.2.2.2.2.2.2.2.2.2.2.2))
def fX10_bestRule_L4 (fuel : Nat) (M_guests : Int32) (M_kind : Nat → Int32) (M_figure : Nat → Int32) (M_told : Nat → Int32) (M_heaps : Int32) (M_holds : Int32) (M_back : Int32) (M_mistakes : Int32) (M_hooks : Int32) : Nat → Int32 → Int32 → Int32 → (Nat → Int32) → (Nat → Int32) → Int32 → (Nat → Int32) → Int32 → (Nat → Int32) → (Nat → Int32) → (Nat → Int32) → (Nat → Int32) → Int32 → (Nat → Int32) → (Nat → Int32) → (Nat → Int32) → (Nat → Int32) → (Nat → Int32) → (Nat → Int32) → (Nat → Int32) → Int32 → Int32 → Option (Int32 × Int32 × (Nat → Int32) × (Nat → Int32) × Int32 × (Nat → Int32) × Int32 × (Nat → Int32) × (Nat → Int32) × (Nat → Int32) × (Nat → Int32) × Int32 × (Nat → Int32) × (Nat → Int32) × (Nat → Int32) × (Nat → Int32) × (Nat → Int32) × (Nat → Int32) × (Nat → Int32) × Int32 × Int32)
  | 0, _, _, _, _, _, _, _, _, _, _, _, _, _, _, _, _, _, _, _, _, _, _ => none
  | n + 1, v1, v2, M_letters, M_rule, M_coming, M_comingMany, M_going, M_goingMany, M_minute, M_pile, M_high, M_where, M_latest, M_lifts, M_begun, M_left, M_has, M_lifted, M_taken, M_above, M_allLifts, M_busy =>
    if 6 ≤ v2 then (
      some (v1, M_letters, M_rule, M_coming, M_comingMany, M_going, M_goingMany, M_minute, M_pile, M_high, M_where, M_latest, M_lifts, M_begun, M_left, M_has, M_lifted, M_taken, M_above, M_allLifts, M_busy))
    else (
      (fX10_byLetter fuel M_guests M_kind M_figure M_told M_heaps M_holds M_back M_mistakes M_hooks M_letters M_rule M_coming M_comingMany M_going M_goingMany M_minute M_pile M_high M_where M_latest M_lifts M_begun M_left M_has M_lifted M_taken M_above M_allLifts M_busy v2).bind fun o_2 =>
      (fX10_byLetter fuel M_guests M_kind M_figure M_told M_heaps M_holds M_back M_mistakes M_hooks o_2.2.1 o_2.2.2.1 o_2.2.2.2.1 o_2.2.2.2.2.1 o_2.2.2.2.2.2.1 o_2.2.2.2.2.2.2.1 o_2.2.2.2.2.2.2.2.1 o_2.2.2.2.2.2.2.2.2.1 o_2.2.2.2.2.2.2.2.2.2.1 o_2.2.2.2.2.2.2.2.2.2.2.1 o_2.2.2.2.2.2.2.2.2.2.2.2.1 o_2.2.2.2.2.2.2.2.2.2.2.2.2.1 o_2.2.2.2.2.2.2.2.2.2.2.2.2.2.1 o_2.2.2.2.2.2.2.2.2.2.2.2.2.2.2.1 o_2.2.2.2.2.2.2.2.2.2.2.2.2.2.2.2.1 o_2.2.2.2.2.2.2.2.2.2.2.2.2.2.2.2.2.1 o_2.2.2.2.2.2.2.2.2.2.2.2.2.2.2.2.2.2.1 o_2.2.2.2.2.2.2.2.2.2.2.2.2.2.2.2.2.2.2.1 o_2.2.2.2.2.2.2.2.2.2.2.2.2.2.2.2.2.2.2.2.1 o_2.2.2.2.2.2.2.2.2.2.2.2.2.2.2.2.2.2.2.2.2 v1).bind fun o_3 =>
      if o_3.1 ≤ o_2.1 then (
        zlet (v2 + 1) fun v2_5 =>
        fX10_bestRule_L4 fuel M_guests M_kind M_figure M_told M_heaps M_holds M_back M_mistakes M_hooks n v1 v2_5 o_3.2.1 o_3.2.2.1 o_3.2.2.2.1 o_3.2.2.2.2.1 o_3.2.2.2.2.2.1 o_3.2.2.2.2.2.2.1 o_3.2.2.2.2.2.2.2.1 o_3.2.2.2.2.2.2.2.2.1 o_3.2.2.2.2.2.2.2.2.2.1 o_3.2.2.2.2.2.2.2.2.2.2.1 o_3.2.2.2.2.2.2.2.2.2.2.2.1 o_3.2.2.2.2.2.2.2.2.2.2.2.2.1 o_3.2.2.2.2.2.2.2.2.2.2.2.2.2.1 o_3.2.2.2.2.2.2.2.2.2.2.2.2.2.2.1 o_3.2.2.2.2.2.2.2.2.2.2.2.2.2.2.2.1 o_3.2.2.2.2.2.2.2.2.2.2.2.2.2.2.2.2.1 o_3.2.2.2.2.2.2.2.2.2.2.2.2.2.2.2.2.2.1 o_3.2.2.2.2.2.2.2.2.2.2.2.2.2.2.2.2.2.2.1 o_3.2.2.2.2.2.2.2.2.2.2.2.2.2.2.2.2.2.2.2.1 o_3.2.2.2.2.2.2.2.2.2.2.2.2.2.2.2.2.2.2.2.2)
      else (
        zlet (v2 + 1) fun v2_6 =>
        fX10_bestRule_L4 fuel M_guests M_kind M_figure M_told M_heaps M_holds M_back M_mistakes M_hooks n v2 v2_6 o_3.2.1 o_3.2.2.1 o_3.2.2.2.1 o_3.2.2.2.2.1 o_3.2.2.2.2.2.1 o_3.2.2.2.2.2.2.1 o_3.2.2.2.2.2.2.2.1 o_3.2.2.2.2.2.2.2.2.1 o_3.2.2.2.2.2.2.2.2.2.1 o_3.2.2.2.2.2.2.2.2.2.2.1 o_3.2.2.2.2.2.2.2.2.2.2.2.1 o_3.2.2.2.2.2.2.2.2.2.2.2.2.1 o_3.2.2.2.2.2.2.2.2.2.2.2.2.2.1 o_3.2.2.2.2.2.2.2.2.2.2.2.2.2.2.1 o_3.2.2.2.2.2.2.2.2.2.2.2.2.2.2.2.1 o_3.2.2.2.2.2.2.2.2.2.2.2.2.2.2.2.2.1 o_3.2.2.2.2.2.2.2.2.2.2.2.2.2.2.2.2.2.1 o_3.2.2.2.2.2.2.2.2.2.2.2.2.2.2.2.2.2.2.1 o_3.2.2.2.2.2.2.2.2.2.2.2.2.2.2.2.2.2.2.2.1 o_3.2.2.2.2.2.2.2.2.2.2.2.2.2.2.2.2.2.2.2.2))
def fX10_bestRule (fuel : Nat) (M_guests : Int32) (M_kind : Nat → Int32) (M_figure : Nat → Int32) (M_told : Nat → Int32) (M_heaps : Int32) (M_holds : Int32) (M_back : Int32) (M_mistakes : Int32) (M_hooks : Int32) (M_letters : Int32) (M_rule : Nat → Int32) (M_coming : Nat → Int32) (M_comingMany : Int32) (M_going : Nat → Int32) (M_goingMany : Int32) (M_minute : Nat → Int32) (M_pile : Nat → Int32) (M_high : Nat → Int32) (M_where : Nat → Int32) (M_latest : Int32) (M_lifts : Nat → Int32) (M_begun : Nat → Int32) (M_left : Nat → Int32) (M_has : Nat → Int32) (M_lifted : Nat → Int32) (M_taken : Nat → Int32) (M_above : Nat → Int32) (M_allLifts : Int32) (M_busy : Int32) : Option (Int32 × Int32 × (Nat → Int32) × (Nat → Int32) × Int32 × (Nat → Int32) × Int32 × (Nat → Int32) × (Nat → Int32) × (Nat → Int32) × (Nat → Int32) × Int32 × (Nat → Int32) × (Nat → Int32) × (Nat → Int32) × (Nat → Int32) × (Nat → Int32) × (Nat → Int32) × (Nat → Int32) × Int32 × Int32) :=
  fX10_bestRule_L4 fuel M_guests M_kind M_figure M_told M_heaps M_holds M_back M_mistakes M_hooks fuel 0 1 M_letters M_rule M_coming M_comingMany M_going M_goingMany M_minute M_pile M_high M_where M_latest M_lifts M_begun M_left M_has M_lifted M_taken M_above M_allLifts M_busy
def fX10_whose_J82 (k27 : Int32 → Int32 → Int32 → (Nat → Int32) → Int32 → (Nat → Int32) → Int32 → (Nat → Int32) → (Nat → Int32) → (Nat → Int32) → (Nat → Int32) → Int32 → (Nat → Int32) → (Nat → Int32) → (Nat → Int32) → (Nat → Int32) → (Nat → Int32) → (Nat → Int32) → (Nat → Int32) → Int32 → Int32 → Option (Int32 × (Nat → Int32) × Int32 × (Nat → Int32) × Int32 × (Nat → Int32) × (Nat → Int32) × (Nat → Int32) × (Nat → Int32) × Int32 × (Nat → Int32) × (Nat → Int32) × (Nat → Int32) × (Nat → Int32) × (Nat → Int32) × (Nat → Int32) × (Nat → Int32) × Int32 × Int32)) (v2 : Int32) (v3 : Int32) (v4 : Int32) (M_coming : Nat → Int32) (M_comingMany : Int32) (M_going : Nat → Int32) (M_goingMany : Int32) (M_minute : Nat → Int32) (M_pile : Nat → Int32) (M_high : Nat → Int32) (M_where : Nat → Int32) (M_latest : Int32) (M_lifts : Nat → Int32) (M_begun : Nat → Int32) (M_left : Nat → Int32) (M_has : Nat → Int32) (M_lifted : Nat → Int32) (M_taken : Nat → Int32) (M_above : Nat → Int32) (M_allLifts : Int32) (M_busy : Int32) : Option (Int32 × (Nat → Int32) × Int32 × (Nat → Int32) × Int32 × (Nat → Int32) × (Nat → Int32) × (Nat → Int32) × (Nat → Int32) × Int32 × (Nat → Int32) × (Nat → Int32) × (Nat → Int32) × (Nat → Int32) × (Nat → Int32) × (Nat → Int32) × (Nat → Int32) × Int32 × Int32) :=
  zlet (v4 + 1) fun v4_16 =>
  k27 v2 v3 v4_16 M_coming M_comingMany M_going M_goingMany M_minute M_pile M_high M_where M_latest M_lifts M_begun M_left M_has M_lifted M_taken M_above M_allLifts M_busy
def fX10_whose_L27 (fuel : Nat) (M_guests : Int32) (M_kind : Nat → Int32) (M_figure : Nat → Int32) (M_told : Nat → Int32) (M_heaps : Int32) (M_holds : Int32) (M_back : Int32) (M_mistakes : Int32) (M_hooks : Int32) (M_letters : Int32) (M_rule : Nat → Int32) (p1 : Int32) : Nat → Int32 → Int32 → Int32 → (Nat → Int32) → Int32 → (Nat → Int32) → Int32 → (Nat → Int32) → (Nat → Int32) → (Nat → Int32) → (Nat → Int32) → Int32 → (Nat → Int32) → (Nat → Int32) → (Nat → Int32) → (Nat → Int32) → (Nat → Int32) → (Nat → Int32) → (Nat → Int32) → Int32 → Int32 → Option (Int32 × (Nat → Int32) × Int32 × (Nat → Int32) × Int32 × (Nat → Int32) × (Nat → Int32) × (Nat → Int32) × (Nat → Int32) × Int32 × (Nat → Int32) × (Nat → Int32) × (Nat → Int32) × (Nat → Int32) × (Nat → Int32) × (Nat → Int32) × (Nat → Int32) × Int32 × Int32)
  | 0, _, _, _, _, _, _, _, _, _, _, _, _, _, _, _, _, _, _, _, _, _ => none
  | n + 1, v2, v3, v4, M_coming, M_comingMany, M_going, M_goingMany, M_minute, M_pile, M_high, M_where, M_latest, M_lifts, M_begun, M_left, M_has, M_lifted, M_taken, M_above, M_allLifts, M_busy =>
    if M_guests ≤ v4 then (
      some (v3, M_coming, M_comingMany, M_going, M_goingMany, M_minute, M_pile, M_high, M_where, M_latest, M_lifts, M_begun, M_left, M_has, M_lifted, M_taken, M_above, M_allLifts, M_busy))
    else (
      if v4 = p1 then (
        fX10_whose_J82 (fX10_whose_L27 fuel M_guests M_kind M_figure M_told M_heaps M_holds M_back M_mistakes M_hooks M_letters M_rule p1 n) v2 v3 v4 M_coming M_comingMany M_going M_goingMany M_minute M_pile M_high M_where M_latest M_lifts M_begun M_left M_has M_lifted M_taken M_above M_allLifts M_busy)
      else (
        (fX10_minutesAsTold fuel M_guests M_kind M_figure M_told M_minute).bind fun o_8 =>
        (fX10_allCome fuel M_guests M_coming M_comingMany v4).bind fun o_9 =>
        (fX10_allGo fuel o_9.1 o_9.2 M_going M_goingMany o_8).bind fun o_10 =>
        (fX10_layAndGo fuel M_guests M_kind M_figure M_heaps M_holds M_back M_mistakes M_hooks M_letters M_rule o_9.1 o_9.2 o_10.1 o_10.2 o_8 M_pile M_high M_where M_latest M_lifts M_begun M_left M_has M_lifted M_taken M_above M_allLifts M_busy).bind fun o_11 =>
        zg (zin p1 10) <|
        if v2 ≤ (o_11.2.2.2.2.2.1 p1.toNatClampNeg) then (
          zlet (v3 ||| 0) fun v3_14 =>
          fX10_whose_J82 (fX10_whose_L27 fuel M_guests M_kind M_figure M_told M_heaps M_holds M_back M_mistakes M_hooks M_letters M_rule p1 n) v2 v3_14 v4 o_9.1 o_9.2 o_10.1 o_10.2 o_8 o_11.2.1 o_11.2.2.1 o_11.2.2.2.1 o_11.2.2.2.2.1 o_11.2.2.2.2.2.1 o_11.2.2.2.2.2.2.1 o_11.2.2.2.2.2.2.2.1 o_11.2.2.2.2.2.2.2.2.1 o_11.2.2.2.2.2.2.2.2.2.1 o_11.2.2.2.2.2.2.2.2.2.2.1 o_11.2.2.2.2.2.2.2.2.2.2.2.1 o_11.2.2.2.2.2.2.2.2.2.2.2.2.1 o_11.2.2.2.2.2.2.2.2.2.2.2.2.2)
        else (
          zlet ((v3 ||| (((1 : Int32) <<< (v4 &&& 31))))) fun v3_15 =>
          fX10_whose_J82 (fX10_whose_L27 fuel M_guests M_kind M_figure M_told M_heaps M_holds M_back M_mistakes M_hooks M_letters M_rule p1 n) v2 v3_15 v4 o_9.1 o_9.2 o_10.1 o_10.2 o_8 o_11.2.1 o_11.2.2.1 o_11.2.2.2.1 o_11.2.2.2.2.1 o_11.2.2.2.2.2.1 o_11.2.2.2.2.2.2.1 o_11.2.2.2.2.2.2.2.1 o_11.2.2.2.2.2.2.2.2.1 o_11.2.2.2.2.2.2.2.2.2.1 o_11.2.2.2.2.2.2.2.2.2.2.1 o_11.2.2.2.2.2.2.2.2.2.2.2.1 o_11.2.2.2.2.2.2.2.2.2.2.2.2.1 o_11.2.2.2.2.2.2.2.2.2.2.2.2.2)))
def fX10_whose (fuel : Nat) (M_guests : Int32) (M_kind : Nat → Int32) (M_figure : Nat → Int32) (M_told : Nat → Int32) (M_heaps : Int32) (M_holds : Int32) (M_back : Int32) (M_mistakes : Int32) (M_hooks : Int32) (M_letters : Int32) (M_rule : Nat → Int32) (M_coming : Nat → Int32) (M_comingMany : Int32) (M_going : Nat → Int32) (M_goingMany : Int32) (M_minute : Nat → Int32) (M_pile : Nat → Int32) (M_high : Nat → Int32) (M_where : Nat → Int32) (M_latest : Int32) (M_lifts : Nat → Int32) (M_begun : Nat → Int32) (M_left : Nat → Int32) (M_has : Nat → Int32) (M_lifted : Nat → Int32) (M_taken : Nat → Int32) (M_above : Nat → Int32) (M_allLifts : Int32) (M_busy : Int32) (p1 : Int32) : Option (Int32 × (Nat → Int32) × Int32 × (Nat → Int32) × Int32 × (Nat → Int32) × (Nat → Int32) × (Nat → Int32) × (Nat → Int32) × Int32 × (Nat → Int32) × (Nat → Int32) × (Nat → Int32) × (Nat → Int32) × (Nat → Int32) × (Nat → Int32) × (Nat → Int32) × Int32 × Int32) :=
  (fX10_isGuest fuel M_guests p1).bind fun o_1 =>
  if o_1 = 0 then (
    some ((-1), M_coming, M_comingMany, M_going, M_goingMany, M_minute, M_pile, M_high, M_where, M_latest, M_lifts, M_begun, M_left, M_has, M_lifted, M_taken, M_above, M_allLifts, M_busy))
  else (
    (fX10_night fuel M_guests M_kind M_figure M_told M_heaps M_holds M_back M_mistakes M_hooks M_letters M_rule M_coming M_comingMany M_going M_goingMany M_minute M_pile M_high M_where M_latest M_lifts M_begun M_left M_has M_lifted M_taken M_above M_allLifts M_busy).bind fun o_3 =>
    zg (zin p1 10) <|
    zlet (o_3.2.2.2.2.2.2.2.2.2.2.1 p1.toNatClampNeg) fun v2_5 =>
    fX10_whose_L27 fuel M_guests M_kind M_figure M_told M_heaps M_holds M_back M_mistakes M_hooks M_letters M_rule p1 fuel v2_5 0 0 o_3.2.1 o_3.2.2.1 o_3.2.2.2.1 o_3.2.2.2.2.1 o_3.2.2.2.2.2.1 o_3.2.2.2.2.2.2.1 o_3.2.2.2.2.2.2.2.1 o_3.2.2.2.2.2.2.2.2.1 o_3.2.2.2.2.2.2.2.2.2.1 o_3.2.2.2.2.2.2.2.2.2.2.1 o_3.2.2.2.2.2.2.2.2.2.2.2.1 o_3.2.2.2.2.2.2.2.2.2.2.2.2.1 o_3.2.2.2.2.2.2.2.2.2.2.2.2.2.1 o_3.2.2.2.2.2.2.2.2.2.2.2.2.2.2.1 o_3.2.2.2.2.2.2.2.2.2.2.2.2.2.2.2.1 o_3.2.2.2.2.2.2.2.2.2.2.2.2.2.2.2.2.1 o_3.2.2.2.2.2.2.2.2.2.2.2.2.2.2.2.2.2.1 o_3.2.2.2.2.2.2.2.2.2.2.2.2.2.2.2.2.2.2)
def fX10_two_J218 (k147 : Int32 → (Nat → Int32) → Int32 → (Nat → Int32) → Int32 → (Nat → Int32) → (Nat → Int32) → (Nat → Int32) → (Nat → Int32) → Int32 → (Nat → Int32) → (Nat → Int32) → (Nat → Int32) → (Nat → Int32) → (Nat → Int32) → (Nat → Int32) → (Nat → Int32) → Int32 → Int32 → (Nat → Int32) → (Nat → Int32) → Option (Int32 × (Nat → Int32) × Int32 × (Nat → Int32) × Int32 × (Nat → Int32) × (Nat → Int32) × (Nat → Int32) × (Nat → Int32) × Int32 × (Nat → Int32) × (Nat → Int32) × (Nat → Int32) × (Nat → Int32) × (Nat → Int32) × (Nat → Int32) × (Nat → Int32) × Int32 × Int32 × (Nat → Int32) × (Nat → Int32))) (k159 : Int32 → Int32 → Int32 → (Nat → Int32) → Int32 → (Nat → Int32) → Int32 → (Nat → Int32) → (Nat → Int32) → (Nat → Int32) → (Nat → Int32) → Int32 → (Nat → Int32) → (Nat → Int32) → (Nat → Int32) → (Nat → Int32) → (Nat → Int32) → (Nat → Int32) → (Nat → Int32) → Int32 → Int32 → (Nat → Int32) → (Nat → Int32) → Option (Int32 × (Nat → Int32) × Int32 × (Nat → Int32) × Int32 × (Nat → Int32) × (Nat → Int32) × (Nat → Int32) × (Nat → Int32) × Int32 × (Nat → Int32) × (Nat → Int32) × (Nat → Int32) × (Nat → Int32) × (Nat → Int32) × (Nat → Int32) × (Nat → Int32) × Int32 × Int32 × (Nat → Int32) × (Nat → Int32))) (v3 : Int32) (v5 : Int32) (M_coming : Nat → Int32) (M_comingMany : Int32) (M_going : Nat → Int32) (M_goingMany : Int32) (M_minute : Nat → Int32) (M_pile : Nat → Int32) (M_high : Nat → Int32) (M_where : Nat → Int32) (M_latest : Int32) (M_lifts : Nat → Int32) (M_begun : Nat → Int32) (M_left : Nat → Int32) (M_has : Nat → Int32) (M_lifted : Nat → Int32) (M_taken : Nat → Int32) (M_above : Nat → Int32) (M_allLifts : Int32) (M_busy : Int32) (M_ofOne : Nat → Int32) (M_ofOther : Nat → Int32) : Option (Int32 × (Nat → Int32) × Int32 × (Nat → Int32) × Int32 × (Nat → Int32) × (Nat → Int32) × (Nat → Int32) × (Nat → Int32) × Int32 × (Nat → Int32) × (Nat → Int32) × (Nat → Int32) × (Nat → Int32) × (Nat → Int32) × (Nat → Int32) × (Nat → Int32) × Int32 × Int32 × (Nat → Int32) × (Nat → Int32)) :=
  zlet (v5 + 1) fun v5_33 =>
  k159 v3 0 v5_33 M_coming M_comingMany M_going M_goingMany M_minute M_pile M_high M_where M_latest M_lifts M_begun M_left M_has M_lifted M_taken M_above M_allLifts M_busy M_ofOne M_ofOther
def fX10_two_J232 (v3 : Int32) (M_coming : Nat → Int32) (M_comingMany : Int32) (M_going : Nat → Int32) (M_goingMany : Int32) (M_minute : Nat → Int32) (M_pile : Nat → Int32) (M_high : Nat → Int32) (M_where : Nat → Int32) (M_latest : Int32) (M_lifts : Nat → Int32) (M_begun : Nat → Int32) (M_left : Nat → Int32) (M_has : Nat → Int32) (M_lifted : Nat → Int32) (M_taken : Nat → Int32) (M_above : Nat → Int32) (M_allLifts : Int32) (M_busy : Int32) (M_ofOne : Nat → Int32) (M_ofOther : Nat → Int32) : Option (Int32 × (Nat → Int32) × Int32 × (Nat → Int32) × Int32 × (Nat → Int32) × (Nat → Int32) × (Nat → Int32) × (Nat → Int32) × Int32 × (Nat → Int32) × (Nat → Int32) × (Nat → Int32) × (Nat → Int32) × (Nat → Int32) × (Nat → Int32) × (Nat → Int32) × Int32 × Int32 × (Nat → Int32) × (Nat → Int32)) :=
  some ((((10 * (v3 / 3))) + (v3 - v3 / 3 * 3)), M_coming, M_comingMany, M_going, M_goingMany, M_minute, M_pile, M_high, M_where, M_latest, M_lifts, M_begun, M_left, M_has, M_lifted, M_taken, M_above, M_allLifts, M_busy, M_ofOne, M_ofOther)
def fX10_two_J227 (k147 : Int32 → (Nat → Int32) → Int32 → (Nat → Int32) → Int32 → (Nat → Int32) → (Nat → Int32) → (Nat → Int32) → (Nat → Int32) → Int32 → (Nat → Int32) → (Nat → Int32) → (Nat → Int32) → (Nat → Int32) → (Nat → Int32) → (Nat → Int32) → (Nat → Int32) → Int32 → Int32 → (Nat → Int32) → (Nat → Int32) → Option (Int32 × (Nat → Int32) × Int32 × (Nat → Int32) × Int32 × (Nat → Int32) × (Nat → Int32) × (Nat → Int32) × (Nat → Int32) × Int32 × (Nat → Int32) × (Nat → Int32) × (Nat → Int32) × (Nat → Int32) × (Nat → Int32) × (Nat → Int32) × (Nat → Int32) × Int32 × Int32 × (Nat → Int32) × (Nat → Int32))) (v3 : Int32) (v4 : Int32) (M_coming : Nat → Int32) (M_comingMany : Int32) (M_going : Nat → Int32) (M_goingMany : Int32) (M_minute : Nat → Int32) (M_pile : Nat → Int32) (M_high : Nat → Int32) (M_where : Nat → Int32) (M_latest : Int32) (M_lifts : Nat → Int32) (M_begun : Nat → Int32) (M_left : Nat → Int32) (M_has : Nat → Int32) (M_lifted : Nat → Int32) (M_taken : Nat → Int32) (M_above : Nat → Int32) (M_allLifts : Int32) (M_busy : Int32) (M_ofOne : Nat → Int32) (M_ofOther : Nat → Int32) : Option (Int32 × (Nat → Int32) × Int32 × (Nat → Int32) × Int32 × (Nat → Int32) × (Nat → Int32) × (Nat → Int32) × (Nat → Int32) × Int32 × (Nat → Int32) × (Nat → Int32) × (Nat → Int32) × (Nat → Int32) × (Nat → Int32) × (Nat → Int32) × (Nat → Int32) × Int32 × Int32 × (Nat → Int32) × (Nat → Int32)) :=
  if v4 = 0 then (
    zlet (v3 + 1) fun v3_32 =>
    k147 v3_32 M_coming M_comingMany M_going M_goingMany M_minute M_pile M_high M_where M_latest M_lifts M_begun M_left M_has M_lifted M_taken M_above M_allLifts M_busy M_ofOne M_ofOther)
  else (
    fX10_two_J232 v3 M_coming M_comingMany M_going M_goingMany M_minute M_pile M_high M_where M_latest M_lifts M_begun M_left M_has M_lifted M_taken M_above M_allLifts M_busy M_ofOne M_ofOther)
def fX10_two_L159 (k147 : Int32 → (Nat → Int32) → Int32 → (Nat → Int32) → Int32 → (Nat → Int32) → (Nat → Int32) → (Nat → Int32) → (Nat → Int32) → Int32 → (Nat → Int32) → (Nat → Int32) → (Nat → Int32) → (Nat → Int32) → (Nat → Int32) → (Nat → Int32) → (Nat → Int32) → Int32 → Int32 → (Nat → Int32) → (Nat → Int32) → Option (Int32 × (Nat → Int32) × Int32 × (Nat → Int32) × Int32 × (Nat → Int32) × (Nat → Int32) × (Nat → Int32) × (Nat → Int32) × Int32 × (Nat → Int32) × (Nat → Int32) × (Nat → Int32) × (Nat → Int32) × (Nat → Int32) × (Nat → Int32) × (Nat → Int32) × Int32 × Int32 × (Nat → Int32) × (Nat → Int32))) : Nat → Int32 → Int32 → Int32 → (Nat → Int32) → Int32 → (Nat → Int32) → Int32 → (Nat → Int32) → (Nat → Int32) → (Nat → Int32) → (Nat → Int32) → Int32 → (Nat → Int32) → (Nat → Int32) → (Nat → Int32) → (Nat → Int32) → (Nat → Int32) → (Nat → Int32) → (Nat → Int32) → Int32 → Int32 → (Nat → Int32) → (Nat → Int32) → Option (Int32 × (Nat → Int32) × Int32 × (Nat → Int32) × Int32 × (Nat → Int32) × (Nat → Int32) × (Nat → Int32) × (Nat → Int32) × Int32 × (Nat → Int32) × (Nat → Int32) × (Nat → Int32) × (Nat → Int32) × (Nat → Int32) × (Nat → Int32) × (Nat → Int32) × Int32 × Int32 × (Nat → Int32) × (Nat → Int32))
  | 0, _, _, _, _, _, _, _, _, _, _, _, _, _, _, _, _, _, _, _, _, _, _, _ => none
  | n + 1, v3, v4, v5, M_coming, M_comingMany, M_going, M_goingMany, M_minute, M_pile, M_high, M_where, M_latest, M_lifts, M_begun, M_left, M_has, M_lifted, M_taken, M_above, M_allLifts, M_busy, M_ofOne, M_ofOther =>
    if 3 ≤ v5 then (
      fX10_two_J227 k147 v3 v4 M_coming M_comingMany M_going M_goingMany M_minute M_pile M_high M_where M_latest M_lifts M_begun M_left M_has M_lifted M_taken M_above M_allLifts M_busy M_ofOne M_ofOther)
    else (
      if v4 = 0 then (
        fX10_two_J218 k147 (fX10_two_L159 k147 n) v3 v5 M_coming M_comingMany M_going M_goingMany M_minute M_pile M_high M_where M_latest M_lifts M_begun M_left M_has M_lifted M_taken M_above M_allLifts M_busy M_ofOne M_ofOther)
      else (
        zg (zin (((3 * v5) + (v3 - v3 / 3 * 3))) 9) <|
        zg (zin v3 9) <|
        if ((M_ofOne (((3 * v5) + (v3 - v3 / 3 * 3))).toNatClampNeg)) < (M_ofOne v3.toNatClampNeg) then (
          fX10_two_J218 k147 (fX10_two_L159 k147 n) v3 v5 M_coming M_comingMany M_going M_goingMany M_minute M_pile M_high M_where M_latest M_lifts M_begun M_left M_has M_lifted M_taken M_above M_allLifts M_busy M_ofOne M_ofOther)
        else (
          zg (zin (((((v3 / 3) * 3)) + v5)) 9) <|
          if ((M_ofOther (((((v3 / 3) * 3)) + v5)).toNatClampNeg)) < (M_ofOther v3.toNatClampNeg) then (
            fX10_two_J218 k147 (fX10_two_L159 k147 n) v3 v5 M_coming M_comingMany M_going M_goingMany M_minute M_pile M_high M_where M_latest M_lifts M_begun M_left M_has M_lifted M_taken M_above M_allLifts M_busy M_ofOne M_ofOther)
          else (
            zlet (v5 + 1) fun v5_30 =>
            fX10_two_L159 k147 n v3 1 v5_30 M_coming M_comingMany M_going M_goingMany M_minute M_pile M_high M_where M_latest M_lifts M_begun M_left M_has M_lifted M_taken M_above M_allLifts M_busy M_ofOne M_ofOther))))
def fX10_two_L147 (fuel : Nat) : Nat → Int32 → (Nat → Int32) → Int32 → (Nat → Int32) → Int32 → (Nat → Int32) → (Nat → Int32) → (Nat → Int32) → (Nat → Int32) → Int32 → (Nat → Int32) → (Nat → Int32) → (Nat → Int32) → (Nat → Int32) → (Nat → Int32) → (Nat → Int32) → (Nat → Int32) → Int32 → Int32 → (Nat → Int32) → (Nat → Int32) → Option (Int32 × (Nat → Int32) × Int32 × (Nat → Int32) × Int32 × (Nat → Int32) × (Nat → Int32) × (Nat → Int32) × (Nat → Int32) × Int32 × (Nat → Int32) × (Nat → Int32) × (Nat → Int32) × (Nat → Int32) × (Nat → Int32) × (Nat → Int32) × (Nat → Int32) × Int32 × Int32 × (Nat → Int32) × (Nat → Int32))
  | 0, _, _, _, _, _, _, _, _, _, _, _, _, _, _, _, _, _, _, _, _, _ => none
  | n + 1, v3, M_coming, M_comingMany, M_going, M_goingMany, M_minute, M_pile, M_high, M_where, M_latest, M_lifts, M_begun, M_left, M_has, M_lifted, M_taken, M_above, M_allLifts, M_busy, M_ofOne, M_ofOther =>
    if 9 ≤ v3 then (
      some ((-4), M_coming, M_comingMany, M_going, M_goingMany, M_minute, M_pile, M_high, M_where, M_latest, M_lifts, M_begun, M_left, M_has, M_lifted, M_taken, M_above, M_allLifts, M_busy, M_ofOne, M_ofOther))
    else (
      fX10_two_L159 (fX10_two_L147 fuel n) fuel v3 1 0 M_coming M_comingMany M_going M_goingMany M_minute M_pile M_high M_where M_latest M_lifts M_begun M_left M_has M_lifted M_taken M_above M_allLifts M_busy M_ofOne M_ofOther)
def fX10_two_J145 (fuel : Nat) (M_coming : Nat → Int32) (M_comingMany : Int32) (M_going : Nat → Int32) (M_goingMany : Int32) (M_minute : Nat → Int32) (M_pile : Nat → Int32) (M_high : Nat → Int32) (M_where : Nat → Int32) (M_latest : Int32) (M_lifts : Nat → Int32) (M_begun : Nat → Int32) (M_left : Nat → Int32) (M_has : Nat → Int32) (M_lifted : Nat → Int32) (M_taken : Nat → Int32) (M_above : Nat → Int32) (M_allLifts : Int32) (M_busy : Int32) (M_ofOne : Nat → Int32) (M_ofOther : Nat → Int32) : Option (Int32 × (Nat → Int32) × Int32 × (Nat → Int32) × Int32 × (Nat → Int32) × (Nat → Int32) × (Nat → Int32) × (Nat → Int32) × Int32 × (Nat → Int32) × (Nat → Int32) × (Nat → Int32) × (Nat → Int32) × (Nat → Int32) × (Nat → Int32) × (Nat → Int32) × Int32 × Int32 × (Nat → Int32) × (Nat → Int32)) :=
  fX10_two_L147 fuel fuel 0 M_coming M_comingMany M_going M_goingMany M_minute M_pile M_high M_where M_latest M_lifts M_begun M_left M_has M_lifted M_taken M_above M_allLifts M_busy M_ofOne M_ofOther
def fX10_two_L25 (fuel : Nat) (M_guests : Int32) (M_kind : Nat → Int32) (M_figure : Nat → Int32) (M_told : Nat → Int32) (M_heaps : Int32) (M_holds : Int32) (M_back : Int32) (M_mistakes : Int32) (M_hooks : Int32) (M_letters : Int32) (M_rule : Nat → Int32) (p1 : Int32) (p2 : Int32) : Nat → Int32 → (Nat → Int32) → Int32 → (Nat → Int32) → Int32 → (Nat → Int32) → (Nat → Int32) → (Nat → Int32) → (Nat → Int32) → Int32 → (Nat → Int32) → (Nat → Int32) → (Nat → Int32) → (Nat → Int32) → (Nat → Int32) → (Nat → Int32) → (Nat → Int32) → Int32 → Int32 → (Nat → Int32) → (Nat → Int32) → Option (Int32 × (Nat → Int32) × Int32 × (Nat → Int32) × Int32 × (Nat → Int32) × (Nat → Int32) × (Nat → Int32) × (Nat → Int32) × Int32 × (Nat → Int32) × (Nat → Int32) × (Nat → Int32) × (Nat → Int32) × (Nat → Int32) × (Nat → Int32) × (Nat → Int32) × Int32 × Int32 × (Nat → Int32) × (Nat → Int32))
  | 0, _, _, _, _, _, _, _, _, _, _, _, _, _, _, _, _, _, _, _, _, _ => none
  | n + 1, v3, M_coming, M_comingMany, M_going, M_goingMany, M_minute, M_pile, M_high, M_where, M_latest, M_lifts, M_begun, M_left, M_has, M_lifted, M_taken, M_above, M_allLifts, M_busy, M_ofOne, M_ofOther =>
    if 9 ≤ v3 then (
      fX10_two_J145 fuel M_coming M_comingMany M_going M_goingMany M_minute M_pile M_high M_where M_latest M_lifts M_begun M_left M_has M_lifted M_taken M_above M_allLifts M_busy M_ofOne M_ofOther)
    else (
      (fX10_minutesAsTold fuel M_guests M_kind M_figure M_told M_minute).bind fun o_7 =>
      zg (zin p1 10) <|
      (fX10_goesBy fuel (M_kind p1.toNatClampNeg) (M_figure p1.toNatClampNeg) (((M_told p1.toNatClampNeg) + ((5 * (v3 / 3)))))).bind fun o_9 =>
      zlet (upd o_7 p1.toNatClampNeg o_9) fun M_minute_10 =>
      zg (zin p2 10) <|
      zlet (((M_told p2.toNatClampNeg) + ((5 * (v3 - v3 / 3 * 3))))) fun x_12 =>
      (fX10_goesBy fuel (M_kind p2.toNatClampNeg) (M_figure p2.toNatClampNeg) x_12).bind fun o_13 =>
      zlet (upd M_minute_10 p2.toNatClampNeg o_13) fun M_minute_14 =>
      (fX10_allCome fuel M_guests M_coming M_comingMany (-1)).bind fun o_15 =>
      (fX10_allGo fuel o_15.1 o_15.2 M_going M_goingMany M_minute_14).bind fun o_16 =>
      (fX10_layAndGo fuel M_guests M_kind M_figure M_heaps M_holds M_back M_mistakes M_hooks M_letters M_rule o_15.1 o_15.2 o_16.1 o_16.2 M_minute_14 M_pile M_high M_where M_latest M_lifts M_begun M_left M_has M_lifted M_taken M_above M_allLifts M_busy).bind fun o_17 =>
      zg (zin v3 9) <|
      zlet (upd M_ofOne v3.toNatClampNeg (o_17.2.2.2.2.2.1 p1.toNatClampNeg)) fun M_ofOne_19 =>
      zlet (upd M_ofOther v3.toNatClampNeg (o_17.2.2.2.2.2.1 p2.toNatClampNeg)) fun M_ofOther_20 =>
      zlet (v3 + 1) fun v3_21 =>
      fX10_two_L25 fuel M_guests M_kind M_figure M_told M_heaps M_holds M_back M_mistakes M_hooks M_letters M_rule p1 p2 n v3_21 o_15.1 o_15.2 o_16.1 o_16.2 M_minute_14 o_17.2.1 o_17.2.2.1 o_17.2.2.2.1 o_17.2.2.2.2.1 o_17.2.2.2.2.2.1 o_17.2.2.2.2.2.2.1 o_17.2.2.2.2.2.2.2.1 o_17.2.2.2.2.2.2.2.2.1 o_17.2.2.2.2.2.2.2.2.2.1 o_17.2.2.2.2.2.2.2.2.2.2.1 o_17.2.2.2.2.2.2.2.2.2.2.2.1 o_17.2.2.2.2.2.2.2.2.2.2.2.2.1 o_17.2.2.2.2.2.2.2.2.2.2.2.2.2 M_ofOne_19 M_ofOther_20)
def fX10_two (fuel : Nat) (M_guests : Int32) (M_kind : Nat → Int32) (M_figure : Nat → Int32) (M_told : Nat → Int32) (M_heaps : Int32) (M_holds : Int32) (M_back : Int32) (M_mistakes : Int32) (M_hooks : Int32) (M_letters : Int32) (M_rule : Nat → Int32) (M_coming : Nat → Int32) (M_comingMany : Int32) (M_going : Nat → Int32) (M_goingMany : Int32) (M_minute : Nat → Int32) (M_pile : Nat → Int32) (M_high : Nat → Int32) (M_where : Nat → Int32) (M_latest : Int32) (M_lifts : Nat → Int32) (M_begun : Nat → Int32) (M_left : Nat → Int32) (M_has : Nat → Int32) (M_lifted : Nat → Int32) (M_taken : Nat → Int32) (M_above : Nat → Int32) (M_allLifts : Int32) (M_busy : Int32) (M_ofOne : Nat → Int32) (M_ofOther : Nat → Int32) (p1 : Int32) (p2 : Int32) : Option (Int32 × (Nat → Int32) × Int32 × (Nat → Int32) × Int32 × (Nat → Int32) × (Nat → Int32) × (Nat → Int32) × (Nat → Int32) × Int32 × (Nat → Int32) × (Nat → Int32) × (Nat → Int32) × (Nat → Int32) × (Nat → Int32) × (Nat → Int32) × (Nat → Int32) × Int32 × Int32 × (Nat → Int32) × (Nat → Int32)) :=
  (fX10_isGuest fuel M_guests p1).bind fun o_1 =>
  if o_1 = 0 then (
    some ((-1), M_coming, M_comingMany, M_going, M_goingMany, M_minute, M_pile, M_high, M_where, M_latest, M_lifts, M_begun, M_left, M_has, M_lifted, M_taken, M_above, M_allLifts, M_busy, M_ofOne, M_ofOther))
  else (
    (fX10_isGuest fuel M_guests p2).bind fun o_3 =>
    if o_3 = 0 then (
      some ((-1), M_coming, M_comingMany, M_going, M_goingMany, M_minute, M_pile, M_high, M_where, M_latest, M_lifts, M_begun, M_left, M_has, M_lifted, M_taken, M_above, M_allLifts, M_busy, M_ofOne, M_ofOther))
    else (
      if p1 = p2 then (
        some ((-1), M_coming, M_comingMany, M_going, M_goingMany, M_minute, M_pile, M_high, M_where, M_latest, M_lifts, M_begun, M_left, M_has, M_lifted, M_taken, M_above, M_allLifts, M_busy, M_ofOne, M_ofOther))
      else (
        fX10_two_L25 fuel M_guests M_kind M_figure M_told M_heaps M_holds M_back M_mistakes M_hooks M_letters M_rule p1 p2 fuel 0 M_coming M_comingMany M_going M_goingMany M_minute M_pile M_high M_where M_latest M_lifts M_begun M_left M_has M_lifted M_taken M_above M_allLifts M_busy M_ofOne M_ofOther)))
def fX10_chain_J54 (p1 : Int32) (v2 : Int32) (v3 : Int32) (M_coming : Nat → Int32) (M_comingMany : Int32) (M_going : Nat → Int32) (M_goingMany : Int32) (M_minute : Nat → Int32) (M_pile : Nat → Int32) (M_high : Nat → Int32) (M_where : Nat → Int32) (M_latest : Int32) (M_lifts : Nat → Int32) (M_begun : Nat → Int32) (M_left : Nat → Int32) (M_has : Nat → Int32) (M_lifted : Nat → Int32) (M_taken : Nat → Int32) (M_above : Nat → Int32) (M_allLifts : Int32) (M_busy : Int32) : Option (Int32 × (Nat → Int32) × Int32 × (Nat → Int32) × Int32 × (Nat → Int32) × (Nat → Int32) × (Nat → Int32) × (Nat → Int32) × Int32 × (Nat → Int32) × (Nat → Int32) × (Nat → Int32) × (Nat → Int32) × (Nat → Int32) × (Nat → Int32) × (Nat → Int32) × Int32 × Int32) :=
  if v2 = p1 then (
    some (v3, M_coming, M_comingMany, M_going, M_goingMany, M_minute, M_pile, M_high, M_where, M_latest, M_lifts, M_begun, M_left, M_has, M_lifted, M_taken, M_above, M_allLifts, M_busy))
  else (
    some (0, M_coming, M_comingMany, M_going, M_goingMany, M_minute, M_pile, M_high, M_where, M_latest, M_lifts, M_begun, M_left, M_has, M_lifted, M_taken, M_above, M_allLifts, M_busy))
def fX10_chain_L24 (p1 : Int32) : Nat → Int32 → Int32 → (Nat → Int32) → Int32 → (Nat → Int32) → Int32 → (Nat → Int32) → (Nat → Int32) → (Nat → Int32) → (Nat → Int32) → Int32 → (Nat → Int32) → (Nat → Int32) → (Nat → Int32) → (Nat → Int32) → (Nat → Int32) → (Nat → Int32) → (Nat → Int32) → Int32 → Int32 → Option (Int32 × (Nat → Int32) × Int32 × (Nat → Int32) × Int32 × (Nat → Int32) × (Nat → Int32) × (Nat → Int32) × (Nat → Int32) × Int32 × (Nat → Int32) × (Nat → Int32) × (Nat → Int32) × (Nat → Int32) × (Nat → Int32) × (Nat → Int32) × (Nat → Int32) × Int32 × Int32)
  | 0, _, _, _, _, _, _, _, _, _, _, _, _, _, _, _, _, _, _, _, _ => none
  | n + 1, v2, v3, M_coming, M_comingMany, M_going, M_goingMany, M_minute, M_pile, M_high, M_where, M_latest, M_lifts, M_begun, M_left, M_has, M_lifted, M_taken, M_above, M_allLifts, M_busy =>
    if v2 = (-4) then (
      fX10_chain_J54 p1 v2 v3 M_coming M_comingMany M_going M_goingMany M_minute M_pile M_high M_where M_latest M_lifts M_begun M_left M_has M_lifted M_taken M_above M_allLifts M_busy)
    else (
      if v2 = p1 then (
        fX10_chain_J54 p1 v2 v3 M_coming M_comingMany M_going M_goingMany M_minute M_pile M_high M_where M_latest M_lifts M_begun M_left M_has M_lifted M_taken M_above M_allLifts M_busy)
      else (
        if 10 < v3 then (
          fX10_chain_J54 p1 v2 v3 M_coming M_comingMany M_going M_goingMany M_minute M_pile M_high M_where M_latest M_lifts M_begun M_left M_has M_lifted M_taken M_above M_allLifts M_busy)
        else (
          zg (zin v2 10) <|
          zlet (M_has v2.toNatClampNeg) fun v2_10 =>
          zlet (v3 + 1) fun v3_11 =>
          fX10_chain_L24 p1 n v2_10 v3_11 M_coming M_comingMany M_going M_goingMany M_minute M_pile M_high M_where M_latest M_lifts M_begun M_left M_has M_lifted M_taken M_above M_allLifts M_busy)))
def fX10_chain (fuel : Nat) (M_guests : Int32) (M_kind : Nat → Int32) (M_figure : Nat → Int32) (M_told : Nat → Int32) (M_heaps : Int32) (M_holds : Int32) (M_back : Int32) (M_mistakes : Int32) (M_hooks : Int32) (M_letters : Int32) (M_rule : Nat → Int32) (M_coming : Nat → Int32) (M_comingMany : Int32) (M_going : Nat → Int32) (M_goingMany : Int32) (M_minute : Nat → Int32) (M_pile : Nat → Int32) (M_high : Nat → Int32) (M_where : Nat → Int32) (M_latest : Int32) (M_lifts : Nat → Int32) (M_begun : Nat → Int32) (M_left : Nat → Int32) (M_has : Nat → Int32) (M_lifted : Nat → Int32) (M_taken : Nat → Int32) (M_above : Nat → Int32) (M_allLifts : Int32) (M_busy : Int32) (p1 : Int32) : Option (Int32 × (Nat → Int32) × Int32 × (Nat → Int32) × Int32 × (Nat → Int32) × (Nat → Int32) × (Nat → Int32) × (Nat → Int32) × Int32 × (Nat → Int32) × (Nat → Int32) × (Nat → Int32) × (Nat → Int32) × (Nat → Int32) × (Nat → Int32) × (Nat → Int32) × Int32 × Int32) :=
  (fX10_isGuest fuel M_guests p1).bind fun o_1 =>
  if o_1 = 0 then (
    some ((-1), M_coming, M_comingMany, M_going, M_goingMany, M_minute, M_pile, M_high, M_where, M_latest, M_lifts, M_begun, M_left, M_has, M_lifted, M_taken, M_above, M_allLifts, M_busy))
  else (
    (fX10_night fuel M_guests M_kind M_figure M_told M_heaps M_holds M_back M_mistakes M_hooks M_letters M_rule M_coming M_comingMany M_going M_goingMany M_minute M_pile M_high M_where M_latest M_lifts M_begun M_left M_has M_lifted M_taken M_above M_allLifts M_busy).bind fun o_3 =>
    zg (zin p1 10) <|
    zlet (o_3.2.2.2.2.2.2.2.2.2.2.2.2.2.1 p1.toNatClampNeg) fun v2_5 =>
    fX10_chain_L24 p1 fuel v2_5 1 o_3.2.1 o_3.2.2.1 o_3.2.2.2.1 o_3.2.2.2.2.1 o_3.2.2.2.2.2.1 o_3.2.2.2.2.2.2.1 o_3.2.2.2.2.2.2.2.1 o_3.2.2.2.2.2.2.2.2.1 o_3.2.2.2.2.2.2.2.2.2.1 o_3.2.2.2.2.2.2.2.2.2.2.1 o_3.2.2.2.2.2.2.2.2.2.2.2.1 o_3.2.2.2.2.2.2.2.2.2.2.2.2.1 o_3.2.2.2.2.2.2.2.2.2.2.2.2.2.1 o_3.2.2.2.2.2.2.2.2.2.2.2.2.2.2.1 o_3.2.2.2.2.2.2.2.2.2.2.2.2.2.2.2.1 o_3.2.2.2.2.2.2.2.2.2.2.2.2.2.2.2.2.1 o_3.2.2.2.2.2.2.2.2.2.2.2.2.2.2.2.2.2.1 o_3.2.2.2.2.2.2.2.2.2.2.2.2.2.2.2.2.2.2)
def fX10_isLaidSo_L23 (M_pile : Nat → Int32) (M_high : Nat → Int32) (M_items : Nat → Int32) (p1 : Int32) : Nat → Int32 → Int32 → Option (Int32)
  | 0, _, _ => none
  | n + 1, v2, v3 =>
    if (M_high 0) ≤ v3 then (
      zg (decide (v2 = 0 ∨ v2 = 1)) <|
      some (v2))
    else (
      if v2 = 0 then (
        zg (decide (v2 = 0 ∨ v2 = 1)) <|
        some (v2))
      else (
        zg (zin v3 30) <|
        zg (zin (((100 * p1) + v3)) 800) <|
        if (M_pile v3.toNatClampNeg) = ((M_items (((100 * p1) + v3)).toNatClampNeg)) then (
          zlet (v3 + 1) fun v3_11 =>
          fX10_isLaidSo_L23 M_pile M_high M_items p1 n 1 v3_11)
        else (
          zlet (v3 + 1) fun v3_10 =>
          fX10_isLaidSo_L23 M_pile M_high M_items p1 n 0 v3_10)))
def fX10_isLaidSo (fuel : Nat) (M_pile : Nat → Int32) (M_high : Nat → Int32) (M_size : Nat → Int32) (M_items : Nat → Int32) (p1 : Int32) : Option (Int32) :=
  zg (zin p1 8) <|
  if (M_high 0) = (M_size p1.toNatClampNeg) then (
    fX10_isLaidSo_L23 M_pile M_high M_items p1 fuel 1 0)
  else (
    fX10_isLaidSo_L23 M_pile M_high M_items p1 fuel 0 0)
def fX10_draw (fuel : Nat) (M_seed : Int32) (p1 : Int32) : Option (Int32 × Int32) :=
  zlet (((M_seed * 1103515245) + 12345)) fun seed_1 =>
  zg (decide (¬ p1 = 0)) <|
  zlet (((((seed_1 &&& 2147483647) / 65536)) - (((seed_1 &&& 2147483647) / 65536)) / p1 * p1)) fun x_3 =>
  some (x_3, seed_1)
def fX10_nights_J144 (k35 : Int32 → Int32 → Int32 → (Nat → Int32) → Int32 → (Nat → Int32) → Int32 → (Nat → Int32) → (Nat → Int32) → (Nat → Int32) → (Nat → Int32) → Int32 → (Nat → Int32) → (Nat → Int32) → (Nat → Int32) → (Nat → Int32) → (Nat → Int32) → (Nat → Int32) → (Nat → Int32) → Int32 → Int32 → Int32 → Option (Int32 × (Nat → Int32) × Int32 × (Nat → Int32) × Int32 × (Nat → Int32) × (Nat → Int32) × (Nat → Int32) × (Nat → Int32) × Int32 × (Nat → Int32) × (Nat → Int32) × (Nat → Int32) × (Nat → Int32) × (Nat → Int32) × (Nat → Int32) × (Nat → Int32) × Int32 × Int32 × Int32)) (v4 : Int32) (v5 : Int32) (v6 : Int32) (M_coming : Nat → Int32) (M_comingMany : Int32) (M_going : Nat → Int32) (M_goingMany : Int32) (M_minute : Nat → Int32) (M_pile : Nat → Int32) (M_high : Nat → Int32) (M_where : Nat → Int32) (M_latest : Int32) (M_lifts : Nat → Int32) (M_begun : Nat → Int32) (M_left : Nat → Int32) (M_has : Nat → Int32) (M_lifted : Nat → Int32) (M_taken : Nat → Int32) (M_above : Nat → Int32) (M_allLifts : Int32) (M_busy : Int32) (M_seed : Int32) : Option (Int32 × (Nat → Int32) × Int32 × (Nat → Int32) × Int32 × (Nat → Int32) × (Nat → Int32) × (Nat → Int32) × (Nat → Int32) × Int32 × (Nat → Int32) × (Nat → Int32) × (Nat → Int32) × (Nat → Int32) × (Nat → Int32) × (Nat → Int32) × (Nat → Int32) × Int32 × Int32 × Int32) :=
  zlet (v6 + 1) fun v6_24 =>
  k35 v4 v5 v6_24 M_coming M_comingMany M_going M_goingMany M_minute M_pile M_high M_where M_latest M_lifts M_begun M_left M_has M_lifted M_taken M_above M_allLifts M_busy M_seed
def fX10_nights_L110 (fuel : Nat) (M_guests : Int32) (M_kind : Nat → Int32) (M_figure : Nat → Int32) (k35 : Int32 → Int32 → Int32 → (Nat → Int32) → Int32 → (Nat → Int32) → Int32 → (Nat → Int32) → (Nat → Int32) → (Nat → Int32) → (Nat → Int32) → Int32 → (Nat → Int32) → (Nat → Int32) → (Nat → Int32) → (Nat → Int32) → (Nat → Int32) → (Nat → Int32) → (Nat → Int32) → Int32 → Int32 → Int32 → Option (Int32 × (Nat → Int32) × Int32 × (Nat → Int32) × Int32 × (Nat → Int32) × (Nat → Int32) × (Nat → Int32) × (Nat → Int32) × Int32 × (Nat → Int32) × (Nat → Int32) × (Nat → Int32) × (Nat → Int32) × (Nat → Int32) × (Nat → Int32) × (Nat → Int32) × Int32 × Int32 × Int32)) : Nat → Int32 → Int32 → Int32 → Int32 → (Nat → Int32) → Int32 → (Nat → Int32) → Int32 → (Nat → Int32) → (Nat → Int32) → (Nat → Int32) → (Nat → Int32) → Int32 → (Nat → Int32) → (Nat → Int32) → (Nat → Int32) → (Nat → Int32) → (Nat → Int32) → (Nat → Int32) → (Nat → Int32) → Int32 → Int32 → Int32 → Option (Int32 × (Nat → Int32) × Int32 × (Nat → Int32) × Int32 × (Nat → Int32) × (Nat → Int32) × (Nat → Int32) × (Nat → Int32) × Int32 × (Nat → Int32) × (Nat → Int32) × (Nat → Int32) × (Nat → Int32) × (Nat → Int32) × (Nat → Int32) × (Nat → Int32) × Int32 × Int32 × Int32)
  | 0, _, _, _, _, _, _, _, _, _, _, _, _, _, _, _, _, _, _, _, _, _, _, _ => none
  | n + 1, v4, v5, v6, v7, M_coming, M_comingMany, M_going, M_goingMany, M_minute, M_pile, M_high, M_where, M_latest, M_lifts, M_begun, M_left, M_has, M_lifted, M_taken, M_above, M_allLifts, M_busy, M_seed =>
    if M_guests ≤ v7 then (
      fX10_nights_J144 k35 v4 v5 v6 M_coming M_comingMany M_going M_goingMany M_minute M_pile M_high M_where M_latest M_lifts M_begun M_left M_has M_lifted M_taken M_above M_allLifts M_busy M_seed)
    else (
      (fX10_misses fuel M_kind M_figure M_minute M_left v7).bind fun o_18 =>
      if o_18 = 0 then (
        zlet (v5 + 0) fun v5_20 =>
        zlet (v7 + 1) fun v7_21 =>
        fX10_nights_L110 fuel M_guests M_kind M_figure k35 n v4 v5_20 v6 v7_21 M_coming M_comingMany M_going M_goingMany M_minute M_pile M_high M_where M_latest M_lifts M_begun M_left M_has M_lifted M_taken M_above M_allLifts M_busy M_seed)
      else (
        zlet (v5 + 1) fun v5_22 =>
        zlet (v7 + 1) fun v7_23 =>
        fX10_nights_L110 fuel M_guests M_kind M_figure k35 n v4 v5_22 v6 v7_23 M_coming M_comingMany M_going M_goingMany M_minute M_pile M_high M_where M_latest M_lifts M_begun M_left M_has M_lifted M_taken M_above M_allLifts M_busy M_seed))
def fX10_nights_J89 (fuel : Nat) (M_guests : Int32) (M_kind : Nat → Int32) (M_figure : Nat → Int32) (M_heaps : Int32) (M_holds : Int32) (M_back : Int32) (M_mistakes : Int32) (M_hooks : Int32) (M_letters : Int32) (M_rule : Nat → Int32) (k35 : Int32 → Int32 → Int32 → (Nat → Int32) → Int32 → (Nat → Int32) → Int32 → (Nat → Int32) → (Nat → Int32) → (Nat → Int32) → (Nat → Int32) → Int32 → (Nat → Int32) → (Nat → Int32) → (Nat → Int32) → (Nat → Int32) → (Nat → Int32) → (Nat → Int32) → (Nat → Int32) → Int32 → Int32 → Int32 → Option (Int32 × (Nat → Int32) × Int32 × (Nat → Int32) × Int32 × (Nat → Int32) × (Nat → Int32) × (Nat → Int32) × (Nat → Int32) × Int32 × (Nat → Int32) × (Nat → Int32) × (Nat → Int32) × (Nat → Int32) × (Nat → Int32) × (Nat → Int32) × (Nat → Int32) × Int32 × Int32 × Int32)) (v4 : Int32) (v5 : Int32) (v6 : Int32) (M_coming : Nat → Int32) (M_comingMany : Int32) (M_going : Nat → Int32) (M_goingMany : Int32) (M_minute : Nat → Int32) (M_pile : Nat → Int32) (M_high : Nat → Int32) (M_where : Nat → Int32) (M_latest : Int32) (M_lifts : Nat → Int32) (M_begun : Nat → Int32) (M_left : Nat → Int32) (M_has : Nat → Int32) (M_lifted : Nat → Int32) (M_taken : Nat → Int32) (M_above : Nat → Int32) (M_allLifts : Int32) (M_busy : Int32) (M_seed : Int32) : Option (Int32 × (Nat → Int32) × Int32 × (Nat → Int32) × Int32 × (Nat → Int32) × (Nat → Int32) × (Nat → Int32) × (Nat → Int32) × Int32 × (Nat → Int32) × (Nat → Int32) × (Nat → Int32) × (Nat → Int32) × (Nat → Int32) × (Nat → Int32) × (Nat → Int32) × Int32 × Int32 × Int32) :=
  (fX10_allCome fuel M_guests M_coming M_comingMany (-1)).bind fun o_13 =>
  (fX10_allGo fuel o_13.1 o_13.2 M_going M_goingMany M_minute).bind fun o_14 =>
  (fX10_layAndGo fuel M_guests M_kind M_figure M_heaps M_holds M_back M_mistakes M_hooks M_letters M_rule o_13.1 o_13.2 o_14.1 o_14.2 M_minute M_pile M_high M_where M_latest M_lifts M_begun M_left M_has M_lifted M_taken M_above M_allLifts M_busy).bind fun o_15 =>
  zlet (v4 + o_15.1) fun v4_16 =>
  fX10_nights_L110 fuel M_guests M_kind M_figure k35 fuel v4_16 v5 v6 0 o_13.1 o_13.2 o_14.1 o_14.2 M_minute o_15.2.1 o_15.2.2.1 o_15.2.2.2.1 o_15.2.2.2.2.1 o_15.2.2.2.2.2.1 o_15.2.2.2.2.2.2.1 o_15.2.2.2.2.2.2.2.1 o_15.2.2.2.2.2.2.2.2.1 o_15.2.2.2.2.2.2.2.2.2.1 o_15.2.2.2.2.2.2.2.2.2.2.1 o_15.2.2.2.2.2.2.2.2.2.2.2.1 o_15.2.2.2.2.2.2.2.2.2.2.2.2.1 o_15.2.2.2.2.2.2.2.2.2.2.2.2.2 M_seed
def fX10_nights_L44 (fuel : Nat) (M_guests : Int32) (M_kind : Nat → Int32) (M_figure : Nat → Int32) (M_heaps : Int32) (M_holds : Int32) (M_back : Int32) (M_mistakes : Int32) (M_hooks : Int32) (M_letters : Int32) (M_rule : Nat → Int32) (k35 : Int32 → Int32 → Int32 → (Nat → Int32) → Int32 → (Nat → Int32) → Int32 → (Nat → Int32) → (Nat → Int32) → (Nat → Int32) → (Nat → Int32) → Int32 → (Nat → Int32) → (Nat → Int32) → (Nat → Int32) → (Nat → Int32) → (Nat → Int32) → (Nat → Int32) → (Nat → Int32) → Int32 → Int32 → Int32 → Option (Int32 × (Nat → Int32) × Int32 × (Nat → Int32) × Int32 × (Nat → Int32) × (Nat → Int32) × (Nat → Int32) × (Nat → Int32) × Int32 × (Nat → Int32) × (Nat → Int32) × (Nat → Int32) × (Nat → Int32) × (Nat → Int32) × (Nat → Int32) × (Nat → Int32) × Int32 × Int32 × Int32)) : Nat → Int32 → Int32 → Int32 → Int32 → (Nat → Int32) → Int32 → (Nat → Int32) → Int32 → (Nat → Int32) → (Nat → Int32) → (Nat → Int32) → (Nat → Int32) → Int32 → (Nat → Int32) → (Nat → Int32) → (Nat → Int32) → (Nat → Int32) → (Nat → Int32) → (Nat → Int32) → (Nat → Int32) → Int32 → Int32 → Int32 → Option (Int32 × (Nat → Int32) × Int32 × (Nat → Int32) × Int32 × (Nat → Int32) × (Nat → Int32) × (Nat → Int32) × (Nat → Int32) × Int32 × (Nat → Int32) × (Nat → Int32) × (Nat → Int32) × (Nat → Int32) × (Nat → Int32) × (Nat → Int32) × (Nat → Int32) × Int32 × Int32 × Int32)
  | 0, _, _, _, _, _, _, _, _, _, _, _, _, _, _, _, _, _, _, _, _, _, _, _ => none
  | n + 1, v4, v5, v6, v7, M_coming, M_comingMany, M_going, M_goingMany, M_minute, M_pile, M_high, M_where, M_latest, M_lifts, M_begun, M_left, M_has, M_lifted, M_taken, M_above, M_allLifts, M_busy, M_seed =>
    if M_guests ≤ v7 then (
      fX10_nights_J89 fuel M_guests M_kind M_figure M_heaps M_holds M_back M_mistakes M_hooks M_letters M_rule k35 v4 v5 v6 M_coming M_comingMany M_going M_goingMany M_minute M_pile M_high M_where M_latest M_lifts M_begun M_left M_has M_lifted M_taken M_above M_allLifts M_busy M_seed)
    else (
      zg (zin v7 10) <|
      (fX10_draw fuel M_seed 60).bind fun o_9 =>
      (fX10_goesBy fuel (M_kind v7.toNatClampNeg) (M_figure v7.toNatClampNeg) o_9.1).bind fun o_10 =>
      zlet (upd M_minute v7.toNatClampNeg o_10) fun M_minute_11 =>
      zlet (v7 + 1) fun v7_12 =>
      fX10_nights_L44 fuel M_guests M_kind M_figure M_heaps M_holds M_back M_mistakes M_hooks M_letters M_rule k35 n v4 v5 v6 v7_12 M_coming M_comingMany M_going M_goingMany M_minute_11 M_pile M_high M_where M_latest M_lifts M_begun M_left M_has M_lifted M_taken M_above M_allLifts M_busy o_9.2)
def fX10_nights_J150 (p3 : Int32) (v4 : Int32) (v5 : Int32) (M_coming : Nat → Int32) (M_comingMany : Int32) (M_going : Nat → Int32) (M_goingMany : Int32) (M_minute : Nat → Int32) (M_pile : Nat → Int32) (M_high : Nat → Int32) (M_where : Nat → Int32) (M_latest : Int32) (M_lifts : Nat → Int32) (M_begun : Nat → Int32) (M_left : Nat → Int32) (M_has : Nat → Int32) (M_lifted : Nat → Int32) (M_taken : Nat → Int32) (M_above : Nat → Int32) (M_allLifts : Int32) (M_busy : Int32) (M_seed : Int32) : Option (Int32 × (Nat → Int32) × Int32 × (Nat → Int32) × Int32 × (Nat → Int32) × (Nat → Int32) × (Nat → Int32) × (Nat → Int32) × Int32 × (Nat → Int32) × (Nat → Int32) × (Nat → Int32) × (Nat → Int32) × (Nat → Int32) × (Nat → Int32) × (Nat → Int32) × Int32 × Int32 × Int32) :=
  if p3 = 0 then (
    some (v4, M_coming, M_comingMany, M_going, M_goingMany, M_minute, M_pile, M_high, M_where, M_latest, M_lifts, M_begun, M_left, M_has, M_lifted, M_taken, M_above, M_allLifts, M_busy, M_seed))
  else (
    some (v5, M_coming, M_comingMany, M_going, M_goingMany, M_minute, M_pile, M_high, M_where, M_latest, M_lifts, M_begun, M_left, M_has, M_lifted, M_taken, M_above, M_allLifts, M_busy, M_seed))
def fX10_nights_L35 (fuel : Nat) (M_guests : Int32) (M_kind : Nat → Int32) (M_figure : Nat → Int32) (M_heaps : Int32) (M_holds : Int32) (M_back : Int32) (M_mistakes : Int32) (M_hooks : Int32) (M_letters : Int32) (M_rule : Nat → Int32) (p1 : Int32) (p3 : Int32) : Nat → Int32 → Int32 → Int32 → (Nat → Int32) → Int32 → (Nat → Int32) → Int32 → (Nat → Int32) → (Nat → Int32) → (Nat → Int32) → (Nat → Int32) → Int32 → (Nat → Int32) → (Nat → Int32) → (Nat → Int32) → (Nat → Int32) → (Nat → Int32) → (Nat → Int32) → (Nat → Int32) → Int32 → Int32 → Int32 → Option (Int32 × (Nat → Int32) × Int32 × (Nat → Int32) × Int32 × (Nat → Int32) × (Nat → Int32) × (Nat → Int32) × (Nat → Int32) × Int32 × (Nat → Int32) × (Nat → Int32) × (Nat → Int32) × (Nat → Int32) × (Nat → Int32) × (Nat → Int32) × (Nat → Int32) × Int32 × Int32 × Int32)
  | 0, _, _, _, _, _, _, _, _, _, _, _, _, _, _, _, _, _, _, _, _, _, _ => none
  | n + 1, v4, v5, v6, M_coming, M_comingMany, M_going, M_goingMany, M_minute, M_pile, M_high, M_where, M_latest, M_lifts, M_begun, M_left, M_has, M_lifted, M_taken, M_above, M_allLifts, M_busy, M_seed =>
    if p1 ≤ v6 then (
      fX10_nights_J150 p3 v4 v5 M_coming M_comingMany M_going M_goingMany M_minute M_pile M_high M_where M_latest M_lifts M_begun M_left M_has M_lifted M_taken M_above M_allLifts M_busy M_seed)
    else (
      fX10_nights_L44 fuel M_guests M_kind M_figure M_heaps M_holds M_back M_mistakes M_hooks M_letters M_rule (fX10_nights_L35 fuel M_guests M_kind M_figure M_heaps M_holds M_back M_mistakes M_hooks M_letters M_rule p1 p3 n) fuel v4 v5 v6 0 M_coming M_comingMany M_going M_goingMany M_minute M_pile M_high M_where M_latest M_lifts M_begun M_left M_has M_lifted M_taken M_above M_allLifts M_busy M_seed)
def fX10_nights (fuel : Nat) (M_guests : Int32) (M_kind : Nat → Int32) (M_figure : Nat → Int32) (M_heaps : Int32) (M_holds : Int32) (M_back : Int32) (M_mistakes : Int32) (M_hooks : Int32) (M_letters : Int32) (M_rule : Nat → Int32) (M_coming : Nat → Int32) (M_comingMany : Int32) (M_going : Nat → Int32) (M_goingMany : Int32) (M_minute : Nat → Int32) (M_pile : Nat → Int32) (M_high : Nat → Int32) (M_where : Nat → Int32) (M_latest : Int32) (M_lifts : Nat → Int32) (M_begun : Nat → Int32) (M_left : Nat → Int32) (M_has : Nat → Int32) (M_lifted : Nat → Int32) (M_taken : Nat → Int32) (M_above : Nat → Int32) (M_allLifts : Int32) (M_busy : Int32) (M_seed : Int32) (p1 : Int32) (p2 : Int32) (p3 : Int32) : Option (Int32 × (Nat → Int32) × Int32 × (Nat → Int32) × Int32 × (Nat → Int32) × (Nat → Int32) × (Nat → Int32) × (Nat → Int32) × Int32 × (Nat → Int32) × (Nat → Int32) × (Nat → Int32) × (Nat → Int32) × (Nat → Int32) × (Nat → Int32) × (Nat → Int32) × Int32 × Int32 × Int32) :=
  (fX10_isIn fuel p1 1 20).bind fun o_1 =>
  if o_1 = 0 then (
    some ((-1), M_coming, M_comingMany, M_going, M_goingMany, M_minute, M_pile, M_high, M_where, M_latest, M_lifts, M_begun, M_left, M_has, M_lifted, M_taken, M_above, M_allLifts, M_busy, M_seed))
  else (
    (fX10_isIn fuel p3 0 1).bind fun o_3 =>
    if o_3 = 0 then (
      some ((-1), M_coming, M_comingMany, M_going, M_goingMany, M_minute, M_pile, M_high, M_where, M_latest, M_lifts, M_begun, M_left, M_has, M_lifted, M_taken, M_above, M_allLifts, M_busy, M_seed))
    else (
      fX10_nights_L35 fuel M_guests M_kind M_figure M_heaps M_holds M_back M_mistakes M_hooks M_letters M_rule p1 p3 fuel 0 0 0 M_coming M_comingMany M_going M_goingMany M_minute M_pile M_high M_where M_latest M_lifts M_begun M_left M_has M_lifted M_taken M_above M_allLifts M_busy p2))
def fX10_keepAll_then_L78 (M_kind : Nat → Int32) (M_figure : Nat → Int32) (M_told : Nat → Int32) : Nat → Int32 → (Nat → Int32) → Option ((Nat → Int32))
  | 0, _, _ => none
  | n + 1, v2, M_then =>
    if 10 ≤ v2 then (
      some (M_then))
    else (
      zg (zin v2 10) <|
      zg (zin (20 + v2) 60) <|
      zlet (upd M_then (20 + v2).toNatClampNeg (M_kind v2.toNatClampNeg)) fun M_then_16 =>
      zg (zin (30 + v2) 60) <|
      zlet (upd M_then_16 (30 + v2).toNatClampNeg (M_figure v2.toNatClampNeg)) fun M_then_18 =>
      zg (zin (40 + v2) 60) <|
      zlet (upd M_then_18 (40 + v2).toNatClampNeg (M_told v2.toNatClampNeg)) fun M_then_20 =>
      zlet (v2 + 1) fun v2_21 =>
      fX10_keepAll_then_L78 M_kind M_figure M_told n v2_21 M_then_20)
def fX10_keepAll_then_J76 (fuel : Nat) (M_kind : Nat → Int32) (M_figure : Nat → Int32) (M_told : Nat → Int32) (M_then : Nat → Int32) : Option ((Nat → Int32)) :=
  fX10_keepAll_then_L78 M_kind M_figure M_told fuel 0 M_then
def fX10_keepAll_then_L52 (fuel : Nat) (M_kind : Nat → Int32) (M_figure : Nat → Int32) (M_told : Nat → Int32) (M_rule : Nat → Int32) : Nat → Int32 → (Nat → Int32) → Option ((Nat → Int32))
  | 0, _, _ => none
  | n + 1, v2, M_then =>
    if 6 ≤ v2 then (
      fX10_keepAll_then_J76 fuel M_kind M_figure M_told M_then)
    else (
      zg (zin v2 6) <|
      zg (zin (8 + v2) 60) <|
      zlet (upd M_then (8 + v2).toNatClampNeg (M_rule v2.toNatClampNeg)) fun M_then_11 =>
      zlet (v2 + 1) fun v2_12 =>
      fX10_keepAll_then_L52 fuel M_kind M_figure M_told M_rule n v2_12 M_then_11)
def fX10_keepAll_then (fuel : Nat) (M_guests : Int32) (M_kind : Nat → Int32) (M_figure : Nat → Int32) (M_told : Nat → Int32) (M_heaps : Int32) (M_holds : Int32) (M_back : Int32) (M_mistakes : Int32) (M_hooks : Int32) (M_letters : Int32) (M_rule : Nat → Int32) (M_then : Nat → Int32) : Option ((Nat → Int32)) :=
  zlet (upd M_then 0 M_guests) fun M_then_1 =>
  zlet (upd M_then_1 1 M_heaps) fun M_then_2 =>
  zlet (upd M_then_2 2 M_holds) fun M_then_3 =>
  zlet (upd M_then_3 3 M_back) fun M_then_4 =>
  zlet (upd M_then_4 4 M_mistakes) fun M_then_5 =>
  zlet (upd M_then_5 5 M_hooks) fun M_then_6 =>
  zlet (upd M_then_6 6 M_letters) fun M_then_7 =>
  fX10_keepAll_then_L52 fuel M_kind M_figure M_told M_rule fuel 0 M_then_7
def fX10_keepAll_was_L78 (M_kind : Nat → Int32) (M_figure : Nat → Int32) (M_told : Nat → Int32) : Nat → Int32 → (Nat → Int32) → Option ((Nat → Int32))
  | 0, _, _ => none
  | n + 1, v2, M_was =>
    if 10 ≤ v2 then (
      some (M_was))
    else (
      zg (zin v2 10) <|
      zg (zin (20 + v2) 60) <|
      zlet (upd M_was (20 + v2).toNatClampNeg (M_kind v2.toNatClampNeg)) fun M_was_16 =>
      zg (zin (30 + v2) 60) <|
      zlet (upd M_was_16 (30 + v2).toNatClampNeg (M_figure v2.toNatClampNeg)) fun M_was_18 =>
      zg (zin (40 + v2) 60) <|
      zlet (upd M_was_18 (40 + v2).toNatClampNeg (M_told v2.toNatClampNeg)) fun M_was_20 =>
      zlet (v2 + 1) fun v2_21 =>
      fX10_keepAll_was_L78 M_kind M_figure M_told n v2_21 M_was_20)
def fX10_keepAll_was_J76 (fuel : Nat) (M_kind : Nat → Int32) (M_figure : Nat → Int32) (M_told : Nat → Int32) (M_was : Nat → Int32) : Option ((Nat → Int32)) :=
  fX10_keepAll_was_L78 M_kind M_figure M_told fuel 0 M_was
def fX10_keepAll_was_L52 (fuel : Nat) (M_kind : Nat → Int32) (M_figure : Nat → Int32) (M_told : Nat → Int32) (M_rule : Nat → Int32) : Nat → Int32 → (Nat → Int32) → Option ((Nat → Int32))
  | 0, _, _ => none
  | n + 1, v2, M_was =>
    if 6 ≤ v2 then (
      fX10_keepAll_was_J76 fuel M_kind M_figure M_told M_was)
    else (
      zg (zin v2 6) <|
      zg (zin (8 + v2) 60) <|
      zlet (upd M_was (8 + v2).toNatClampNeg (M_rule v2.toNatClampNeg)) fun M_was_11 =>
      zlet (v2 + 1) fun v2_12 =>
      fX10_keepAll_was_L52 fuel M_kind M_figure M_told M_rule n v2_12 M_was_11)
def fX10_keepAll_was (fuel : Nat) (M_guests : Int32) (M_kind : Nat → Int32) (M_figure : Nat → Int32) (M_told : Nat → Int32) (M_heaps : Int32) (M_holds : Int32) (M_back : Int32) (M_mistakes : Int32) (M_hooks : Int32) (M_letters : Int32) (M_rule : Nat → Int32) (M_was : Nat → Int32) : Option ((Nat → Int32)) :=
  zlet (upd M_was 0 M_guests) fun M_was_1 =>
  zlet (upd M_was_1 1 M_heaps) fun M_was_2 =>
  zlet (upd M_was_2 2 M_holds) fun M_was_3 =>
  zlet (upd M_was_3 3 M_back) fun M_was_4 =>
  zlet (upd M_was_4 4 M_mistakes) fun M_was_5 =>
  zlet (upd M_was_5 5 M_hooks) fun M_was_6 =>
  zlet (upd M_was_6 6 M_letters) fun M_was_7 =>
  fX10_keepAll_was_L52 fuel M_kind M_figure M_told M_rule fuel 0 M_was_7
def fX10_backTo_then_L78 (M_then : Nat → Int32) : Nat → Int32 → Int32 → (Nat → Int32) → (Nat → Int32) → (Nat → Int32) → Int32 → Int32 → Int32 → Int32 → Int32 → Int32 → (Nat → Int32) → Option (Int32 × (Nat → Int32) × (Nat → Int32) × (Nat → Int32) × Int32 × Int32 × Int32 × Int32 × Int32 × Int32 × (Nat → Int32))
  | 0, _, _, _, _, _, _, _, _, _, _, _, _ => none
  | n + 1, v2, M_guests, M_kind, M_figure, M_told, M_heaps, M_holds, M_back, M_mistakes, M_hooks, M_letters, M_rule =>
    if 10 ≤ v2 then (
      some (M_guests, M_kind, M_figure, M_told, M_heaps, M_holds, M_back, M_mistakes, M_hooks, M_letters, M_rule))
    else (
      zg (zin (20 + v2) 60) <|
      zg (zin v2 10) <|
      zlet (upd M_kind v2.toNatClampNeg ((M_then (20 + v2).toNatClampNeg))) fun M_kind_16 =>
      zg (zin (30 + v2) 60) <|
      zlet (upd M_figure v2.toNatClampNeg ((M_then (30 + v2).toNatClampNeg))) fun M_figure_18 =>
      zg (zin (40 + v2) 60) <|
      zlet (upd M_told v2.toNatClampNeg ((M_then (40 + v2).toNatClampNeg))) fun M_told_20 =>
      zlet (v2 + 1) fun v2_21 =>
      fX10_backTo_then_L78 M_then n v2_21 M_guests M_kind_16 M_figure_18 M_told_20 M_heaps M_holds M_back M_mistakes M_hooks M_letters M_rule)
def fX10_backTo_then_J76 (fuel : Nat) (M_then : Nat → Int32) (M_guests : Int32) (M_kind : Nat → Int32) (M_figure : Nat → Int32) (M_told : Nat → Int32) (M_heaps : Int32) (M_holds : Int32) (M_back : Int32) (M_mistakes : Int32) (M_hooks : Int32) (M_letters : Int32) (M_rule : Nat → Int32) : Option (Int32 × (Nat → Int32) × (Nat → Int32) × (Nat → Int32) × Int32 × Int32 × Int32 × Int32 × Int32 × Int32 × (Nat → Int32)) :=
  fX10_backTo_then_L78 M_then fuel 0 M_guests M_kind M_figure M_told M_heaps M_holds M_back M_mistakes M_hooks M_letters M_rule
def fX10_backTo_then_L52 (fuel : Nat) (M_then : Nat → Int32) : Nat → Int32 → Int32 → (Nat → Int32) → (Nat → Int32) → (Nat → Int32) → Int32 → Int32 → Int32 → Int32 → Int32 → Int32 → (Nat → Int32) → Option (Int32 × (Nat → Int32) × (Nat → Int32) × (Nat → Int32) × Int32 × Int32 × Int32 × Int32 × Int32 × Int32 × (Nat → Int32))
  | 0, _, _, _, _, _, _, _, _, _, _, _, _ => none
  | n + 1, v2, M_guests, M_kind, M_figure, M_told, M_heaps, M_holds, M_back, M_mistakes, M_hooks, M_letters, M_rule =>
    if 6 ≤ v2 then (
      fX10_backTo_then_J76 fuel M_then M_guests M_kind M_figure M_told M_heaps M_holds M_back M_mistakes M_hooks M_letters M_rule)
    else (
      zg (zin (8 + v2) 60) <|
      zg (zin v2 6) <|
      zlet (upd M_rule v2.toNatClampNeg ((M_then (8 + v2).toNatClampNeg))) fun M_rule_11 =>
      zlet (v2 + 1) fun v2_12 =>
      fX10_backTo_then_L52 fuel M_then n v2_12 M_guests M_kind M_figure M_told M_heaps M_holds M_back M_mistakes M_hooks M_letters M_rule_11)
def fX10_backTo_then (fuel : Nat) (M_guests : Int32) (M_kind : Nat → Int32) (M_figure : Nat → Int32) (M_told : Nat → Int32) (M_heaps : Int32) (M_holds : Int32) (M_back : Int32) (M_mistakes : Int32) (M_hooks : Int32) (M_letters : Int32) (M_rule : Nat → Int32) (M_then : Nat → Int32) : Option (Int32 × (Nat → Int32) × (Nat → Int32) × (Nat → Int32) × Int32 × Int32 × Int32 × Int32 × Int32 × Int32 × (Nat → Int32)) :=
  zlet (M_then 0) fun guests_1 =>
  zlet (M_then 1) fun heaps_2 =>
  zlet (M_then 2) fun holds_3 =>
  zlet (M_then 3) fun back_4 =>
  zlet (M_then 4) fun mistakes_5 =>
  zlet (M_then 5) fun hooks_6 =>
  zlet (M_then 6) fun letters_7 =>
  fX10_backTo_then_L52 fuel M_then fuel 0 guests_1 M_kind M_figure M_told heaps_2 holds_3 back_4 mistakes_5 hooks_6 letters_7 M_rule
def fX10_backTo_was_L78 (M_was : Nat → Int32) : Nat → Int32 → Int32 → (Nat → Int32) → (Nat → Int32) → (Nat → Int32) → Int32 → Int32 → Int32 → Int32 → Int32 → Int32 → (Nat → Int32) → Option (Int32 × (Nat → Int32) × (Nat → Int32) × (Nat → Int32) × Int32 × Int32 × Int32 × Int32 × Int32 × Int32 × (Nat → Int32))
  | 0, _, _, _, _, _, _, _, _, _, _, _, _ => none
  | n + 1, v2, M_guests, M_kind, M_figure, M_told, M_heaps, M_holds, M_back, M_mistakes, M_hooks, M_letters, M_rule =>
    if 10 ≤ v2 then (
      some (M_guests, M_kind, M_figure, M_told, M_heaps, M_holds, M_back, M_mistakes, M_hooks, M_letters, M_rule))
    else (
      zg (zin (20 + v2) 60) <|
      zg (zin v2 10) <|
      zlet (upd M_kind v2.toNatClampNeg ((M_was (20 + v2).toNatClampNeg))) fun M_kind_16 =>
      zg (zin (30 + v2) 60) <|
      zlet (upd M_figure v2.toNatClampNeg ((M_was (30 + v2).toNatClampNeg))) fun M_figure_18 =>
      zg (zin (40 + v2) 60) <|
      zlet (upd M_told v2.toNatClampNeg ((M_was (40 + v2).toNatClampNeg))) fun M_told_20 =>
      zlet (v2 + 1) fun v2_21 =>
      fX10_backTo_was_L78 M_was n v2_21 M_guests M_kind_16 M_figure_18 M_told_20 M_heaps M_holds M_back M_mistakes M_hooks M_letters M_rule)
def fX10_backTo_was_J76 (fuel : Nat) (M_was : Nat → Int32) (M_guests : Int32) (M_kind : Nat → Int32) (M_figure : Nat → Int32) (M_told : Nat → Int32) (M_heaps : Int32) (M_holds : Int32) (M_back : Int32) (M_mistakes : Int32) (M_hooks : Int32) (M_letters : Int32) (M_rule : Nat → Int32) : Option (Int32 × (Nat → Int32) × (Nat → Int32) × (Nat → Int32) × Int32 × Int32 × Int32 × Int32 × Int32 × Int32 × (Nat → Int32)) :=
  fX10_backTo_was_L78 M_was fuel 0 M_guests M_kind M_figure M_told M_heaps M_holds M_back M_mistakes M_hooks M_letters M_rule
def fX10_backTo_was_L52 (fuel : Nat) (M_was : Nat → Int32) : Nat → Int32 → Int32 → (Nat → Int32) → (Nat → Int32) → (Nat → Int32) → Int32 → Int32 → Int32 → Int32 → Int32 → Int32 → (Nat → Int32) → Option (Int32 × (Nat → Int32) × (Nat → Int32) × (Nat → Int32) × Int32 × Int32 × Int32 × Int32 × Int32 × Int32 × (Nat → Int32))
  | 0, _, _, _, _, _, _, _, _, _, _, _, _ => none
  | n + 1, v2, M_guests, M_kind, M_figure, M_told, M_heaps, M_holds, M_back, M_mistakes, M_hooks, M_letters, M_rule =>
    if 6 ≤ v2 then (
      fX10_backTo_was_J76 fuel M_was M_guests M_kind M_figure M_told M_heaps M_holds M_back M_mistakes M_hooks M_letters M_rule)
    else (
      zg (zin (8 + v2) 60) <|
      zg (zin v2 6) <|
      zlet (upd M_rule v2.toNatClampNeg ((M_was (8 + v2).toNatClampNeg))) fun M_rule_11 =>
      zlet (v2 + 1) fun v2_12 =>
      fX10_backTo_was_L52 fuel M_was n v2_12 M_guests M_kind M_figure M_told M_heaps M_holds M_back M_mistakes M_hooks M_letters M_rule_11)
def fX10_backTo_was (fuel : Nat) (M_guests : Int32) (M_kind : Nat → Int32) (M_figure : Nat → Int32) (M_told : Nat → Int32) (M_heaps : Int32) (M_holds : Int32) (M_back : Int32) (M_mistakes : Int32) (M_hooks : Int32) (M_letters : Int32) (M_rule : Nat → Int32) (M_was : Nat → Int32) : Option (Int32 × (Nat → Int32) × (Nat → Int32) × (Nat → Int32) × Int32 × Int32 × Int32 × Int32 × Int32 × Int32 × (Nat → Int32)) :=
  zlet (M_was 0) fun guests_1 =>
  zlet (M_was 1) fun heaps_2 =>
  zlet (M_was 2) fun holds_3 =>
  zlet (M_was 3) fun back_4 =>
  zlet (M_was 4) fun mistakes_5 =>
  zlet (M_was 5) fun hooks_6 =>
  zlet (M_was 6) fun letters_7 =>
  fX10_backTo_was_L52 fuel M_was fuel 0 guests_1 M_kind M_figure M_told heaps_2 holds_3 back_4 mistakes_5 hooks_6 letters_7 M_rule
def fX10_image (fuel : Nat) (M_guests : Int32) (M_kind : Nat → Int32) (M_figure : Nat → Int32) (M_told : Nat → Int32) (M_heaps : Int32) (M_holds : Int32) (M_back : Int32) (M_mistakes : Int32) (M_hooks : Int32) (M_letters : Int32) (M_rule : Nat → Int32) (M_then : Nat → Int32) (M_kept : Int32) : Option (Int32 × (Nat → Int32) × Int32) :=
  (fX10_keepAll_then fuel M_guests M_kind M_figure M_told M_heaps M_holds M_back M_mistakes M_hooks M_letters M_rule M_then).bind fun o_1 =>
  some (M_guests, o_1, 1)
def fX10_restore (fuel : Nat) (M_guests : Int32) (M_kind : Nat → Int32) (M_figure : Nat → Int32) (M_told : Nat → Int32) (M_heaps : Int32) (M_holds : Int32) (M_back : Int32) (M_mistakes : Int32) (M_hooks : Int32) (M_letters : Int32) (M_rule : Nat → Int32) (M_then : Nat → Int32) (M_kept : Int32) : Option (Int32 × Int32 × (Nat → Int32) × (Nat → Int32) × (Nat → Int32) × Int32 × Int32 × Int32 × Int32 × Int32 × Int32 × (Nat → Int32)) :=
  if M_kept = 0 then (
    some ((-3), M_guests, M_kind, M_figure, M_told, M_heaps, M_holds, M_back, M_mistakes, M_hooks, M_letters, M_rule))
  else (
    (fX10_backTo_then fuel M_guests M_kind M_figure M_told M_heaps M_holds M_back M_mistakes M_hooks M_letters M_rule M_then).bind fun o_2 =>
    some (o_2.1, o_2.1, o_2.2.1, o_2.2.2.1, o_2.2.2.2.1, o_2.2.2.2.2.1, o_2.2.2.2.2.2.1, o_2.2.2.2.2.2.2.1, o_2.2.2.2.2.2.2.2.1, o_2.2.2.2.2.2.2.2.2.1, o_2.2.2.2.2.2.2.2.2.2.1, o_2.2.2.2.2.2.2.2.2.2.2))
def fX10_isShelf (fuel : Nat) (p0 : Int32) : Option (Int32) :=
  (fX10_isIn fuel p0 0 7).bind fun o_1 =>
  zg (decide (o_1 = 0 ∨ o_1 = 1)) <|
  some (o_1)
def fX10_keep_J44 (p1 : Int32) (p2 : Int32) (p3 : Int32) (p4 : Int32) (M_held : Nat → Int32) (M_kindOn : Nat → Int32) (M_figureOn : Nat → Int32) : Option (Int32 × (Nat → Int32) × (Nat → Int32) × (Nat → Int32)) :=
  zg (zin p1 8) <|
  zlet (upd M_held p1.toNatClampNeg p2) fun M_held_11 =>
  zlet (upd M_kindOn p1.toNatClampNeg p3) fun M_kindOn_12 =>
  zlet (upd M_figureOn p1.toNatClampNeg p4) fun M_figureOn_13 =>
  some (0, M_held_11, M_kindOn_12, M_figureOn_13)
def fX10_keep (fuel : Nat) (M_held : Nat → Int32) (M_kindOn : Nat → Int32) (M_figureOn : Nat → Int32) (p1 : Int32) (p2 : Int32) (p3 : Int32) (p4 : Int32) : Option (Int32 × (Nat → Int32) × (Nat → Int32) × (Nat → Int32)) :=
  (fX10_isShelf fuel p1).bind fun o_1 =>
  if o_1 = 0 then (
    some ((-1), M_held, M_kindOn, M_figureOn))
  else (
    (fX10_isIn fuel p2 0 1).bind fun o_3 =>
    if o_3 = 0 then (
      some ((-1), M_held, M_kindOn, M_figureOn))
    else (
      if p2 = 1 then (
        (fX10_isIn fuel p3 0 7).bind fun o_6 =>
        if o_6 = 0 then (
          some ((-1), M_held, M_kindOn, M_figureOn))
        else (
          (fX10_isIn fuel p4 0 9).bind fun o_8 =>
          if o_8 = 0 then (
            some ((-1), M_held, M_kindOn, M_figureOn))
          else (
            fX10_keep_J44 p1 p2 p3 p4 M_held M_kindOn M_figureOn)))
      else (
        fX10_keep_J44 p1 p2 p3 p4 M_held M_kindOn M_figureOn)))
def fX10_row_L55 (p1 : Int32) : Nat → Int32 → (Nat → Int32) → (Nat → Int32) → (Nat → Int32) → (Nat → Int32) → Option (Int32 × (Nat → Int32) × (Nat → Int32) × (Nat → Int32) × (Nat → Int32))
  | 0, _, _, _, _, _ => none
  | n + 1, v4, M_held, M_sorts, M_size, M_items =>
    if 100 ≤ v4 then (
      some (0, M_held, M_sorts, M_size, M_items))
    else (
      zg (zin (((100 * p1) + v4)) 800) <|
      zlet (upd M_items (((100 * p1) + v4)).toNatClampNeg 0) fun M_items_13 =>
      zlet (v4 + 1) fun v4_14 =>
      fX10_row_L55 p1 n v4_14 M_held M_sorts M_size M_items_13)
def fX10_row (fuel : Nat) (M_held : Nat → Int32) (M_sorts : Nat → Int32) (M_size : Nat → Int32) (M_items : Nat → Int32) (p1 : Int32) (p2 : Int32) (p3 : Int32) : Option (Int32 × (Nat → Int32) × (Nat → Int32) × (Nat → Int32) × (Nat → Int32)) :=
  (fX10_isShelf fuel p1).bind fun o_1 =>
  if o_1 = 0 then (
    some ((-1), M_held, M_sorts, M_size, M_items))
  else (
    (fX10_isIn fuel p2 0 2).bind fun o_3 =>
    if o_3 = 0 then (
      some ((-1), M_held, M_sorts, M_size, M_items))
    else (
      if p3 ≤ 100 then (
        if 0 ≤ p3 then (
          zg (zin p1 8) <|
          zlet (upd M_held p1.toNatClampNeg 2) fun M_held_8 =>
          zlet (upd M_sorts p1.toNatClampNeg p2) fun M_sorts_9 =>
          zlet (upd M_size p1.toNatClampNeg p3) fun M_size_10 =>
          fX10_row_L55 p1 fuel 0 M_held_8 M_sorts_9 M_size_10 M_items)
        else (
          some ((-14), M_held, M_sorts, M_size, M_items)))
      else (
        some ((-1), M_held, M_sorts, M_size, M_items))))
def fX10_put (fuel : Nat) (M_held : Nat → Int32) (M_sorts : Nat → Int32) (M_size : Nat → Int32) (M_items : Nat → Int32) (p1 : Int32) (p2 : Int32) (p3 : Int32) : Option (Int32 × (Nat → Int32)) :=
  (fX10_isShelf fuel p1).bind fun o_1 =>
  if o_1 = 0 then (
    some ((-1), M_items))
  else (
    zg (zin p1 8) <|
    if (M_held p1.toNatClampNeg) = 2 then (
      (fX10_isIn fuel p2 0 (((M_size p1.toNatClampNeg) - 1))).bind fun o_5 =>
      if o_5 = 0 then (
        some ((-13), M_items))
      else (
        if (M_sorts p1.toNatClampNeg) = 0 then (
          zg (zin (((100 * p1) + p2)) 800) <|
          zlet (upd M_items (((100 * p1) + p2)).toNatClampNeg (p3.toInt8.toInt32)) fun M_items_14 =>
          some (0, M_items_14))
        else (
          if (M_sorts p1.toNatClampNeg) = 1 then (
            zg (zin (((100 * p1) + p2)) 800) <|
            zlet (upd M_items (((100 * p1) + p2)).toNatClampNeg (p3.toInt16.toInt32)) fun M_items_12 =>
            some (0, M_items_12))
          else (
            zg (zin (((100 * p1) + p2)) 800) <|
            zlet (upd M_items (((100 * p1) + p2)).toNatClampNeg p3) fun M_items_10 =>
            some (0, M_items_10)))))
    else (
      if (M_held p1.toNatClampNeg) = 0 then (
        some ((-11), M_items))
      else (
        some ((-12), M_items))))
def fX10_element (fuel : Nat) (M_held : Nat → Int32) (M_size : Nat → Int32) (M_items : Nat → Int32) (M_thrown : Int32) (p1 : Int32) (p2 : Int32) : Option (Int64 × Int32) :=
  (fX10_isShelf fuel p1).bind fun o_1 =>
  if o_1 = 0 then (
    if (1 : Int32) = 0 then (
      zg (zin (((100 * p1) + p2)) 800) <|
      some ((Int32.toInt64 ((M_items (((100 * p1) + p2)).toNatClampNeg))), 1))
    else (
      some (0, 1)))
  else (
    zg (zin p1 8) <|
    if (M_held p1.toNatClampNeg) = 2 then (
      (fX10_isIn fuel p2 0 (((M_size p1.toNatClampNeg) - 1))).bind fun o_7 =>
      if o_7 = 0 then (
        if (2 : Int32) = 0 then (
          zg (zin (((100 * p1) + p2)) 800) <|
          some ((Int32.toInt64 ((M_items (((100 * p1) + p2)).toNatClampNeg))), 2))
        else (
          some (0, 2)))
      else (
        if (0 : Int32) = 0 then (
          zg (zin (((100 * p1) + p2)) 800) <|
          some ((Int32.toInt64 ((M_items (((100 * p1) + p2)).toNatClampNeg))), 0))
        else (
          some (0, 0))))
    else (
      if (2 : Int32) = 0 then (
        zg (zin (((100 * p1) + p2)) 800) <|
        some ((Int32.toInt64 ((M_items (((100 * p1) + p2)).toNatClampNeg))), 2))
      else (
        some (0, 2))))
def fX10_thrown (fuel : Nat) (M_thrown : Int32) : Option (Int32) :=
  some (M_thrown)
def fX10_copy_L159 (p3 : Int32) (p4 : Int32) (p5 : Int32) : Nat → Int32 → (Nat → Int32) → (Nat → Int32) → Option (Int32 × (Nat → Int32) × (Nat → Int32))
  | 0, _, _, _ => none
  | n + 1, v6, M_items, M_moved =>
    if p5 ≤ v6 then (
      some (p5, M_items, M_moved))
    else (
      zg (zin v6 100) <|
      zg (zin (((((100 * p3) + p4)) + v6)) 800) <|
      zlet (upd M_items (((((100 * p3) + p4)) + v6)).toNatClampNeg (M_moved v6.toNatClampNeg)) fun M_items_25 =>
      zlet (v6 + 1) fun v6_26 =>
      fX10_copy_L159 p3 p4 p5 n v6_26 M_items_25 M_moved)
def fX10_copy_J156 (fuel : Nat) (p3 : Int32) (p4 : Int32) (p5 : Int32) (M_items : Nat → Int32) (M_moved : Nat → Int32) : Option (Int32 × (Nat → Int32) × (Nat → Int32)) :=
  fX10_copy_L159 p3 p4 p5 fuel 0 M_items M_moved
def fX10_copy_L122 (fuel : Nat) (p1 : Int32) (p2 : Int32) (p3 : Int32) (p4 : Int32) (p5 : Int32) : Nat → Int32 → (Nat → Int32) → (Nat → Int32) → Option (Int32 × (Nat → Int32) × (Nat → Int32))
  | 0, _, _, _ => none
  | n + 1, v6, M_items, M_moved =>
    if p5 ≤ v6 then (
      fX10_copy_J156 fuel p3 p4 p5 M_items M_moved)
    else (
      zg (zin (((((100 * p1) + p2)) + v6)) 800) <|
      zg (zin v6 100) <|
      zlet (upd M_moved v6.toNatClampNeg ((M_items (((((100 * p1) + p2)) + v6)).toNatClampNeg))) fun M_moved_20 =>
      zlet (v6 + 1) fun v6_21 =>
      fX10_copy_L122 fuel p1 p2 p3 p4 p5 n v6_21 M_items M_moved_20)
def fX10_copy (fuel : Nat) (M_held : Nat → Int32) (M_sorts : Nat → Int32) (M_size : Nat → Int32) (M_items : Nat → Int32) (M_moved : Nat → Int32) (p1 : Int32) (p2 : Int32) (p3 : Int32) (p4 : Int32) (p5 : Int32) : Option (Int32 × (Nat → Int32) × (Nat → Int32)) :=
  (fX10_isShelf fuel p1).bind fun o_1 =>
  if o_1 = 0 then (
    some ((-1), M_items, M_moved))
  else (
    (fX10_isShelf fuel p3).bind fun o_3 =>
    if o_3 = 0 then (
      some ((-1), M_items, M_moved))
    else (
      zg (zin p1 8) <|
      if (M_held p1.toNatClampNeg) = 0 then (
        some ((-11), M_items, M_moved))
      else (
        zg (zin p3 8) <|
        if (M_held p3.toNatClampNeg) = 0 then (
          some ((-11), M_items, M_moved))
        else (
          if (M_held p1.toNatClampNeg) = 1 then (
            some ((-12), M_items, M_moved))
          else (
            if (M_held p3.toNatClampNeg) = 1 then (
              some ((-12), M_items, M_moved))
            else (
              if (M_sorts p1.toNatClampNeg) = (M_sorts p3.toNatClampNeg) then (
                if p5 < 0 then (
                  some ((-13), M_items, M_moved))
                else (
                  if p2 < 0 then (
                    some ((-13), M_items, M_moved))
                  else (
                    if p4 < 0 then (
                      some ((-13), M_items, M_moved))
                    else (
                      if (((M_size p1.toNatClampNeg) - p2)) < p5 then (
                        some ((-13), M_items, M_moved))
                      else (
                        if p5 ≤ (((M_size p3.toNatClampNeg) - p4)) then (
                          fX10_copy_L122 fuel p1 p2 p3 p4 p5 fuel 0 M_items M_moved)
                        else (
                          some ((-13), M_items, M_moved)))))))
              else (
                some ((-12), M_items, M_moved))))))))
def fX10_costOn (fuel : Nat) (M_kindOn : Nat → Int32) (M_figureOn : Nat → Int32) (p1 : Int32) : Option (Int32) :=
  zg (zin p1 8) <|
  zlet (M_figureOn p1.toNatClampNeg) fun v2_2 =>
  zlet (M_kindOn p1.toNatClampNeg) fun x_3 =>
  if x_3 = 1 then (
    some (24))
  else (
    if x_3 = 2 then (
      some ((4 + v2_2)))
    else (
      if x_3 = 3 then (
        some (7))
      else (
        if x_3 = 4 then (
          some ((2 * (4 + v2_2))))
        else (
          if x_3 = 5 then (
            some (2))
          else (
            if x_3 = 6 then (
              some ((7 + v2_2)))
            else (
              if x_3 = 7 then (
                some (3))
              else (
                some (4))))))))
def fX10_cost (fuel : Nat) (M_held : Nat → Int32) (M_kindOn : Nat → Int32) (M_figureOn : Nat → Int32) (p1 : Int32) : Option (Int32) :=
  (fX10_isShelf fuel p1).bind fun o_1 =>
  if o_1 = 0 then (
    some ((-1)))
  else (
    zg (zin p1 8) <|
    if (M_held p1.toNatClampNeg) = 1 then (
      (fX10_costOn fuel M_kindOn M_figureOn p1).bind fun o_6 =>
      some (o_6))
    else (
      if (M_held p1.toNatClampNeg) = 0 then (
        some ((-11)))
      else (
        some ((-12)))))
def fX10_toss_J94 (M_figureOn : Nat → Int32) (p1 : Int32) : Option (Int32) :=
  zg (zin p1 8) <|
  some ((100 + (M_figureOn p1.toNatClampNeg)))
def fX10_toss (fuel : Nat) (M_held : Nat → Int32) (M_kindOn : Nat → Int32) (M_figureOn : Nat → Int32) (p1 : Int32) : Option (Int32) :=
  (fX10_isShelf fuel p1).bind fun o_1 =>
  if o_1 = 0 then (
    some ((-1)))
  else (
    zg (zin p1 8) <|
    if (M_held p1.toNatClampNeg) = 1 then (
      if (M_kindOn p1.toNatClampNeg) = 7 then (
        some ((-15)))
      else (
        if (M_figureOn p1.toNatClampNeg) = 0 then (
          some ((-15)))
        else (
          zlet (M_kindOn p1.toNatClampNeg) fun v2_7 =>
          if v2_7 = 4 then (
            (fX10_costOn fuel M_kindOn M_figureOn p1).bind fun o_11 =>
            some ((200 + o_11)))
          else (
            if v2_7 = 3 then (
              fX10_toss_J94 M_figureOn p1)
            else (
              if v2_7 = 6 then (
                fX10_toss_J94 M_figureOn p1)
              else (
                some ((M_figureOn p1.toNatClampNeg))))))))
    else (
      if (M_held p1.toNatClampNeg) = 0 then (
        some ((-11)))
      else (
        some ((-12)))))
def fX10_read_J88 (fuel : Nat) (v2 : Int32) (M_guests : Int32) (M_kind : Nat → Int32) (M_figure : Nat → Int32) (M_told : Nat → Int32) (M_heaps : Int32) (M_holds : Int32) (M_back : Int32) (M_mistakes : Int32) (M_hooks : Int32) (M_letters : Int32) (M_rule : Nat → Int32) (M_at : Int32) (M_well : Int32) (M_sort : Int32) (M_field : Nat → Int32) (M_fields : Int32) (M_was : Nat → Int32) : Option (Int32 × Int32 × (Nat → Int32) × (Nat → Int32) × (Nat → Int32) × Int32 × Int32 × Int32 × Int32 × Int32 × Int32 × (Nat → Int32) × Int32 × Int32 × Int32 × (Nat → Int32) × Int32 × (Nat → Int32)) :=
  (fX10_backTo_was fuel M_guests M_kind M_figure M_told M_heaps M_holds M_back M_mistakes M_hooks M_letters M_rule M_was).bind fun o_11 =>
  some (((-2000) - v2), o_11.1, o_11.2.1, o_11.2.2.1, o_11.2.2.2.1, o_11.2.2.2.2.1, o_11.2.2.2.2.2.1, o_11.2.2.2.2.2.2.1, o_11.2.2.2.2.2.2.2.1, o_11.2.2.2.2.2.2.2.2.1, o_11.2.2.2.2.2.2.2.2.2.1, o_11.2.2.2.2.2.2.2.2.2.2, M_at, M_well, M_sort, M_field, M_fields, M_was)
def fX10_read_L61 (fuel : Nat) (M_text : Int32) (M_row : Int32) (M_begins : Nat → Int32) (M_ruleLetters : Nat → Int32) (M_items : Nat → Int32) : Nat → Int32 → Int32 → (Nat → Int32) → (Nat → Int32) → (Nat → Int32) → Int32 → Int32 → Int32 → Int32 → Int32 → Int32 → (Nat → Int32) → Int32 → Int32 → Int32 → (Nat → Int32) → Int32 → (Nat → Int32) → Option (Int32 × Int32 × (Nat → Int32) × (Nat → Int32) × (Nat → Int32) × Int32 × Int32 × Int32 × Int32 × Int32 × Int32 × (Nat → Int32) × Int32 × Int32 × Int32 × (Nat → Int32) × Int32 × (Nat → Int32))
  | 0, _, _, _, _, _, _, _, _, _, _, _, _, _, _, _, _, _, _ => none
  | n + 1, v1, M_guests, M_kind, M_figure, M_told, M_heaps, M_holds, M_back, M_mistakes, M_hooks, M_letters, M_rule, M_at, M_well, M_sort, M_field, M_fields, M_was =>
    if M_text ≤ M_at then (
      some (v1, M_guests, M_kind, M_figure, M_told, M_heaps, M_holds, M_back, M_mistakes, M_hooks, M_letters, M_rule, M_at, M_well, M_sort, M_field, M_fields, M_was))
    else (
      (fX10_statement fuel M_at M_well M_sort M_text M_row M_field M_fields M_begins M_ruleLetters M_items).bind fun o_8 =>
      (fX10_takes fuel M_guests M_kind M_figure M_told M_heaps M_holds M_back M_mistakes M_hooks M_letters M_rule o_8.2.2.1 o_8.2.2.2.1 o_8.2.2.2.2).bind fun o_9 =>
      if o_9.1 = 0 then (
        fX10_read_J88 fuel M_at o_9.2.1 o_9.2.2.1 o_9.2.2.2.1 o_9.2.2.2.2.1 o_9.2.2.2.2.2.1 o_9.2.2.2.2.2.2.1 o_9.2.2.2.2.2.2.2.1 o_9.2.2.2.2.2.2.2.2.1 o_9.2.2.2.2.2.2.2.2.2.1 o_9.2.2.2.2.2.2.2.2.2.2.1 o_9.2.2.2.2.2.2.2.2.2.2.2 o_8.1 o_8.2.1 o_8.2.2.1 o_8.2.2.2.1 o_8.2.2.2.2 M_was)
      else (
        fX10_read_L61 fuel M_text M_row M_begins M_ruleLetters M_items n v1 o_9.2.1 o_9.2.2.1 o_9.2.2.2.1 o_9.2.2.2.2.1 o_9.2.2.2.2.2.1 o_9.2.2.2.2.2.2.1 o_9.2.2.2.2.2.2.2.1 o_9.2.2.2.2.2.2.2.2.1 o_9.2.2.2.2.2.2.2.2.2.1 o_9.2.2.2.2.2.2.2.2.2.2.1 o_9.2.2.2.2.2.2.2.2.2.2.2 o_8.1 o_8.2.1 o_8.2.2.1 o_8.2.2.2.1 o_8.2.2.2.2 M_was))
def fX10_read_J32 (fuel : Nat) (M_text : Int32) (M_row : Int32) (M_begins : Nat → Int32) (M_ruleLetters : Nat → Int32) (M_items : Nat → Int32) (v1 : Int32) (M_guests : Int32) (M_kind : Nat → Int32) (M_figure : Nat → Int32) (M_told : Nat → Int32) (M_heaps : Int32) (M_holds : Int32) (M_back : Int32) (M_mistakes : Int32) (M_hooks : Int32) (M_letters : Int32) (M_rule : Nat → Int32) (M_at : Int32) (M_well : Int32) (M_sort : Int32) (M_field : Nat → Int32) (M_fields : Int32) (M_was : Nat → Int32) : Option (Int32 × Int32 × (Nat → Int32) × (Nat → Int32) × (Nat → Int32) × Int32 × Int32 × Int32 × Int32 × Int32 × Int32 × (Nat → Int32) × Int32 × Int32 × Int32 × (Nat → Int32) × Int32 × (Nat → Int32)) :=
  if M_well = 0 then (
    some (((-1000) - M_at), M_guests, M_kind, M_figure, M_told, M_heaps, M_holds, M_back, M_mistakes, M_hooks, M_letters, M_rule, M_at, M_well, M_sort, M_field, M_fields, M_was))
  else (
    (fX10_keepAll_was fuel M_guests M_kind M_figure M_told M_heaps M_holds M_back M_mistakes M_hooks M_letters M_rule M_was).bind fun o_6 =>
    fX10_read_L61 fuel M_text M_row M_begins M_ruleLetters M_items fuel v1 M_guests M_kind M_figure M_told M_heaps M_holds M_back M_mistakes M_hooks M_letters M_rule 0 M_well M_sort M_field M_fields o_6)
def fX10_read_L7 (fuel : Nat) (M_text : Int32) (M_row : Int32) (M_begins : Nat → Int32) (M_ruleLetters : Nat → Int32) (M_items : Nat → Int32) : Nat → Int32 → Int32 → (Nat → Int32) → (Nat → Int32) → (Nat → Int32) → Int32 → Int32 → Int32 → Int32 → Int32 → Int32 → (Nat → Int32) → Int32 → Int32 → Int32 → (Nat → Int32) → Int32 → (Nat → Int32) → Option (Int32 × Int32 × (Nat → Int32) × (Nat → Int32) × (Nat → Int32) × Int32 × Int32 × Int32 × Int32 × Int32 × Int32 × (Nat → Int32) × Int32 × Int32 × Int32 × (Nat → Int32) × Int32 × (Nat → Int32))
  | 0, _, _, _, _, _, _, _, _, _, _, _, _, _, _, _, _, _, _ => none
  | n + 1, v1, M_guests, M_kind, M_figure, M_told, M_heaps, M_holds, M_back, M_mistakes, M_hooks, M_letters, M_rule, M_at, M_well, M_sort, M_field, M_fields, M_was =>
    (fX10_statement fuel M_at M_well M_sort M_text M_row M_field M_fields M_begins M_ruleLetters M_items).bind fun o_1 =>
    zlet (v1 + 1) fun v1_2 =>
    if o_1.2.1 = 0 then (
      fX10_read_J32 fuel M_text M_row M_begins M_ruleLetters M_items v1_2 M_guests M_kind M_figure M_told M_heaps M_holds M_back M_mistakes M_hooks M_letters M_rule o_1.1 o_1.2.1 o_1.2.2.1 o_1.2.2.2.1 o_1.2.2.2.2 M_was)
    else (
      if o_1.1 < M_text then (
        fX10_read_L7 fuel M_text M_row M_begins M_ruleLetters M_items n v1_2 M_guests M_kind M_figure M_told M_heaps M_holds M_back M_mistakes M_hooks M_letters M_rule o_1.1 o_1.2.1 o_1.2.2.1 o_1.2.2.2.1 o_1.2.2.2.2 M_was)
      else (
        fX10_read_J32 fuel M_text M_row M_begins M_ruleLetters M_items v1_2 M_guests M_kind M_figure M_told M_heaps M_holds M_back M_mistakes M_hooks M_letters M_rule o_1.1 o_1.2.1 o_1.2.2.1 o_1.2.2.2.1 o_1.2.2.2.2 M_was))
def fX10_read (fuel : Nat) (M_guests : Int32) (M_kind : Nat → Int32) (M_figure : Nat → Int32) (M_told : Nat → Int32) (M_heaps : Int32) (M_holds : Int32) (M_back : Int32) (M_mistakes : Int32) (M_hooks : Int32) (M_letters : Int32) (M_rule : Nat → Int32) (M_at : Int32) (M_well : Int32) (M_sort : Int32) (M_text : Int32) (M_row : Int32) (M_field : Nat → Int32) (M_fields : Int32) (M_begins : Nat → Int32) (M_ruleLetters : Nat → Int32) (M_was : Nat → Int32) (M_items : Nat → Int32) : Option (Int32 × Int32 × (Nat → Int32) × (Nat → Int32) × (Nat → Int32) × Int32 × Int32 × Int32 × Int32 × Int32 × Int32 × (Nat → Int32) × Int32 × Int32 × Int32 × (Nat → Int32) × Int32 × (Nat → Int32)) :=
  fX10_read_L7 fuel M_text M_row M_begins M_ruleLetters M_items fuel 0 M_guests M_kind M_figure M_told M_heaps M_holds M_back M_mistakes M_hooks M_letters M_rule 0 M_well M_sort M_field M_fields M_was
def fX10_room_J28 (M_held : Nat → Int32) (p1 : Int32) (M_guests : Int32) (M_kind : Nat → Int32) (M_figure : Nat → Int32) (M_told : Nat → Int32) (M_heaps : Int32) (M_holds : Int32) (M_back : Int32) (M_mistakes : Int32) (M_hooks : Int32) (M_letters : Int32) (M_rule : Nat → Int32) (M_at : Int32) (M_well : Int32) (M_sort : Int32) (M_text : Int32) (M_row : Int32) (M_field : Nat → Int32) (M_fields : Int32) (M_was : Nat → Int32) : Option (Int32 × Int32 × (Nat → Int32) × (Nat → Int32) × (Nat → Int32) × Int32 × Int32 × Int32 × Int32 × Int32 × Int32 × (Nat → Int32) × Int32 × Int32 × Int32 × Int32 × Int32 × (Nat → Int32) × Int32 × (Nat → Int32)) :=
  zg (zin p1 8) <|
  if (M_held p1.toNatClampNeg) = 0 then (
    some ((-11), M_guests, M_kind, M_figure, M_told, M_heaps, M_holds, M_back, M_mistakes, M_hooks, M_letters, M_rule, M_at, M_well, M_sort, M_text, M_row, M_field, M_fields, M_was))
  else (
    some ((-12), M_guests, M_kind, M_figure, M_told, M_heaps, M_holds, M_back, M_mistakes, M_hooks, M_letters, M_rule, M_at, M_well, M_sort, M_text, M_row, M_field, M_fields, M_was))
def fX10_room (fuel : Nat) (M_guests : Int32) (M_kind : Nat → Int32) (M_figure : Nat → Int32) (M_told : Nat → Int32) (M_heaps : Int32) (M_holds : Int32) (M_back : Int32) (M_mistakes : Int32) (M_hooks : Int32) (M_letters : Int32) (M_rule : Nat → Int32) (M_at : Int32) (M_well : Int32) (M_sort : Int32) (M_text : Int32) (M_row : Int32) (M_field : Nat → Int32) (M_fields : Int32) (M_begins : Nat → Int32) (M_ruleLetters : Nat → Int32) (M_was : Nat → Int32) (M_held : Nat → Int32) (M_sorts : Nat → Int32) (M_size : Nat → Int32) (M_items : Nat → Int32) (p1 : Int32) : Option (Int32 × Int32 × (Nat → Int32) × (Nat → Int32) × (Nat → Int32) × Int32 × Int32 × Int32 × Int32 × Int32 × Int32 × (Nat → Int32) × Int32 × Int32 × Int32 × Int32 × Int32 × (Nat → Int32) × Int32 × (Nat → Int32)) :=
  (fX10_isShelf fuel p1).bind fun o_1 =>
  if o_1 = 0 then (
    some ((-1), M_guests, M_kind, M_figure, M_told, M_heaps, M_holds, M_back, M_mistakes, M_hooks, M_letters, M_rule, M_at, M_well, M_sort, M_text, M_row, M_field, M_fields, M_was))
  else (
    zg (zin p1 8) <|
    if (M_held p1.toNatClampNeg) = 2 then (
      if (M_sorts p1.toNatClampNeg) = 0 then (
        zlet (M_size p1.toNatClampNeg) fun text_6 =>
        (fX10_read fuel M_guests M_kind M_figure M_told M_heaps M_holds M_back M_mistakes M_hooks M_letters M_rule M_at M_well M_sort text_6 p1 M_field M_fields M_begins M_ruleLetters M_was M_items).bind fun o_7 =>
        some (o_7.1, o_7.2.1, o_7.2.2.1, o_7.2.2.2.1, o_7.2.2.2.2.1, o_7.2.2.2.2.2.1, o_7.2.2.2.2.2.2.1, o_7.2.2.2.2.2.2.2.1, o_7.2.2.2.2.2.2.2.2.1, o_7.2.2.2.2.2.2.2.2.2.1, o_7.2.2.2.2.2.2.2.2.2.2.1, o_7.2.2.2.2.2.2.2.2.2.2.2.1, o_7.2.2.2.2.2.2.2.2.2.2.2.2.1, o_7.2.2.2.2.2.2.2.2.2.2.2.2.2.1, o_7.2.2.2.2.2.2.2.2.2.2.2.2.2.2.1, text_6, p1, o_7.2.2.2.2.2.2.2.2.2.2.2.2.2.2.2.1, o_7.2.2.2.2.2.2.2.2.2.2.2.2.2.2.2.2.1, o_7.2.2.2.2.2.2.2.2.2.2.2.2.2.2.2.2.2))
      else (
        fX10_room_J28 M_held p1 M_guests M_kind M_figure M_told M_heaps M_holds M_back M_mistakes M_hooks M_letters M_rule M_at M_well M_sort M_text M_row M_field M_fields M_was))
    else (
      fX10_room_J28 M_held p1 M_guests M_kind M_figure M_told M_heaps M_holds M_back M_mistakes M_hooks M_letters M_rule M_at M_well M_sort M_text M_row M_field M_fields M_was))
def fX10_guest (fuel : Nat) (M_guests : Int32) (M_kind : Nat → Int32) (M_figure : Nat → Int32) (M_told : Nat → Int32) (M_heaps : Int32) (M_holds : Int32) (M_hooks : Int32) (M_letters : Int32) (M_rule : Nat → Int32) (M_coming : Nat → Int32) (M_comingMany : Int32) (M_going : Nat → Int32) (M_goingMany : Int32) (M_minute : Nat → Int32) (M_pile : Nat → Int32) (M_high : Nat → Int32) (M_where : Nat → Int32) (M_latest : Int32) (p1 : Int32) (p2 : Int32) : Option (Int32 × (Nat → Int32) × Int32 × (Nat → Int32) × Int32 × (Nat → Int32) × (Nat → Int32) × (Nat → Int32) × (Nat → Int32) × Int32) :=
  (fX10_isGuest fuel M_guests p1).bind fun o_1 =>
  if o_1 = 0 then (
    some ((-1), M_coming, M_comingMany, M_going, M_goingMany, M_minute, M_pile, M_high, M_where, M_latest))
  else (
    if p2 = 0 then (
      zg (zin p1 10) <|
      some ((M_kind p1.toNatClampNeg), M_coming, M_comingMany, M_going, M_goingMany, M_minute, M_pile, M_high, M_where, M_latest))
    else (
      if p2 = 1 then (
        zg (zin p1 10) <|
        some ((M_figure p1.toNatClampNeg), M_coming, M_comingMany, M_going, M_goingMany, M_minute, M_pile, M_high, M_where, M_latest))
      else (
        if p2 = 2 then (
          zg (zin p1 10) <|
          some ((M_told p1.toNatClampNeg), M_coming, M_comingMany, M_going, M_goingMany, M_minute, M_pile, M_high, M_where, M_latest))
        else (
          if p2 = 3 then (
            zg (zin p1 10) <|
            (fX10_goesBy fuel (M_kind p1.toNatClampNeg) (M_figure p1.toNatClampNeg) (M_told p1.toNatClampNeg)).bind fun o_11 =>
            some (o_11, M_coming, M_comingMany, M_going, M_goingMany, M_minute, M_pile, M_high, M_where, M_latest))
          else (
            if p2 = 4 then (
              (fX10_liftOf fuel M_kind M_figure p1).bind fun o_13 =>
              some (o_13, M_coming, M_comingMany, M_going, M_goingMany, M_minute, M_pile, M_high, M_where, M_latest))
            else (
              if p2 = 5 then (
                (fX10_isBlack fuel M_kind p1).bind fun o_15 =>
                if o_15 = 0 then (
                  some (0, M_coming, M_comingMany, M_going, M_goingMany, M_minute, M_pile, M_high, M_where, M_latest))
                else (
                  some (1, M_coming, M_comingMany, M_going, M_goingMany, M_minute, M_pile, M_high, M_where, M_latest)))
              else (
                if p2 = 6 then (
                  (fX10_spare fuel M_kind M_figure p1).bind fun o_18 =>
                  some (o_18, M_coming, M_comingMany, M_going, M_goingMany, M_minute, M_pile, M_high, M_where, M_latest))
                else (
                  if p2 = 7 then (
                    (fX10_hangs fuel M_hooks p1).bind fun o_20 =>
                    if o_20 = 0 then (
                      some (0, M_coming, M_comingMany, M_going, M_goingMany, M_minute, M_pile, M_high, M_where, M_latest))
                    else (
                      some (1, M_coming, M_comingMany, M_going, M_goingMany, M_minute, M_pile, M_high, M_where, M_latest)))
                  else (
                    if p2 = 8 then (
                      (fX10_usual fuel M_guests M_kind M_figure M_told M_coming M_comingMany M_going M_goingMany M_minute).bind fun o_23 =>
                      (fX10_lay fuel M_heaps M_holds M_hooks M_letters M_rule o_23.1 o_23.2.1 o_23.2.2.2.2 M_pile M_high M_where M_latest).bind fun o_24 =>
                      zg (zin p1 10) <|
                      some ((o_24.2.2.1 p1.toNatClampNeg), o_23.1, o_23.2.1, o_23.2.2.1, o_23.2.2.2.1, o_23.2.2.2.2, o_24.1, o_24.2.1, o_24.2.2.1, o_24.2.2.2))
                    else (
                      some ((-1), M_coming, M_comingMany, M_going, M_goingMany, M_minute, M_pile, M_high, M_where, M_latest)))))))))))
def fX10_comes (fuel : Nat) (M_guests : Int32) (M_kind : Nat → Int32) (M_figure : Nat → Int32) (M_told : Nat → Int32) (M_held : Nat → Int32) (M_kindOn : Nat → Int32) (M_figureOn : Nat → Int32) (p1 : Int32) (p2 : Int32) : Option (Int32 × Int32 × (Nat → Int32) × (Nat → Int32) × (Nat → Int32)) :=
  (fX10_isShelf fuel p1).bind fun o_1 =>
  if o_1 = 0 then (
    some ((-1), M_guests, M_kind, M_figure, M_told))
  else (
    (fX10_isIn fuel p2 0 99).bind fun o_3 =>
    if o_3 = 0 then (
      some ((-1), M_guests, M_kind, M_figure, M_told))
    else (
      zg (zin p1 8) <|
      if (M_held p1.toNatClampNeg) = 1 then (
        if M_guests = 10 then (
          some ((-2), M_guests, M_kind, M_figure, M_told))
        else (
          (fX10_guestIs fuel M_guests M_kind M_figure M_told (M_kindOn p1.toNatClampNeg) (M_figureOn p1.toNatClampNeg) p2).bind fun o_8 =>
          some (o_8.1, o_8.2.1, o_8.2.2.1, o_8.2.2.2.1, o_8.2.2.2.2)))
      else (
        if (M_held p1.toNatClampNeg) = 0 then (
          some ((-11), M_guests, M_kind, M_figure, M_told))
        else (
          some ((-12), M_guests, M_kind, M_figure, M_told)))))
def fX10_set (fuel : Nat) (M_guests : Int32) (M_kind : Nat → Int32) (M_figure : Nat → Int32) (M_heaps : Int32) (M_holds : Int32) (M_back : Int32) (M_mistakes : Int32) (M_hooks : Int32) (M_letters : Int32) (p1 : Int32) (p2 : Int32) : Option (Int32 × Int32 × Int32 × Int32 × Int32) :=
  (fX10_isIn fuel p1 0 3).bind fun o_1 =>
  if o_1 = 0 then (
    if 2 ≤ p1 then (
      if p1 = 0 then (
        if ((-1) : Int32) = (-1) then (
          some ((-1), M_heaps, M_holds, M_back, M_mistakes))
        else (
          (fX10_isIn fuel p2 0 3).bind fun o_62 =>
          if o_62 = 0 then (
            some ((-1), M_heaps, M_holds, M_back, M_mistakes))
          else (
            if p1 = 0 then (
              if p1 = 1 then (
                if p1 = 2 then (
                  if p1 = 3 then (
                    some ((-1), p2, p2, p2, p2))
                  else (
                    some ((-1), p2, p2, p2, M_mistakes)))
                else (
                  if p1 = 3 then (
                    some ((-1), p2, p2, M_back, p2))
                  else (
                    some ((-1), p2, p2, M_back, M_mistakes))))
              else (
                if p1 = 2 then (
                  if p1 = 3 then (
                    some ((-1), p2, M_holds, p2, p2))
                  else (
                    some ((-1), p2, M_holds, p2, M_mistakes)))
                else (
                  if p1 = 3 then (
                    some ((-1), p2, M_holds, M_back, p2))
                  else (
                    some ((-1), p2, M_holds, M_back, M_mistakes)))))
            else (
              if p1 = 1 then (
                if p1 = 2 then (
                  if p1 = 3 then (
                    some ((-1), M_heaps, p2, p2, p2))
                  else (
                    some ((-1), M_heaps, p2, p2, M_mistakes)))
                else (
                  if p1 = 3 then (
                    some ((-1), M_heaps, p2, M_back, p2))
                  else (
                    some ((-1), M_heaps, p2, M_back, M_mistakes))))
              else (
                if p1 = 2 then (
                  if p1 = 3 then (
                    some ((-1), M_heaps, M_holds, p2, p2))
                  else (
                    some ((-1), M_heaps, M_holds, p2, M_mistakes)))
                else (
                  if p1 = 3 then (
                    some ((-1), M_heaps, M_holds, M_back, p2))
                  else (
                    some ((-1), M_heaps, M_holds, M_back, M_mistakes))))))))
      else (
        if p1 = 1 then (
          if ((-1) : Int32) = (-1) then (
            some ((-1), M_heaps, M_holds, M_back, M_mistakes))
          else (
            (fX10_isIn fuel p2 0 9).bind fun o_44 =>
            if o_44 = 0 then (
              some ((-1), M_heaps, M_holds, M_back, M_mistakes))
            else (
              if p1 = 0 then (
                if p1 = 1 then (
                  if p1 = 2 then (
                    if p1 = 3 then (
                      some ((-1), p2, p2, p2, p2))
                    else (
                      some ((-1), p2, p2, p2, M_mistakes)))
                  else (
                    if p1 = 3 then (
                      some ((-1), p2, p2, M_back, p2))
                    else (
                      some ((-1), p2, p2, M_back, M_mistakes))))
                else (
                  if p1 = 2 then (
                    if p1 = 3 then (
                      some ((-1), p2, M_holds, p2, p2))
                    else (
                      some ((-1), p2, M_holds, p2, M_mistakes)))
                  else (
                    if p1 = 3 then (
                      some ((-1), p2, M_holds, M_back, p2))
                    else (
                      some ((-1), p2, M_holds, M_back, M_mistakes)))))
              else (
                if p1 = 1 then (
                  if p1 = 2 then (
                    if p1 = 3 then (
                      some ((-1), M_heaps, p2, p2, p2))
                    else (
                      some ((-1), M_heaps, p2, p2, M_mistakes)))
                  else (
                    if p1 = 3 then (
                      some ((-1), M_heaps, p2, M_back, p2))
                    else (
                      some ((-1), M_heaps, p2, M_back, M_mistakes))))
                else (
                  if p1 = 2 then (
                    if p1 = 3 then (
                      some ((-1), M_heaps, M_holds, p2, p2))
                    else (
                      some ((-1), M_heaps, M_holds, p2, M_mistakes)))
                  else (
                    if p1 = 3 then (
                      some ((-1), M_heaps, M_holds, M_back, p2))
                    else (
                      some ((-1), M_heaps, M_holds, M_back, M_mistakes))))))))
        else (
          if p1 = 2 then (
            if ((-1) : Int32) = (-1) then (
              some ((-1), M_heaps, M_holds, M_back, M_mistakes))
            else (
              (fX10_isIn fuel p2 0 2).bind fun o_26 =>
              if o_26 = 0 then (
                some ((-1), M_heaps, M_holds, M_back, M_mistakes))
              else (
                if p1 = 0 then (
                  if p1 = 1 then (
                    if p1 = 2 then (
                      if p1 = 3 then (
                        some ((-1), p2, p2, p2, p2))
                      else (
                        some ((-1), p2, p2, p2, M_mistakes)))
                    else (
                      if p1 = 3 then (
                        some ((-1), p2, p2, M_back, p2))
                      else (
                        some ((-1), p2, p2, M_back, M_mistakes))))
                  else (
                    if p1 = 2 then (
                      if p1 = 3 then (
                        some ((-1), p2, M_holds, p2, p2))
                      else (
                        some ((-1), p2, M_holds, p2, M_mistakes)))
                    else (
                      if p1 = 3 then (
                        some ((-1), p2, M_holds, M_back, p2))
                      else (
                        some ((-1), p2, M_holds, M_back, M_mistakes)))))
                else (
                  if p1 = 1 then (
                    if p1 = 2 then (
                      if p1 = 3 then (
                        some ((-1), M_heaps, p2, p2, p2))
                      else (
                        some ((-1), M_heaps, p2, p2, M_mistakes)))
                    else (
                      if p1 = 3 then (
                        some ((-1), M_heaps, p2, M_back, p2))
                      else (
                        some ((-1), M_heaps, p2, M_back, M_mistakes))))
                  else (
                    if p1 = 2 then (
                      if p1 = 3 then (
                        some ((-1), M_heaps, M_holds, p2, p2))
                      else (
                        some ((-1), M_heaps, M_holds, p2, M_mistakes)))
                    else (
                      if p1 = 3 then (
                        some ((-1), M_heaps, M_holds, M_back, p2))
                      else (
                        some ((-1), M_heaps, M_holds, M_back, M_mistakes))))))))
          else (
            if ((-1) : Int32) = (-1) then (
              some ((-1), M_heaps, M_holds, M_back, M_mistakes))
            else (
              (fX10_isIn fuel p2 0 1).bind fun o_8 =>
              if o_8 = 0 then (
                some ((-1), M_heaps, M_holds, M_back, M_mistakes))
              else (
                if p1 = 0 then (
                  if p1 = 1 then (
                    if p1 = 2 then (
                      if p1 = 3 then (
                        some ((-1), p2, p2, p2, p2))
                      else (
                        some ((-1), p2, p2, p2, M_mistakes)))
                    else (
                      if p1 = 3 then (
                        some ((-1), p2, p2, M_back, p2))
                      else (
                        some ((-1), p2, p2, M_back, M_mistakes))))
                  else (
                    if p1 = 2 then (
                      if p1 = 3 then (
                        some ((-1), p2, M_holds, p2, p2))
                      else (
                        some ((-1), p2, M_holds, p2, M_mistakes)))
                    else (
                      if p1 = 3 then (
                        some ((-1), p2, M_holds, M_back, p2))
                      else (
                        some ((-1), p2, M_holds, M_back, M_mistakes)))))
                else (
                  if p1 = 1 then (
                    if p1 = 2 then (
                      if p1 = 3 then (
                        some ((-1), M_heaps, p2, p2, p2))
                      else (
                        some ((-1), M_heaps, p2, p2, M_mistakes)))
                    else (
                      if p1 = 3 then (
                        some ((-1), M_heaps, p2, M_back, p2))
                      else (
                        some ((-1), M_heaps, p2, M_back, M_mistakes))))
                  else (
                    if p1 = 2 then (
                      if p1 = 3 then (
                        some ((-1), M_heaps, M_holds, p2, p2))
                      else (
                        some ((-1), M_heaps, M_holds, p2, M_mistakes)))
                    else (
                      if p1 = 3 then (
                        some ((-1), M_heaps, M_holds, M_back, p2))
                      else (
                        some ((-1), M_heaps, M_holds, M_back, M_mistakes)))))))))))
    else (
      if p1 = 0 then (
        if ((-1) : Int32) = (-1) then (
          some ((-1), M_heaps, M_holds, M_back, M_mistakes))
        else (
          (fX10_isIn fuel p2 1 3).bind fun o_137 =>
          if o_137 = 0 then (
            some ((-1), M_heaps, M_holds, M_back, M_mistakes))
          else (
            if p1 = 0 then (
              if p1 = 1 then (
                if p1 = 2 then (
                  if p1 = 3 then (
                    some ((-1), p2, p2, p2, p2))
                  else (
                    some ((-1), p2, p2, p2, M_mistakes)))
                else (
                  if p1 = 3 then (
                    some ((-1), p2, p2, M_back, p2))
                  else (
                    some ((-1), p2, p2, M_back, M_mistakes))))
              else (
                if p1 = 2 then (
                  if p1 = 3 then (
                    some ((-1), p2, M_holds, p2, p2))
                  else (
                    some ((-1), p2, M_holds, p2, M_mistakes)))
                else (
                  if p1 = 3 then (
                    some ((-1), p2, M_holds, M_back, p2))
                  else (
                    some ((-1), p2, M_holds, M_back, M_mistakes)))))
            else (
              if p1 = 1 then (
                if p1 = 2 then (
                  if p1 = 3 then (
                    some ((-1), M_heaps, p2, p2, p2))
                  else (
                    some ((-1), M_heaps, p2, p2, M_mistakes)))
                else (
                  if p1 = 3 then (
                    some ((-1), M_heaps, p2, M_back, p2))
                  else (
                    some ((-1), M_heaps, p2, M_back, M_mistakes))))
              else (
                if p1 = 2 then (
                  if p1 = 3 then (
                    some ((-1), M_heaps, M_holds, p2, p2))
                  else (
                    some ((-1), M_heaps, M_holds, p2, M_mistakes)))
                else (
                  if p1 = 3 then (
                    some ((-1), M_heaps, M_holds, M_back, p2))
                  else (
                    some ((-1), M_heaps, M_holds, M_back, M_mistakes))))))))
      else (
        if p1 = 1 then (
          if ((-1) : Int32) = (-1) then (
            some ((-1), M_heaps, M_holds, M_back, M_mistakes))
          else (
            (fX10_isIn fuel p2 1 9).bind fun o_119 =>
            if o_119 = 0 then (
              some ((-1), M_heaps, M_holds, M_back, M_mistakes))
            else (
              if p1 = 0 then (
                if p1 = 1 then (
                  if p1 = 2 then (
                    if p1 = 3 then (
                      some ((-1), p2, p2, p2, p2))
                    else (
                      some ((-1), p2, p2, p2, M_mistakes)))
                  else (
                    if p1 = 3 then (
                      some ((-1), p2, p2, M_back, p2))
                    else (
                      some ((-1), p2, p2, M_back, M_mistakes))))
                else (
                  if p1 = 2 then (
                    if p1 = 3 then (
                      some ((-1), p2, M_holds, p2, p2))
                    else (
                      some ((-1), p2, M_holds, p2, M_mistakes)))
                  else (
                    if p1 = 3 then (
                      some ((-1), p2, M_holds, M_back, p2))
                    else (
                      some ((-1), p2, M_holds, M_back, M_mistakes)))))
              else (
                if p1 = 1 then (
                  if p1 = 2 then (
                    if p1 = 3 then (
                      some ((-1), M_heaps, p2, p2, p2))
                    else (
                      some ((-1), M_heaps, p2, p2, M_mistakes)))
                  else (
                    if p1 = 3 then (
                      some ((-1), M_heaps, p2, M_back, p2))
                    else (
                      some ((-1), M_heaps, p2, M_back, M_mistakes))))
                else (
                  if p1 = 2 then (
                    if p1 = 3 then (
                      some ((-1), M_heaps, M_holds, p2, p2))
                    else (
                      some ((-1), M_heaps, M_holds, p2, M_mistakes)))
                  else (
                    if p1 = 3 then (
                      some ((-1), M_heaps, M_holds, M_back, p2))
                    else (
                      some ((-1), M_heaps, M_holds, M_back, M_mistakes))))))))
        else (
          if p1 = 2 then (
            if ((-1) : Int32) = (-1) then (
              some ((-1), M_heaps, M_holds, M_back, M_mistakes))
            else (
              (fX10_isIn fuel p2 1 2).bind fun o_101 =>
              if o_101 = 0 then (
                some ((-1), M_heaps, M_holds, M_back, M_mistakes))
              else (
                if p1 = 0 then (
                  if p1 = 1 then (
                    if p1 = 2 then (
                      if p1 = 3 then (
                        some ((-1), p2, p2, p2, p2))
                      else (
                        some ((-1), p2, p2, p2, M_mistakes)))
                    else (
                      if p1 = 3 then (
                        some ((-1), p2, p2, M_back, p2))
                      else (
                        some ((-1), p2, p2, M_back, M_mistakes))))
                  else (
                    if p1 = 2 then (
                      if p1 = 3 then (
                        some ((-1), p2, M_holds, p2, p2))
                      else (
                        some ((-1), p2, M_holds, p2, M_mistakes)))
                    else (
                      if p1 = 3 then (
                        some ((-1), p2, M_holds, M_back, p2))
                      else (
                        some ((-1), p2, M_holds, M_back, M_mistakes)))))
                else (
                  if p1 = 1 then (
                    if p1 = 2 then (
                      if p1 = 3 then (
                        some ((-1), M_heaps, p2, p2, p2))
                      else (
                        some ((-1), M_heaps, p2, p2, M_mistakes)))
                    else (
                      if p1 = 3 then (
                        some ((-1), M_heaps, p2, M_back, p2))
                      else (
                        some ((-1), M_heaps, p2, M_back, M_mistakes))))
                  else (
                    if p1 = 2 then (
                      if p1 = 3 then (
                        some ((-1), M_heaps, M_holds, p2, p2))
                      else (
                        some ((-1), M_heaps, M_holds, p2, M_mistakes)))
                    else (
                      if p1 = 3 then (
                        some ((-1), M_heaps, M_holds, M_back, p2))
                      else (
                        some ((-1), M_heaps, M_holds, M_back, M_mistakes))))))))
          else (
            if ((-1) : Int32) = (-1) then (
              some ((-1), M_heaps, M_holds, M_back, M_mistakes))
            else (
              (fX10_isIn fuel p2 1 1).bind fun o_83 =>
              if o_83 = 0 then (
                some ((-1), M_heaps, M_holds, M_back, M_mistakes))
              else (
                if p1 = 0 then (
                  if p1 = 1 then (
                    if p1 = 2 then (
                      if p1 = 3 then (
                        some ((-1), p2, p2, p2, p2))
                      else (
                        some ((-1), p2, p2, p2, M_mistakes)))
                    else (
                      if p1 = 3 then (
                        some ((-1), p2, p2, M_back, p2))
                      else (
                        some ((-1), p2, p2, M_back, M_mistakes))))
                  else (
                    if p1 = 2 then (
                      if p1 = 3 then (
                        some ((-1), p2, M_holds, p2, p2))
                      else (
                        some ((-1), p2, M_holds, p2, M_mistakes)))
                    else (
                      if p1 = 3 then (
                        some ((-1), p2, M_holds, M_back, p2))
                      else (
                        some ((-1), p2, M_holds, M_back, M_mistakes)))))
                else (
                  if p1 = 1 then (
                    if p1 = 2 then (
                      if p1 = 3 then (
                        some ((-1), M_heaps, p2, p2, p2))
                      else (
                        some ((-1), M_heaps, p2, p2, M_mistakes)))
                    else (
                      if p1 = 3 then (
                        some ((-1), M_heaps, p2, M_back, p2))
                      else (
                        some ((-1), M_heaps, p2, M_back, M_mistakes))))
                  else (
                    if p1 = 2 then (
                      if p1 = 3 then (
                        some ((-1), M_heaps, M_holds, p2, p2))
                      else (
                        some ((-1), M_heaps, M_holds, p2, M_mistakes)))
                    else (
                      if p1 = 3 then (
                        some ((-1), M_heaps, M_holds, M_back, p2))
                      else (
                        some ((-1), M_heaps, M_holds, M_back, M_mistakes))))))))))))
  else (
    (fX10_count fuel M_guests M_kind M_figure M_heaps M_holds M_back M_mistakes M_hooks M_letters (p1 + 1)).bind fun o_154 =>
    if 2 ≤ p1 then (
      if p1 = 0 then (
        if o_154 = (-1) then (
          some ((-1), M_heaps, M_holds, M_back, M_mistakes))
        else (
          (fX10_isIn fuel p2 0 3).bind fun o_214 =>
          if o_214 = 0 then (
            some ((-1), M_heaps, M_holds, M_back, M_mistakes))
          else (
            if p1 = 0 then (
              if p1 = 1 then (
                if p1 = 2 then (
                  if p1 = 3 then (
                    some (o_154, p2, p2, p2, p2))
                  else (
                    some (o_154, p2, p2, p2, M_mistakes)))
                else (
                  if p1 = 3 then (
                    some (o_154, p2, p2, M_back, p2))
                  else (
                    some (o_154, p2, p2, M_back, M_mistakes))))
              else (
                if p1 = 2 then (
                  if p1 = 3 then (
                    some (o_154, p2, M_holds, p2, p2))
                  else (
                    some (o_154, p2, M_holds, p2, M_mistakes)))
                else (
                  if p1 = 3 then (
                    some (o_154, p2, M_holds, M_back, p2))
                  else (
                    some (o_154, p2, M_holds, M_back, M_mistakes)))))
            else (
              if p1 = 1 then (
                if p1 = 2 then (
                  if p1 = 3 then (
                    some (o_154, M_heaps, p2, p2, p2))
                  else (
                    some (o_154, M_heaps, p2, p2, M_mistakes)))
                else (
                  if p1 = 3 then (
                    some (o_154, M_heaps, p2, M_back, p2))
                  else (
                    some (o_154, M_heaps, p2, M_back, M_mistakes))))
              else (
                if p1 = 2 then (
                  if p1 = 3 then (
                    some (o_154, M_heaps, M_holds, p2, p2))
                  else (
                    some (o_154, M_heaps, M_holds, p2, M_mistakes)))
                else (
                  if p1 = 3 then (
                    some (o_154, M_heaps, M_holds, M_back, p2))
                  else (
                    some (o_154, M_heaps, M_holds, M_back, M_mistakes))))))))
      else (
        if p1 = 1 then (
          if o_154 = (-1) then (
            some ((-1), M_heaps, M_holds, M_back, M_mistakes))
          else (
            (fX10_isIn fuel p2 0 9).bind fun o_196 =>
            if o_196 = 0 then (
              some ((-1), M_heaps, M_holds, M_back, M_mistakes))
            else (
              if p1 = 0 then (
                if p1 = 1 then (
                  if p1 = 2 then (
                    if p1 = 3 then (
                      some (o_154, p2, p2, p2, p2))
                    else (
                      some (o_154, p2, p2, p2, M_mistakes)))
                  else (
                    if p1 = 3 then (
                      some (o_154, p2, p2, M_back, p2))
                    else (
                      some (o_154, p2, p2, M_back, M_mistakes))))
                else (
                  if p1 = 2 then (
                    if p1 = 3 then (
                      some (o_154, p2, M_holds, p2, p2))
                    else (
                      some (o_154, p2, M_holds, p2, M_mistakes)))
                  else (
                    if p1 = 3 then (
                      some (o_154, p2, M_holds, M_back, p2))
                    else (
                      some (o_154, p2, M_holds, M_back, M_mistakes)))))
              else (
                if p1 = 1 then (
                  if p1 = 2 then (
                    if p1 = 3 then (
                      some (o_154, M_heaps, p2, p2, p2))
                    else (
                      some (o_154, M_heaps, p2, p2, M_mistakes)))
                  else (
                    if p1 = 3 then (
                      some (o_154, M_heaps, p2, M_back, p2))
                    else (
                      some (o_154, M_heaps, p2, M_back, M_mistakes))))
                else (
                  if p1 = 2 then (
                    if p1 = 3 then (
                      some (o_154, M_heaps, M_holds, p2, p2))
                    else (
                      some (o_154, M_heaps, M_holds, p2, M_mistakes)))
                  else (
                    if p1 = 3 then (
                      some (o_154, M_heaps, M_holds, M_back, p2))
                    else (
                      some (o_154, M_heaps, M_holds, M_back, M_mistakes))))))))
        else (
          if p1 = 2 then (
            if o_154 = (-1) then (
              some ((-1), M_heaps, M_holds, M_back, M_mistakes))
            else (
              (fX10_isIn fuel p2 0 2).bind fun o_178 =>
              if o_178 = 0 then (
                some ((-1), M_heaps, M_holds, M_back, M_mistakes))
              else (
                if p1 = 0 then (
                  if p1 = 1 then (
                    if p1 = 2 then (
                      if p1 = 3 then (
                        some (o_154, p2, p2, p2, p2))
                      else (
                        some (o_154, p2, p2, p2, M_mistakes)))
                    else (
                      if p1 = 3 then (
                        some (o_154, p2, p2, M_back, p2))
                      else (
                        some (o_154, p2, p2, M_back, M_mistakes))))
                  else (
                    if p1 = 2 then (
                      if p1 = 3 then (
                        some (o_154, p2, M_holds, p2, p2))
                      else (
                        some (o_154, p2, M_holds, p2, M_mistakes)))
                    else (
                      if p1 = 3 then (
                        some (o_154, p2, M_holds, M_back, p2))
                      else (
                        some (o_154, p2, M_holds, M_back, M_mistakes)))))
                else (
                  if p1 = 1 then (
                    if p1 = 2 then (
                      if p1 = 3 then (
                        some (o_154, M_heaps, p2, p2, p2))
                      else (
                        some (o_154, M_heaps, p2, p2, M_mistakes)))
                    else (
                      if p1 = 3 then (
                        some (o_154, M_heaps, p2, M_back, p2))
                      else (
                        some (o_154, M_heaps, p2, M_back, M_mistakes))))
                  else (
                    if p1 = 2 then (
                      if p1 = 3 then (
                        some (o_154, M_heaps, M_holds, p2, p2))
                      else (
                        some (o_154, M_heaps, M_holds, p2, M_mistakes)))
                    else (
                      if p1 = 3 then (
                        some (o_154, M_heaps, M_holds, M_back, p2))
                      else (
                        some (o_154, M_heaps, M_holds, M_back, M_mistakes))))))))
          else (
            if o_154 = (-1) then (
              some ((-1), M_heaps, M_holds, M_back, M_mistakes))
            else (
              (fX10_isIn fuel p2 0 1).bind fun o_160 =>
              if o_160 = 0 then (
                some ((-1), M_heaps, M_holds, M_back, M_mistakes))
              else (
                if p1 = 0 then (
                  if p1 = 1 then (
                    if p1 = 2 then (
                      if p1 = 3 then (
                        some (o_154, p2, p2, p2, p2))
                      else (
                        some (o_154, p2, p2, p2, M_mistakes)))
                    else (
                      if p1 = 3 then (
                        some (o_154, p2, p2, M_back, p2))
                      else (
                        some (o_154, p2, p2, M_back, M_mistakes))))
                  else (
                    if p1 = 2 then (
                      if p1 = 3 then (
                        some (o_154, p2, M_holds, p2, p2))
                      else (
                        some (o_154, p2, M_holds, p2, M_mistakes)))
                    else (
                      if p1 = 3 then (
                        some (o_154, p2, M_holds, M_back, p2))
                      else (
                        some (o_154, p2, M_holds, M_back, M_mistakes)))))
                else (
                  if p1 = 1 then (
                    if p1 = 2 then (
                      if p1 = 3 then (
                        some (o_154, M_heaps, p2, p2, p2))
                      else (
                        some (o_154, M_heaps, p2, p2, M_mistakes)))
                    else (
                      if p1 = 3 then (
                        some (o_154, M_heaps, p2, M_back, p2))
                      else (
                        some (o_154, M_heaps, p2, M_back, M_mistakes))))
                  else (
                    if p1 = 2 then (
                      if p1 = 3 then (
                        some (o_154, M_heaps, M_holds, p2, p2))
                      else (
                        some (o_154, M_heaps, M_holds, p2, M_mistakes)))
                    else (
                      if p1 = 3 then (
                        some (o_154, M_heaps, M_holds, M_back, p2))
                      else (
                        some (o_154, M_heaps, M_holds, M_back, M_mistakes)))))))))))
    else (
      if p1 = 0 then (
        if o_154 = (-1) then (
          some ((-1), M_heaps, M_holds, M_back, M_mistakes))
        else (
          (fX10_isIn fuel p2 1 3).bind fun o_289 =>
          if o_289 = 0 then (
            some ((-1), M_heaps, M_holds, M_back, M_mistakes))
          else (
            if p1 = 0 then (
              if p1 = 1 then (
                if p1 = 2 then (
                  if p1 = 3 then (
                    some (o_154, p2, p2, p2, p2))
                  else (
                    some (o_154, p2, p2, p2, M_mistakes)))
                else (
                  if p1 = 3 then (
                    some (o_154, p2, p2, M_back, p2))
                  else (
                    some (o_154, p2, p2, M_back, M_mistakes))))
              else (
                if p1 = 2 then (
                  if p1 = 3 then (
                    some (o_154, p2, M_holds, p2, p2))
                  else (
                    some (o_154, p2, M_holds, p2, M_mistakes)))
                else (
                  if p1 = 3 then (
                    some (o_154, p2, M_holds, M_back, p2))
                  else (
                    some (o_154, p2, M_holds, M_back, M_mistakes)))))
            else (
              if p1 = 1 then (
                if p1 = 2 then (
                  if p1 = 3 then (
                    some (o_154, M_heaps, p2, p2, p2))
                  else (
                    some (o_154, M_heaps, p2, p2, M_mistakes)))
                else (
                  if p1 = 3 then (
                    some (o_154, M_heaps, p2, M_back, p2))
                  else (
                    some (o_154, M_heaps, p2, M_back, M_mistakes))))
              else (
                if p1 = 2 then (
                  if p1 = 3 then (
                    some (o_154, M_heaps, M_holds, p2, p2))
                  else (
                    some (o_154, M_heaps, M_holds, p2, M_mistakes)))
                else (
                  if p1 = 3 then (
                    some (o_154, M_heaps, M_holds, M_back, p2))
                  else (
                    some (o_154, M_heaps, M_holds, M_back, M_mistakes))))))))
      else (
        if p1 = 1 then (
          if o_154 = (-1) then (
            some ((-1), M_heaps, M_holds, M_back, M_mistakes))
          else (
            (fX10_isIn fuel p2 1 9).bind fun o_271 =>
            if o_271 = 0 then (
              some ((-1), M_heaps, M_holds, M_back, M_mistakes))
            else (
              if p1 = 0 then (
                if p1 = 1 then (
                  if p1 = 2 then (
                    if p1 = 3 then (
                      some (o_154, p2, p2, p2, p2))
                    else (
                      some (o_154, p2, p2, p2, M_mistakes)))
                  else (
                    if p1 = 3 then (
                      some (o_154, p2, p2, M_back, p2))
                    else (
                      some (o_154, p2, p2, M_back, M_mistakes))))
                else (
                  if p1 = 2 then (
                    if p1 = 3 then (
                      some (o_154, p2, M_holds, p2, p2))
                    else (
                      some (o_154, p2, M_holds, p2, M_mistakes)))
                  else (
                    if p1 = 3 then (
                      some (o_154, p2, M_holds, M_back, p2))
                    else (
                      some (o_154, p2, M_holds, M_back, M_mistakes)))))
              else (
                if p1 = 1 then (
                  if p1 = 2 then (
                    if p1 = 3 then (
                      some (o_154, M_heaps, p2, p2, p2))
                    else (
                      some (o_154, M_heaps, p2, p2, M_mistakes)))
                  else (
                    if p1 = 3 then (
                      some (o_154, M_heaps, p2, M_back, p2))
                    else (
                      some (o_154, M_heaps, p2, M_back, M_mistakes))))
                else (
                  if p1 = 2 then (
                    if p1 = 3 then (
                      some (o_154, M_heaps, M_holds, p2, p2))
                    else (
                      some (o_154, M_heaps, M_holds, p2, M_mistakes)))
                  else (
                    if p1 = 3 then (
                      some (o_154, M_heaps, M_holds, M_back, p2))
                    else (
                      some (o_154, M_heaps, M_holds, M_back, M_mistakes))))))))
        else (
          if p1 = 2 then (
            if o_154 = (-1) then (
              some ((-1), M_heaps, M_holds, M_back, M_mistakes))
            else (
              (fX10_isIn fuel p2 1 2).bind fun o_253 =>
              if o_253 = 0 then (
                some ((-1), M_heaps, M_holds, M_back, M_mistakes))
              else (
                if p1 = 0 then (
                  if p1 = 1 then (
                    if p1 = 2 then (
                      if p1 = 3 then (
                        some (o_154, p2, p2, p2, p2))
                      else (
                        some (o_154, p2, p2, p2, M_mistakes)))
                    else (
                      if p1 = 3 then (
                        some (o_154, p2, p2, M_back, p2))
                      else (
                        some (o_154, p2, p2, M_back, M_mistakes))))
                  else (
                    if p1 = 2 then (
                      if p1 = 3 then (
                        some (o_154, p2, M_holds, p2, p2))
                      else (
                        some (o_154, p2, M_holds, p2, M_mistakes)))
                    else (
                      if p1 = 3 then (
                        some (o_154, p2, M_holds, M_back, p2))
                      else (
                        some (o_154, p2, M_holds, M_back, M_mistakes)))))
                else (
                  if p1 = 1 then (
                    if p1 = 2 then (
                      if p1 = 3 then (
                        some (o_154, M_heaps, p2, p2, p2))
                      else (
                        some (o_154, M_heaps, p2, p2, M_mistakes)))
                    else (
                      if p1 = 3 then (
                        some (o_154, M_heaps, p2, M_back, p2))
                      else (
                        some (o_154, M_heaps, p2, M_back, M_mistakes))))
                  else (
                    if p1 = 2 then (
                      if p1 = 3 then (
                        some (o_154, M_heaps, M_holds, p2, p2))
                      else (
                        some (o_154, M_heaps, M_holds, p2, M_mistakes)))
                    else (
                      if p1 = 3 then (
                        some (o_154, M_heaps, M_holds, M_back, p2))
                      else (
                        some (o_154, M_heaps, M_holds, M_back, M_mistakes))))))))
          else (
            if o_154 = (-1) then (
              some ((-1), M_heaps, M_holds, M_back, M_mistakes))
            else (
              (fX10_isIn fuel p2 1 1).bind fun o_235 =>
              if o_235 = 0 then (
                some ((-1), M_heaps, M_holds, M_back, M_mistakes))
              else (
                if p1 = 0 then (
                  if p1 = 1 then (
                    if p1 = 2 then (
                      if p1 = 3 then (
                        some (o_154, p2, p2, p2, p2))
                      else (
                        some (o_154, p2, p2, p2, M_mistakes)))
                    else (
                      if p1 = 3 then (
                        some (o_154, p2, p2, M_back, p2))
                      else (
                        some (o_154, p2, p2, M_back, M_mistakes))))
                  else (
                    if p1 = 2 then (
                      if p1 = 3 then (
                        some (o_154, p2, M_holds, p2, p2))
                      else (
                        some (o_154, p2, M_holds, p2, M_mistakes)))
                    else (
                      if p1 = 3 then (
                        some (o_154, p2, M_holds, M_back, p2))
                      else (
                        some (o_154, p2, M_holds, M_back, M_mistakes)))))
                else (
                  if p1 = 1 then (
                    if p1 = 2 then (
                      if p1 = 3 then (
                        some (o_154, M_heaps, p2, p2, p2))
                      else (
                        some (o_154, M_heaps, p2, p2, M_mistakes)))
                    else (
                      if p1 = 3 then (
                        some (o_154, M_heaps, p2, M_back, p2))
                      else (
                        some (o_154, M_heaps, p2, M_back, M_mistakes))))
                  else (
                    if p1 = 2 then (
                      if p1 = 3 then (
                        some (o_154, M_heaps, M_holds, p2, p2))
                      else (
                        some (o_154, M_heaps, M_holds, p2, M_mistakes)))
                    else (
                      if p1 = 3 then (
                        some (o_154, M_heaps, M_holds, M_back, p2))
                      else (
                        some (o_154, M_heaps, M_holds, M_back, M_mistakes))))))))))))
def fX10_rule_J28 (M_held : Nat → Int32) (p1 : Int32) (M_letters : Int32) (M_rule : Nat → Int32) (M_at : Int32) (M_text : Int32) (M_row : Int32) (M_field : Nat → Int32) : Option (Int32 × Int32 × (Nat → Int32) × Int32 × Int32 × Int32 × (Nat → Int32)) :=
  zg (zin p1 8) <|
  if (M_held p1.toNatClampNeg) = 0 then (
    some ((-11), M_letters, M_rule, M_at, M_text, M_row, M_field))
  else (
    some ((-12), M_letters, M_rule, M_at, M_text, M_row, M_field))
def fX10_rule_L125 : Nat → Int32 → Int32 → (Nat → Int32) → Int32 → Int32 → Int32 → (Nat → Int32) → Option (Int32 × Int32 × (Nat → Int32) × Int32 × Int32 × Int32 × (Nat → Int32))
  | 0, _, _, _, _, _, _, _ => none
  | n + 1, v2, M_letters, M_rule, M_at, M_text, M_row, M_field =>
    if M_text ≤ v2 then (
      some (M_text, M_letters, M_rule, M_at, M_text, M_row, M_field))
    else (
      zg (zin v2 6) <|
      zlet (upd M_rule v2.toNatClampNeg (M_field v2.toNatClampNeg)) fun M_rule_16 =>
      zlet (v2 + 1) fun v2_17 =>
      fX10_rule_L125 n v2_17 M_letters M_rule_16 M_at M_text M_row M_field)
def fX10_rule_J101 (fuel : Nat) (M_letters : Int32) (M_rule : Nat → Int32) (M_at : Int32) (M_text : Int32) (M_row : Int32) (M_field : Nat → Int32) : Option (Int32 × Int32 × (Nat → Int32) × Int32 × Int32 × Int32 × (Nat → Int32)) :=
  if M_text ≤ M_at then (
    fX10_rule_L125 fuel 0 M_text M_rule M_at M_text M_row M_field)
  else (
    some ((-13), M_letters, M_rule, M_at, M_text, M_row, M_field))
def fX10_rule_L67 (fuel : Nat) (M_ruleLetters : Nat → Int32) (M_items : Nat → Int32) : Nat → Int32 → Int32 → (Nat → Int32) → Int32 → Int32 → Int32 → (Nat → Int32) → Option (Int32 × Int32 × (Nat → Int32) × Int32 × Int32 × Int32 × (Nat → Int32))
  | 0, _, _, _, _, _, _, _ => none
  | n + 1, v2, M_letters, M_rule, M_at, M_text, M_row, M_field =>
    if M_text ≤ v2 then (
      fX10_rule_J101 fuel M_letters M_rule M_at M_text M_row M_field)
    else (
      if 6 ≤ v2 then (
        fX10_rule_J101 fuel M_letters M_rule M_at M_text M_row M_field)
      else (
        (fX10_oneOf_ruleLetters fuel M_at M_text M_row M_ruleLetters M_items).bind fun o_9 =>
        zg (zin v2 6) <|
        zlet (upd M_field v2.toNatClampNeg o_9.1) fun M_field_11 =>
        zlet (v2 + 1) fun v2_12 =>
        fX10_rule_L67 fuel M_ruleLetters M_items n v2_12 M_letters M_rule o_9.2 M_text M_row M_field_11))
def fX10_rule (fuel : Nat) (M_letters : Int32) (M_rule : Nat → Int32) (M_at : Int32) (M_text : Int32) (M_row : Int32) (M_field : Nat → Int32) (M_ruleLetters : Nat → Int32) (M_held : Nat → Int32) (M_sorts : Nat → Int32) (M_size : Nat → Int32) (M_items : Nat → Int32) (p1 : Int32) : Option (Int32 × Int32 × (Nat → Int32) × Int32 × Int32 × Int32 × (Nat → Int32)) :=
  (fX10_isShelf fuel p1).bind fun o_1 =>
  if o_1 = 0 then (
    some ((-1), M_letters, M_rule, M_at, M_text, M_row, M_field))
  else (
    zg (zin p1 8) <|
    if (M_held p1.toNatClampNeg) = 2 then (
      if (M_sorts p1.toNatClampNeg) = 0 then (
        zlet (M_size p1.toNatClampNeg) fun text_6 =>
        fX10_rule_L67 fuel M_ruleLetters M_items fuel 0 M_letters M_rule 0 text_6 p1 M_field)
      else (
        fX10_rule_J28 M_held p1 M_letters M_rule M_at M_text M_row M_field))
    else (
      fX10_rule_J28 M_held p1 M_letters M_rule M_at M_text M_row M_field))
def fX10_judge_J156 (k48 : Int32 → Int32 → (Nat → Int32) → Int32 → (Nat → Int32) → Int32 → (Nat → Int32) → (Nat → Int32) → (Nat → Int32) → (Nat → Int32) → Int32 → Option (Int32 × (Nat → Int32) × Int32 × (Nat → Int32) × Int32 × (Nat → Int32) × (Nat → Int32) × (Nat → Int32) × (Nat → Int32) × Int32)) (v2 : Int32) (v3 : Int32) (M_coming : Nat → Int32) (M_comingMany : Int32) (M_going : Nat → Int32) (M_goingMany : Int32) (M_minute : Nat → Int32) (M_pile : Nat → Int32) (M_high : Nat → Int32) (M_where : Nat → Int32) (M_latest : Int32) : Option (Int32 × (Nat → Int32) × Int32 × (Nat → Int32) × Int32 × (Nat → Int32) × (Nat → Int32) × (Nat → Int32) × (Nat → Int32) × Int32) :=
  zlet (v3 + 1) fun v3_25 =>
  k48 v2 v3_25 M_coming M_comingMany M_going M_goingMany M_minute M_pile M_high M_where M_latest
def fX10_judge_L48 (fuel : Nat) (M_guests : Int32) (M_size : Nat → Int32) (M_items : Nat → Int32) (p1 : Int32) : Nat → Int32 → Int32 → (Nat → Int32) → Int32 → (Nat → Int32) → Int32 → (Nat → Int32) → (Nat → Int32) → (Nat → Int32) → (Nat → Int32) → Int32 → Option (Int32 × (Nat → Int32) × Int32 × (Nat → Int32) × Int32 × (Nat → Int32) × (Nat → Int32) × (Nat → Int32) × (Nat → Int32) × Int32)
  | 0, _, _, _, _, _, _, _, _, _, _, _ => none
  | n + 1, v2, v3, M_coming, M_comingMany, M_going, M_goingMany, M_minute, M_pile, M_high, M_where, M_latest =>
    zg (zin p1 8) <|
    if (M_size p1.toNatClampNeg) ≤ v3 then (
      some ((-4), M_coming, M_comingMany, M_going, M_goingMany, M_minute, M_pile, M_high, M_where, M_latest))
    else (
      zg (zin (((100 * p1) + v3)) 800) <|
      zlet ((M_items (((100 * p1) + v3)).toNatClampNeg)) fun v4_11 =>
      (fX10_isGuest fuel M_guests v4_11).bind fun o_12 =>
      if o_12 = 0 then (
        some (v3, M_coming, M_comingMany, M_going, M_goingMany, M_minute, M_pile, M_high, M_where, M_latest))
      else (
        if ((((v2 >>> (v4_11 &&& 31))) &&& 1)) = 1 then (
          some (v3, M_coming, M_comingMany, M_going, M_goingMany, M_minute, M_pile, M_high, M_where, M_latest))
        else (
          zlet ((v2 ||| (((1 : Int32) <<< (v4_11 &&& 31))))) fun v2_15 =>
          zg (zin v4_11 10) <|
          zlet (M_where v4_11.toNatClampNeg) fun v5_17 =>
          (fX10_isIn fuel v5_17 0 2).bind fun o_18 =>
          if o_18 = 0 then (
            fX10_judge_J156 (fX10_judge_L48 fuel M_guests M_size M_items p1 n) v2_15 v3 M_coming M_comingMany M_going M_goingMany M_minute M_pile M_high M_where M_latest)
          else (
            zg (zin v5_17 3) <|
            zlet (((((10 * v5_17) + (M_high v5_17.toNatClampNeg))) - 1)) fun x_21 =>
            zg (zin x_21 30) <|
            if (M_pile x_21.toNatClampNeg) = v4_11 then (
              zlet (upd M_high v5_17.toNatClampNeg (((M_high v5_17.toNatClampNeg) - 1))) fun M_high_24 =>
              fX10_judge_J156 (fX10_judge_L48 fuel M_guests M_size M_items p1 n) v2_15 v3 M_coming M_comingMany M_going M_goingMany M_minute M_pile M_high_24 M_where M_latest)
            else (
              some (v3, M_coming, M_comingMany, M_going, M_goingMany, M_minute, M_pile, M_high, M_where, M_latest))))))
def fX10_judge (fuel : Nat) (M_guests : Int32) (M_kind : Nat → Int32) (M_figure : Nat → Int32) (M_told : Nat → Int32) (M_heaps : Int32) (M_holds : Int32) (M_hooks : Int32) (M_letters : Int32) (M_rule : Nat → Int32) (M_coming : Nat → Int32) (M_comingMany : Int32) (M_going : Nat → Int32) (M_goingMany : Int32) (M_minute : Nat → Int32) (M_pile : Nat → Int32) (M_high : Nat → Int32) (M_where : Nat → Int32) (M_latest : Int32) (M_held : Nat → Int32) (M_size : Nat → Int32) (M_items : Nat → Int32) (p1 : Int32) : Option (Int32 × (Nat → Int32) × Int32 × (Nat → Int32) × Int32 × (Nat → Int32) × (Nat → Int32) × (Nat → Int32) × (Nat → Int32) × Int32) :=
  (fX10_isShelf fuel p1).bind fun o_1 =>
  if o_1 = 0 then (
    some ((-1), M_coming, M_comingMany, M_going, M_goingMany, M_minute, M_pile, M_high, M_where, M_latest))
  else (
    zg (zin p1 8) <|
    if (M_held p1.toNatClampNeg) = 2 then (
      (fX10_usual fuel M_guests M_kind M_figure M_told M_coming M_comingMany M_going M_goingMany M_minute).bind fun o_5 =>
      (fX10_lay fuel M_heaps M_holds M_hooks M_letters M_rule o_5.1 o_5.2.1 o_5.2.2.2.2 M_pile M_high M_where M_latest).bind fun o_6 =>
      fX10_judge_L48 fuel M_guests M_size M_items p1 fuel 0 0 o_5.1 o_5.2.1 o_5.2.2.1 o_5.2.2.2.1 o_5.2.2.2.2 o_6.1 o_6.2.1 o_6.2.2.1 o_6.2.2.2)
    else (
      if (M_held p1.toNatClampNeg) = 0 then (
        some ((-11), M_coming, M_comingMany, M_going, M_goingMany, M_minute, M_pile, M_high, M_where, M_latest))
      else (
        some ((-12), M_coming, M_comingMany, M_going, M_goingMany, M_minute, M_pile, M_high, M_where, M_latest))))
def fX10_reads_J133 (fuel : Nat) (M_guests : Int32) (k70 : Int32 → Int32 → Int32 → (Nat → Int32) → Int32 → (Nat → Int32) → Int32 → (Nat → Int32) → (Nat → Int32) → (Nat → Int32) → (Nat → Int32) → Int32 → Option (Int32 × (Nat → Int32) × Int32 × (Nat → Int32) × Int32 × (Nat → Int32) × (Nat → Int32) × (Nat → Int32) × (Nat → Int32) × Int32)) (v3 : Int32) (v4 : Int32) (M_coming : Nat → Int32) (M_comingMany : Int32) (M_going : Nat → Int32) (M_goingMany : Int32) (M_minute : Nat → Int32) (M_pile : Nat → Int32) (M_high : Nat → Int32) (M_where : Nat → Int32) (M_latest : Int32) : Option (Int32 × (Nat → Int32) × Int32 × (Nat → Int32) × Int32 × (Nat → Int32) × (Nat → Int32) × (Nat → Int32) × (Nat → Int32) × Int32) :=
  (fX10_nextOrder_coming fuel M_coming M_guests).bind fun o_21 =>
  k70 v3 v4 o_21.1 o_21.2 M_comingMany M_going M_goingMany M_minute M_pile M_high M_where M_latest
def fX10_reads_L103 (fuel : Nat) (M_guests : Int32) (k70 : Int32 → Int32 → Int32 → (Nat → Int32) → Int32 → (Nat → Int32) → Int32 → (Nat → Int32) → (Nat → Int32) → (Nat → Int32) → (Nat → Int32) → Int32 → Option (Int32 × (Nat → Int32) × Int32 × (Nat → Int32) × Int32 × (Nat → Int32) × (Nat → Int32) × (Nat → Int32) × (Nat → Int32) × Int32)) : Nat → Int32 → Int32 → Int32 → (Nat → Int32) → Int32 → (Nat → Int32) → Int32 → (Nat → Int32) → (Nat → Int32) → (Nat → Int32) → (Nat → Int32) → Int32 → Option (Int32 × (Nat → Int32) × Int32 × (Nat → Int32) × Int32 × (Nat → Int32) × (Nat → Int32) × (Nat → Int32) × (Nat → Int32) × Int32)
  | 0, _, _, _, _, _, _, _, _, _, _, _, _ => none
  | n + 1, v3, v4, v6, M_coming, M_comingMany, M_going, M_goingMany, M_minute, M_pile, M_high, M_where, M_latest =>
    if M_guests ≤ v6 then (
      fX10_reads_J133 fuel M_guests k70 v3 v4 M_coming M_comingMany M_going M_goingMany M_minute M_pile M_high M_where M_latest)
    else (
      zg (zin v6 10) <|
      zlet (((10 * v4) + (M_coming v6.toNatClampNeg))) fun v4_19 =>
      zlet (v6 + 1) fun v6_20 =>
      fX10_reads_L103 fuel M_guests k70 n v3 v4_19 v6_20 M_coming M_comingMany M_going M_goingMany M_minute M_pile M_high M_where M_latest)
def fX10_reads_J150 (p2 : Int32) (v3 : Int32) (v4 : Int32) (M_coming : Nat → Int32) (M_comingMany : Int32) (M_going : Nat → Int32) (M_goingMany : Int32) (M_minute : Nat → Int32) (M_pile : Nat → Int32) (M_high : Nat → Int32) (M_where : Nat → Int32) (M_latest : Int32) : Option (Int32 × (Nat → Int32) × Int32 × (Nat → Int32) × Int32 × (Nat → Int32) × (Nat → Int32) × (Nat → Int32) × (Nat → Int32) × Int32) :=
  if p2 = 0 then (
    some (v3, M_coming, M_comingMany, M_going, M_goingMany, M_minute, M_pile, M_high, M_where, M_latest))
  else (
    some (v4, M_coming, M_comingMany, M_going, M_goingMany, M_minute, M_pile, M_high, M_where, M_latest))
def fX10_reads_L70 (fuel : Nat) (M_guests : Int32) (M_heaps : Int32) (M_holds : Int32) (M_hooks : Int32) (M_letters : Int32) (M_rule : Nat → Int32) (M_size : Nat → Int32) (M_items : Nat → Int32) (p1 : Int32) (p2 : Int32) : Nat → Int32 → Int32 → Int32 → (Nat → Int32) → Int32 → (Nat → Int32) → Int32 → (Nat → Int32) → (Nat → Int32) → (Nat → Int32) → (Nat → Int32) → Int32 → Option (Int32 × (Nat → Int32) × Int32 × (Nat → Int32) × Int32 × (Nat → Int32) × (Nat → Int32) × (Nat → Int32) × (Nat → Int32) × Int32)
  | 0, _, _, _, _, _, _, _, _, _, _, _, _ => none
  | n + 1, v3, v4, v5, M_coming, M_comingMany, M_going, M_goingMany, M_minute, M_pile, M_high, M_where, M_latest =>
    if v5 = 0 then (
      fX10_reads_J150 p2 v3 v4 M_coming M_comingMany M_going M_goingMany M_minute M_pile M_high M_where M_latest)
    else (
      (fX10_lay fuel M_heaps M_holds M_hooks M_letters M_rule M_coming M_comingMany M_minute M_pile M_high M_where M_latest).bind fun o_11 =>
      (fX10_isLaidSo fuel o_11.1 o_11.2.1 M_size M_items p1).bind fun o_12 =>
      if o_12 = 0 then (
        fX10_reads_J133 fuel M_guests (fX10_reads_L70 fuel M_guests M_heaps M_holds M_hooks M_letters M_rule M_size M_items p1 p2 n) v3 v4 M_coming M_comingMany M_going M_goingMany M_minute o_11.1 o_11.2.1 o_11.2.2.1 o_11.2.2.2)
      else (
        zlet (v3 + 1) fun v3_14 =>
        if v4 = (-4) then (
          fX10_reads_L103 fuel M_guests (fX10_reads_L70 fuel M_guests M_heaps M_holds M_hooks M_letters M_rule M_size M_items p1 p2 n) fuel v3_14 0 0 M_coming M_comingMany M_going M_goingMany M_minute o_11.1 o_11.2.1 o_11.2.2.1 o_11.2.2.2)
        else (
          fX10_reads_J133 fuel M_guests (fX10_reads_L70 fuel M_guests M_heaps M_holds M_hooks M_letters M_rule M_size M_items p1 p2 n) v3_14 v4 M_coming M_comingMany M_going M_goingMany M_minute o_11.1 o_11.2.1 o_11.2.2.1 o_11.2.2.2)))
def fX10_reads (fuel : Nat) (M_guests : Int32) (M_kind : Nat → Int32) (M_figure : Nat → Int32) (M_told : Nat → Int32) (M_heaps : Int32) (M_holds : Int32) (M_hooks : Int32) (M_letters : Int32) (M_rule : Nat → Int32) (M_coming : Nat → Int32) (M_comingMany : Int32) (M_going : Nat → Int32) (M_goingMany : Int32) (M_minute : Nat → Int32) (M_pile : Nat → Int32) (M_high : Nat → Int32) (M_where : Nat → Int32) (M_latest : Int32) (M_held : Nat → Int32) (M_size : Nat → Int32) (M_items : Nat → Int32) (p1 : Int32) (p2 : Int32) : Option (Int32 × (Nat → Int32) × Int32 × (Nat → Int32) × Int32 × (Nat → Int32) × (Nat → Int32) × (Nat → Int32) × (Nat → Int32) × Int32) :=
  (fX10_isShelf fuel p1).bind fun o_1 =>
  if o_1 = 0 then (
    some ((-1), M_coming, M_comingMany, M_going, M_goingMany, M_minute, M_pile, M_high, M_where, M_latest))
  else (
    (fX10_isIn fuel p2 0 1).bind fun o_3 =>
    if o_3 = 0 then (
      some ((-1), M_coming, M_comingMany, M_going, M_goingMany, M_minute, M_pile, M_high, M_where, M_latest))
    else (
      zg (zin p1 8) <|
      if (M_held p1.toNatClampNeg) = 2 then (
        if M_guests ≤ 6 then (
          (fX10_usual fuel M_guests M_kind M_figure M_told M_coming M_comingMany M_going M_goingMany M_minute).bind fun o_8 =>
          fX10_reads_L70 fuel M_guests M_heaps M_holds M_hooks M_letters M_rule M_size M_items p1 p2 fuel 0 (-4) 1 o_8.1 o_8.2.1 o_8.2.2.1 o_8.2.2.2.1 o_8.2.2.2.2 M_pile M_high M_where M_latest)
        else (
          some ((-3), M_coming, M_comingMany, M_going, M_goingMany, M_minute, M_pile, M_high, M_where, M_latest)))
      else (
        if (M_held p1.toNatClampNeg) = 0 then (
          some ((-11), M_coming, M_comingMany, M_going, M_goingMany, M_minute, M_pile, M_high, M_where, M_latest))
        else (
          some ((-12), M_coming, M_comingMany, M_going, M_goingMany, M_minute, M_pile, M_high, M_where, M_latest)))))
