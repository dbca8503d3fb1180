def fX5_allows (fuel : Nat) (p0 : Int32) (p1 : Int32) : Option (Int32) :=
  if p0 < 0 then (
    some (0))
  else (
    if 4 ≤ p0 then (
      some (0))
    else (
      zg (zin p0 4) <|
      if p1 < (zLeast p0.toNatClampNeg) then (
        some (0))
      else (
        if (zMost p0.toNatClampNeg) < p1 then (
          some (0))
        else (
          some (1)))))
def fX5_copyFrom (fuel : Nat) (r_guests : Int32) (r_kinds : Nat → Int32) (r_figures : Nat → Int32) (r_minutes : Nat → Int32) (r_settings : Nat → Int32) (r_hooks : Int32) (r_letters : Nat → Int32) (r_letterCount : Int32) (o_guests : Int32) (o_kinds : Nat → Int32) (o_figures : Nat → Int32) (o_minutes : Nat → Int32) (o_settings : Nat → Int32) (o_hooks : Int32) (o_letters : Nat → Int32) (o_letterCount : Int32) : Option (Int32 × (Nat → Int32) × (Nat → Int32) × (Nat → Int32) × (Nat → Int32) × Int32 × (Nat → Int32) × Int32) :=
  zlet (va_cpy o_kinds r_kinds 0 0 10) fun r_kinds_1 =>
  zlet (va_cpy o_figures r_figures 0 0 10) fun r_figures_2 =>
  zlet (va_cpy o_minutes r_minutes 0 0 10) fun r_minutes_3 =>
  zlet (va_cpy o_settings r_settings 0 0 4) fun r_settings_4 =>
  zlet (va_cpy o_letters r_letters 0 0 6) fun r_letters_5 =>
  some (o_guests, r_kinds_1, r_figures_2, r_minutes_3, r_settings_4, o_hooks, r_letters_5, o_letterCount)
def fX5_hasGuest (fuel : Nat) (r_guests : Int32) (p1 : Int32) : Option (Int32) :=
  if p1 < 0 then (
    some (0))
  else (
    if r_guests ≤ p1 then (
      some (0))
    else (
      some (1)))
def fX5_welcome (fuel : Nat) (r_guests : Int32) (r_kinds : Nat → Int32) (r_figures : Nat → Int32) (r_minutes : Nat → Int32) (p1 : Int32) (p2 : Int32) (p3 : Int32) : Option (Int32 × Int32 × (Nat → Int32) × (Nat → Int32) × (Nat → Int32)) :=
  if r_guests < 10 then (
    zg (zin r_guests 10) <|
    zlet (upd r_kinds r_guests.toNatClampNeg p1) fun r_kinds_3 =>
    zlet (upd r_figures r_guests.toNatClampNeg p2) fun r_figures_4 =>
    zlet (upd r_minutes r_guests.toNatClampNeg p3) fun r_minutes_5 =>
    zlet (r_guests + 1) fun guests_6 =>
    some ((guests_6 - 1), guests_6, r_kinds_3, r_figures_4, r_minutes_5))
  else (
    some ((-2), r_guests, r_kinds, r_figures, r_minutes))
def fX5_dismiss_J60 (p1 : Int32) (r_guests : Int32) (r_kinds : Nat → Int32) (r_figures : Nat → Int32) (r_minutes : Nat → Int32) (r_hooks : Int32) : Option (Int32 × (Nat → Int32) × (Nat → Int32) × (Nat → Int32) × Int32) :=
  zlet ((r_hooks &&& (((((1 : Int32) <<< (p1 &&& 31))) - 1)))) fun x_8 =>
  zlet ((((r_hooks >>> ((p1 + 1) &&& 31))) <<< (p1 &&& 31))) fun x_9 =>
  zlet (x_8 ||| x_9) fun hooks_10 =>
  zlet (r_guests - 1) fun guests_11 =>
  some (guests_11, r_kinds, r_figures, r_minutes, hooks_10)
def fX5_dismiss_L2 (p1 : Int32) : Nat → Int32 → Int32 → (Nat → Int32) → (Nat → Int32) → (Nat → Int32) → Int32 → Option (Int32 × (Nat → Int32) × (Nat → Int32) × (Nat → Int32) × Int32)
  | 0, _, _, _, _, _, _ => none
  | n + 1, v2, r_guests, r_kinds, r_figures, r_minutes, r_hooks =>
    if r_guests ≤ (v2 + 1) then (
      fX5_dismiss_J60 p1 r_guests r_kinds r_figures r_minutes r_hooks)
    else (
      zg (zin (v2 + 1) 10) <|
      zg (zin v2 10) <|
      zlet (upd r_kinds v2.toNatClampNeg ((r_kinds (v2 + 1).toNatClampNeg))) fun r_kinds_4 =>
      zlet (upd r_figures v2.toNatClampNeg ((r_figures (v2 + 1).toNatClampNeg))) fun r_figures_5 =>
      zlet (upd r_minutes v2.toNatClampNeg ((r_minutes (v2 + 1).toNatClampNeg))) fun r_minutes_6 =>
      zlet (v2 + 1) fun v2_7 =>
      fX5_dismiss_L2 p1 n v2_7 r_guests r_kinds_4 r_figures_5 r_minutes_6 r_hooks)
def fX5_dismiss (fuel : Nat) (r_guests : Int32) (r_kinds : Nat → Int32) (r_figures : Nat → Int32) (r_minutes : Nat → Int32) (r_hooks : Int32) (p1 : Int32) : Option (Int32 × (Nat → Int32) × (Nat → Int32) × (Nat → Int32) × Int32) :=
  fX5_dismiss_L2 p1 fuel p1 r_guests r_kinds r_figures r_minutes r_hooks
def fX5_hasHook (fuel : Nat) (r_hooks : Int32) (p1 : Int32) : Option (Int32) :=
  if ((((r_hooks >>> (p1 &&& 31))) &&& 1)) = 1 then (
    some (1))
  else (
    some (0))
def fX5_toggleHook_J22 (fuel : Nat) (p1 : Int32) (r_hooks : Int32) : Option (Int32 × Int32) :=
  zlet ((r_hooks ^^^ (((1 : Int32) <<< (p1 &&& 31))))) fun hooks_5 =>
  (fX5_hasHook fuel hooks_5 p1).bind fun o_6 =>
  if o_6 = 0 then (
    some (0, hooks_5))
  else (
    some (1, hooks_5))
def fX5_toggleHook (fuel : Nat) (r_hooks : Int32) (p1 : Int32) : Option (Int32 × Int32) :=
  (fX5_hasHook fuel r_hooks p1).bind fun o_1 =>
  if o_1 = 0 then (
    (fJ6_bitCount_0f7a4 fuel r_hooks).bind fun o_3 =>
    if o_3 < 3 then (
      fX5_toggleHook_J22 fuel p1 r_hooks)
    else (
      some ((-2), r_hooks)))
  else (
    fX5_toggleHook_J22 fuel p1 r_hooks)
def fX5_goingMinute (fuel : Nat) (r_kinds : Nat → Int32) (r_figures : Nat → Int32) (r_minutes : Nat → Int32) (p1 : Int32) : Option (Int32) :=
  zg (zin p1 10) <|
  (fX1_minute fuel (r_kinds p1.toNatClampNeg) (r_figures p1.toNatClampNeg) (r_minutes p1.toNatClampNeg)).bind fun o_2 =>
  some (o_2)
def fX5_weightOf (fuel : Nat) (r_kinds : Nat → Int32) (r_figures : Nat → Int32) (p1 : Int32) : Option (Int32) :=
  zg (zin p1 10) <|
  (fX1_weight fuel (r_kinds p1.toNatClampNeg) (r_figures p1.toNatClampNeg)).bind fun o_2 =>
  some (o_2)
def fX5_spareOf (fuel : Nat) (r_kinds : Nat → Int32) (r_figures : Nat → Int32) (p1 : Int32) : Option (Int32) :=
  zg (zin p1 10) <|
  (fX1_spare fuel (r_kinds p1.toNatClampNeg) (r_figures p1.toNatClampNeg)).bind fun o_2 =>
  some (o_2)
def fX5_allWeights_L4 (fuel : Nat) (r_guests : Int32) (r_kinds : Nat → Int32) (r_figures : Nat → Int32) : Nat → Int32 → Int32 → Option (Int32)
  | 0, _, _ => none
  | n + 1, v1, v2 =>
    if r_guests ≤ v2 then (
      some (v1))
    else (
      (fX5_weightOf fuel r_kinds r_figures v2).bind fun o_2 =>
      zlet (v1 + o_2) fun v1_3 =>
      zlet (v2 + 1) fun v2_4 =>
      fX5_allWeights_L4 fuel r_guests r_kinds r_figures n v1_3 v2_4)
def fX5_allWeights (fuel : Nat) (r_guests : Int32) (r_kinds : Nat → Int32) (r_figures : Nat → Int32) : Option (Int32) :=
  fX5_allWeights_L4 fuel r_guests r_kinds r_figures fuel 0 0
def fX5_takeLetters_L13 (fuel : Nat) (s_size : Nat → Int32) (s_el : Nat → Nat → Int32) (si : Nat) (p2 : Int32) : Nat → Int32 → (Nat → Int32) → Int32 → Option ((Nat → Int32) × Int32)
  | 0, _, _, _ => none
  | n + 1, v4, r_letters, r_letterCount =>
    if r_letterCount ≤ v4 then (
      some (r_letters, r_letterCount))
    else (
      (fX7_signAt fuel s_size s_el si (p2 + v4)).bind fun o_3 =>
      zg (zin v4 6) <|
      zlet (upd r_letters v4.toNatClampNeg o_3) fun r_letters_5 =>
      zlet (v4 + 1) fun v4_6 =>
      fX5_takeLetters_L13 fuel s_size s_el si p2 n v4_6 r_letters_5 r_letterCount)
def fX5_takeLetters (fuel : Nat) (s_size : Nat → Int32) (s_el : Nat → Nat → Int32) (r_letters : Nat → Int32) (r_letterCount : Int32) (si : Nat) (p2 : Int32) (p3 : Int32) : Option ((Nat → Int32) × Int32) :=
  zlet (zmin p3 6) fun x_1 =>
  fX5_takeLetters_L13 fuel s_size s_el si p2 fuel 0 r_letters x_1
