def fX6_statementsIn_J26 (k4 : Int32 → Int32 → Option (Int32)) (v1 : Int32) (v2 : Int32) : Option (Int32) :=
  zlet (v2 + 1) fun v2_5 =>
  k4 v1 v2_5
def fX6_statementsIn_L4 (s_size : Nat → Int32) (s_el : Nat → Nat → Int32) (si : Nat) : Nat → Int32 → Int32 → Option (Int32)
  | 0, _, _ => none
  | n + 1, v1, v2 =>
    if (s_size si) ≤ v2 then (
      some (v1))
    else (
      zg (zin v2 100) <|
      if (s_el si v2.toNatClampNeg) = 59 then (
        zlet (v1 + 1) fun v1_4 =>
        fX6_statementsIn_J26 (fX6_statementsIn_L4 s_size s_el si n) v1_4 v2)
      else (
        fX6_statementsIn_J26 (fX6_statementsIn_L4 s_size s_el si n) v1 v2))
def fX6_statementsIn (fuel : Nat) (s_size : Nat → Int32) (s_el : Nat → Nat → Int32) (si : Nat) : Option (Int32) :=
  fX6_statementsIn_L4 s_size s_el si fuel 0 0
def fX6_isLetterOfRule_L2 (p0 : Int32) : Nat → Int32 → Option (Int32)
  | 0, _ => none
  | n + 1, v1 =>
    if 6 ≤ v1 then (
      some (0))
    else (
      zg (zin v1 6) <|
      if (zLet v1.toNatClampNeg) = p0 then (
        some (1))
      else (
        zlet (v1 + 1) fun v1_4 =>
        fX6_isLetterOfRule_L2 p0 n v1_4))
def fX6_isLetterOfRule (fuel : Nat) (p0 : Int32) : Option (Int32) :=
  fX6_isLetterOfRule_L2 p0 fuel 0
def fX6_digitsBehind (fuel : Nat) (p0 : Int32) : Option (Int32) :=
  if p0 = 98 then (
    some (1))
  else (
    if p0 = 99 then (
      some (0))
    else (
      if p0 = 100 then (
        some (0))
      else (
        if p0 = 101 then (
          some (0))
        else (
          if p0 = 102 then (
            some (0))
          else (
            if p0 = 103 then (
              some (4))
            else (
              if p0 = 104 then (
                some (2))
              else (
                if p0 = 105 then (
                  some (0))
                else (
                  if p0 = 106 then (
                    some (0))
                  else (
                    if p0 = 107 then (
                      some (1))
                    else (
                      if p0 = 108 then (
                        some (0))
                      else (
                        if p0 = 109 then (
                          some (1))
                        else (
                          some (0)))))))))))))
def fX6_isDigit (fuel : Nat) (p0 : Int32) : Option (Int32) :=
  if p0 < 48 then (
    some (0))
  else (
    if 57 < p0 then (
      some (0))
    else (
      some (1)))
def fX6_settles (fuel : Nat) (r_settings : Nat → Int32) (p1 : Int32) (p2 : Int32) : Option (Int32 × (Nat → Int32)) :=
  (fX5_allows fuel p1 p2).bind fun o_1 =>
  if o_1 = 0 then (
    some (0, r_settings))
  else (
    zg (zin p1 4) <|
    zlet (upd r_settings p1.toNatClampNeg p2) fun r_settings_4 =>
    some (1, r_settings_4))
def fX6_lettersBehind_L2 (fuel : Nat) (s_size : Nat → Int32) (s_el : Nat → Nat → Int32) (si : Nat) (p1 : Int32) : Nat → Int32 → Option (Int32)
  | 0, _ => none
  | n + 1, v2 =>
    if 6 ≤ v2 then (
      some (v2))
    else (
      (fX7_signAt fuel s_size s_el si (((p1 + 1) + v2))).bind fun o_2 =>
      (fX6_isLetterOfRule fuel o_2).bind fun o_3 =>
      if o_3 = 0 then (
        some (v2))
      else (
        zlet (v2 + 1) fun v2_5 =>
        fX6_lettersBehind_L2 fuel s_size s_el si p1 n v2_5))
def fX6_lettersBehind (fuel : Nat) (s_size : Nat → Int32) (s_el : Nat → Nat → Int32) (si : Nat) (p1 : Int32) : Option (Int32) :=
  fX6_lettersBehind_L2 fuel s_size s_el si p1 fuel 0
def fX6_digitAt (fuel : Nat) (s_size : Nat → Int32) (s_el : Nat → Nat → Int32) (si : Nat) (p1 : Int32) : Option (Int32) :=
  (fX7_signAt fuel s_size s_el si p1).bind fun o_1 =>
  some ((o_1 - 48))
def fX6_isWelcome (fuel : Nat) (s_size : Nat → Int32) (s_el : Nat → Nat → Int32) (r_guests : Int32) (r_kinds : Nat → Int32) (r_figures : Nat → Int32) (r_minutes : Nat → Int32) (si : Nat) (p1 : Int32) : Option (Int32 × Int32 × (Nat → Int32) × (Nat → Int32) × (Nat → Int32)) :=
  (fX6_digitAt fuel s_size s_el si (p1 + 3)).bind fun o_1 =>
  (fX6_digitAt fuel s_size s_el si (p1 + 4)).bind fun o_2 =>
  zlet (((10 * o_1) + o_2)) fun v3_3 =>
  (fX6_digitAt fuel s_size s_el si (p1 + 1)).bind fun o_4 =>
  (fX6_digitAt fuel s_size s_el si (p1 + 2)).bind fun o_5 =>
  (fX5_welcome fuel r_guests r_kinds r_figures r_minutes o_4 o_5 v3_3).bind fun o_6 =>
  if o_6.1 = (-2) then (
    some (0, o_6.2.1, o_6.2.2.1, o_6.2.2.2.1, o_6.2.2.2.2))
  else (
    some (1, o_6.2.1, o_6.2.2.1, o_6.2.2.2.1, o_6.2.2.2.2))
def fX6_lengthOf (fuel : Nat) (s_size : Nat → Int32) (s_el : Nat → Nat → Int32) (si : Nat) (p1 : Int32) : Option (Int32) :=
  (fX7_signAt fuel s_size s_el si p1).bind fun o_1 =>
  if o_1 = 114 then (
    (fX6_lettersBehind fuel s_size s_el si p1).bind fun o_4 =>
    some ((2 + o_4)))
  else (
    (fX6_digitsBehind fuel o_1).bind fun o_3 =>
    some ((2 + o_3)))
def fX6_comesTrue_J166 (fuel : Nat) (s_size : Nat → Int32) (s_el : Nat → Nat → Int32) (si : Nat) (p1 : Int32) (r_guests : Int32) (r_kinds : Nat → Int32) (r_figures : Nat → Int32) (r_minutes : Nat → Int32) (r_settings : Nat → Int32) (r_hooks : Int32) (r_letters : Nat → Int32) (r_letterCount : Int32) : Option (Int32 × Int32 × (Nat → Int32) × (Nat → Int32) × (Nat → Int32) × (Nat → Int32) × Int32 × (Nat → Int32) × Int32) :=
  (fX6_lettersBehind fuel s_size s_el si p1).bind fun o_32 =>
  (fX5_takeLetters fuel s_size s_el r_letters r_letterCount si (p1 + 1) o_32).bind fun o_33 =>
  some (1, r_guests, r_kinds, r_figures, r_minutes, r_settings, r_hooks, o_33.1, o_33.2)
def fX6_comesTrue (fuel : Nat) (s_size : Nat → Int32) (s_el : Nat → Nat → Int32) (r_guests : Int32) (r_kinds : Nat → Int32) (r_figures : Nat → Int32) (r_minutes : Nat → Int32) (r_settings : Nat → Int32) (r_hooks : Int32) (r_letters : Nat → Int32) (r_letterCount : Int32) (si : Nat) (p1 : Int32) : Option (Int32 × Int32 × (Nat → Int32) × (Nat → Int32) × (Nat → Int32) × (Nat → Int32) × Int32 × (Nat → Int32) × Int32) :=
  (fX6_digitAt fuel s_size s_el si (p1 + 1)).bind fun o_1 =>
  (fX7_signAt fuel s_size s_el si p1).bind fun o_2 =>
  if o_2 = 98 then (
    (fX6_settles fuel r_settings 2 o_1).bind fun o_4 =>
    zg (decide (o_4.1 = 0 ∨ o_4.1 = 1)) <|
    some (o_4.1, r_guests, r_kinds, r_figures, r_minutes, o_4.2, r_hooks, r_letters, r_letterCount))
  else (
    if o_2 = 99 then (
      fX6_comesTrue_J166 fuel s_size s_el si p1 r_guests r_kinds r_figures r_minutes r_settings r_hooks r_letters r_letterCount)
    else (
      if o_2 = 100 then (
        fX6_comesTrue_J166 fuel s_size s_el si p1 r_guests r_kinds r_figures r_minutes r_settings r_hooks r_letters r_letterCount)
      else (
        if o_2 = 101 then (
          fX6_comesTrue_J166 fuel s_size s_el si p1 r_guests r_kinds r_figures r_minutes r_settings r_hooks r_letters r_letterCount)
        else (
          if o_2 = 102 then (
            fX6_comesTrue_J166 fuel s_size s_el si p1 r_guests r_kinds r_figures r_minutes r_settings r_hooks r_letters r_letterCount)
          else (
            if o_2 = 103 then (
              (fX1_isKind fuel o_1).bind fun o_11 =>
              if o_11 = 0 then (
                some (0, r_guests, r_kinds, r_figures, r_minutes, r_settings, r_hooks, r_letters, r_letterCount))
              else (
                (fX6_isWelcome fuel s_size s_el r_guests r_kinds r_figures r_minutes si p1).bind fun o_13 =>
                if o_13.1 = 0 then (
                  some (0, o_13.2.1, o_13.2.2.1, o_13.2.2.2.1, o_13.2.2.2.2, r_settings, r_hooks, r_letters, r_letterCount))
                else (
                  some (1, o_13.2.1, o_13.2.2.1, o_13.2.2.2.1, o_13.2.2.2.2, r_settings, r_hooks, r_letters, r_letterCount))))
            else (
              if o_2 = 104 then (
                (fX6_settles fuel r_settings 0 o_1).bind fun o_16 =>
                if o_16.1 = 0 then (
                  some (0, r_guests, r_kinds, r_figures, r_minutes, o_16.2, r_hooks, r_letters, r_letterCount))
                else (
                  (fX6_digitAt fuel s_size s_el si (p1 + 2)).bind fun o_18 =>
                  (fX6_settles fuel o_16.2 1 o_18).bind fun o_19 =>
                  if o_19.1 = 0 then (
                    some (0, r_guests, r_kinds, r_figures, r_minutes, o_19.2, r_hooks, r_letters, r_letterCount))
                  else (
                    some (1, r_guests, r_kinds, r_figures, r_minutes, o_19.2, r_hooks, r_letters, r_letterCount))))
              else (
                if o_2 = 105 then (
                  fX6_comesTrue_J166 fuel s_size s_el si p1 r_guests r_kinds r_figures r_minutes r_settings r_hooks r_letters r_letterCount)
                else (
                  if o_2 = 106 then (
                    fX6_comesTrue_J166 fuel s_size s_el si p1 r_guests r_kinds r_figures r_minutes r_settings r_hooks r_letters r_letterCount)
                  else (
                    if o_2 = 107 then (
                      (fX5_hasGuest fuel r_guests o_1).bind fun o_24 =>
                      if o_24 = 0 then (
                        some (0, r_guests, r_kinds, r_figures, r_minutes, r_settings, r_hooks, r_letters, r_letterCount))
                      else (
                        (fX5_toggleHook fuel r_hooks o_1).bind fun o_26 =>
                        if o_26.1 = (-2) then (
                          some (0, r_guests, r_kinds, r_figures, r_minutes, r_settings, o_26.2, r_letters, r_letterCount))
                        else (
                          some (1, r_guests, r_kinds, r_figures, r_minutes, r_settings, o_26.2, r_letters, r_letterCount))))
                    else (
                      if o_2 = 108 then (
                        fX6_comesTrue_J166 fuel s_size s_el si p1 r_guests r_kinds r_figures r_minutes r_settings r_hooks r_letters r_letterCount)
                      else (
                        if o_2 = 109 then (
                          (fX6_settles fuel r_settings 3 o_1).bind fun o_30 =>
                          zg (decide (o_30.1 = 0 ∨ o_30.1 = 1)) <|
                          some (o_30.1, r_guests, r_kinds, r_figures, r_minutes, o_30.2, r_hooks, r_letters, r_letterCount))
                        else (
                          fX6_comesTrue_J166 fuel s_size s_el si p1 r_guests r_kinds r_figures r_minutes r_settings r_hooks r_letters r_letterCount))))))))))))
def fX6_senselessAt_L4 (fuel : Nat) (s_size : Nat → Int32) (s_el : Nat → Nat → Int32) (si : Nat) : Nat → Int32 → Int32 → Int32 → (Nat → Int32) → (Nat → Int32) → (Nat → Int32) → (Nat → Int32) → Int32 → (Nat → Int32) → Int32 → Option (Int32 × Int32 × (Nat → Int32) × (Nat → Int32) × (Nat → Int32) × (Nat → Int32) × Int32 × (Nat → Int32) × Int32)
  | 0, _, _, _, _, _, _, _, _, _, _ => none
  | n + 1, v2, v3, r_guests, r_kinds, r_figures, r_minutes, r_settings, r_hooks, r_letters, r_letterCount =>
    if 100 ≤ v3 then (
      some ((-4), r_guests, r_kinds, r_figures, r_minutes, r_settings, r_hooks, r_letters, r_letterCount))
    else (
      if (s_size si) ≤ v2 then (
        some ((-4), r_guests, r_kinds, r_figures, r_minutes, r_settings, r_hooks, r_letters, r_letterCount))
      else (
        (fX6_comesTrue fuel s_size s_el r_guests r_kinds r_figures r_minutes r_settings r_hooks r_letters r_letterCount si v2).bind fun o_3 =>
        if o_3.1 = 0 then (
          some (v2, o_3.2.1, o_3.2.2.1, o_3.2.2.2.1, o_3.2.2.2.2.1, o_3.2.2.2.2.2.1, o_3.2.2.2.2.2.2.1, o_3.2.2.2.2.2.2.2.1, o_3.2.2.2.2.2.2.2.2))
        else (
          (fX6_lengthOf fuel s_size s_el si v2).bind fun o_5 =>
          zlet (v2 + o_5) fun v2_6 =>
          zlet (v3 + 1) fun v3_7 =>
          fX6_senselessAt_L4 fuel s_size s_el si n v2_6 v3_7 o_3.2.1 o_3.2.2.1 o_3.2.2.2.1 o_3.2.2.2.2.1 o_3.2.2.2.2.2.1 o_3.2.2.2.2.2.2.1 o_3.2.2.2.2.2.2.2.1 o_3.2.2.2.2.2.2.2.2)))
def fX6_senselessAt (fuel : Nat) (s_size : Nat → Int32) (s_el : Nat → Nat → Int32) (r_guests : Int32) (r_kinds : Nat → Int32) (r_figures : Nat → Int32) (r_minutes : Nat → Int32) (r_settings : Nat → Int32) (r_hooks : Int32) (r_letters : Nat → Int32) (r_letterCount : Int32) (si : Nat) : Option (Int32 × Int32 × (Nat → Int32) × (Nat → Int32) × (Nat → Int32) × (Nat → Int32) × Int32 × (Nat → Int32) × Int32) :=
  fX6_senselessAt_L4 fuel s_size s_el si fuel 0 0 r_guests r_kinds r_figures r_minutes r_settings r_hooks r_letters r_letterCount
def fX6_brokenIn_J57 (fuel : Nat) (s_size : Nat → Int32) (s_el : Nat → Nat → Int32) (si : Nat) (p1 : Int32) : Option (Int32) :=
  (fX6_lengthOf fuel s_size s_el si p1).bind fun o_11 =>
  zlet (((p1 + o_11) - 1)) fun v4_12 =>
  (fX7_signAt fuel s_size s_el si v4_12).bind fun o_13 =>
  if o_13 = 59 then (
    some ((-4)))
  else (
    some (v4_12))
def fX6_brokenIn_L28 (fuel : Nat) (s_size : Nat → Int32) (s_el : Nat → Nat → Int32) (si : Nat) (p1 : Int32) : Nat → Int32 → Int32 → Option (Int32)
  | 0, _, _ => none
  | n + 1, v3, v4 =>
    if (p1 + v3) < v4 then (
      fX6_brokenIn_J57 fuel s_size s_el si p1)
    else (
      (fX7_signAt fuel s_size s_el si v4).bind fun o_7 =>
      (fX6_isDigit fuel o_7).bind fun o_8 =>
      if o_8 = 0 then (
        some (v4))
      else (
        zlet (v4 + 1) fun v4_10 =>
        fX6_brokenIn_L28 fuel s_size s_el si p1 n v3 v4_10))
def fX6_brokenIn_J23 (fuel : Nat) (s_size : Nat → Int32) (s_el : Nat → Nat → Int32) (si : Nat) (p1 : Int32) (v3 : Int32) : Option (Int32) :=
  zlet (p1 + 1) fun v4_5 =>
  fX6_brokenIn_L28 fuel s_size s_el si p1 fuel v3 v4_5
def fX6_brokenIn (fuel : Nat) (s_size : Nat → Int32) (s_el : Nat → Nat → Int32) (si : Nat) (p1 : Int32) : Option (Int32) :=
  (fX7_signAt fuel s_size s_el si p1).bind fun o_1 =>
  (fX6_digitsBehind fuel o_1).bind fun o_2 =>
  if o_2 = 0 then (
    if o_1 = 114 then (
      fX6_brokenIn_J23 fuel s_size s_el si p1 o_2)
    else (
      some (p1)))
  else (
    fX6_brokenIn_J23 fuel s_size s_el si p1 o_2)
def fX6_brokenAt_J22 (fuel : Nat) (s_size : Nat → Int32) (s_el : Nat → Nat → Int32) (si : Nat) (k4 : Int32 → Int32 → Option (Int32)) (v1 : Int32) (v2 : Int32) : Option (Int32) :=
  (fX6_brokenIn fuel s_size s_el si v1).bind fun o_4 =>
  if o_4 = (-4) then (
    (fX6_lengthOf fuel s_size s_el si v1).bind fun o_6 =>
    zlet (v1 + o_6) fun v1_7 =>
    zlet (v2 + 1) fun v2_8 =>
    k4 v1_7 v2_8)
  else (
    some (o_4))
def fX6_brokenAt_L4 (fuel : Nat) (s_size : Nat → Int32) (s_el : Nat → Nat → Int32) (si : Nat) : Nat → Int32 → Int32 → Option (Int32)
  | 0, _, _ => none
  | n + 1, v1, v2 =>
    if v2 = 0 then (
      fX6_brokenAt_J22 fuel s_size s_el si (fX6_brokenAt_L4 fuel s_size s_el si n) v1 v2)
    else (
      if 100 ≤ v2 then (
        some ((-4)))
      else (
        if (s_size si) ≤ v1 then (
          some ((-4)))
        else (
          fX6_brokenAt_J22 fuel s_size s_el si (fX6_brokenAt_L4 fuel s_size s_el si n) v1 v2)))
def fX6_brokenAt (fuel : Nat) (s_size : Nat → Int32) (s_el : Nat → Nat → Int32) (si : Nat) : Option (Int32) :=
  fX6_brokenAt_L4 fuel s_size s_el si fuel 0 0
