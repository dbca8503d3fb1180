def fX7_becomeEmpty (fuel : Nat) (s_holds : Nat → Int32) (s_size : Nat → Int32) (si : Nat) : Option ((Nat → Int32) × (Nat → Int32)) :=
  zlet (va_up s_holds si 0) fun s_holds_1 =>
  zlet (va_up s_size si 0) fun s_size_2 =>
  some (s_holds_1, s_size_2)
def fX7_becomeCoat (fuel : Nat) (s_holds : Nat → Int32) (s_kind : Nat → Int32) (s_figure : Nat → Int32) (s_size : Nat → Int32) (si : Nat) (p1 : Int32) (p2 : Int32) : Option ((Nat → Int32) × (Nat → Int32) × (Nat → Int32) × (Nat → Int32)) :=
  zlet (va_up s_holds si 1) fun s_holds_1 =>
  zlet (va_up s_size si 0) fun s_size_2 =>
  zlet (va_up s_kind si p1) fun s_kind_3 =>
  zlet (va_up s_figure si p2) fun s_figure_4 =>
  some (s_holds_1, s_kind_3, s_figure_4, s_size_2)
def fX7_becomeRow_L17 (si : Nat) : Nat → Int32 → (Nat → Int32) → (Nat → Int32) → (Nat → Int32) → (Nat → Nat → Int32) → Option ((Nat → Int32) × (Nat → Int32) × (Nat → Int32) × (Nat → Nat → Int32))
  | 0, _, _, _, _, _ => none
  | n + 1, v3, s_holds, s_sort, s_size, s_el =>
    if 100 ≤ v3 then (
      some (s_holds, s_sort, s_size, s_el))
    else (
      zg (zin v3 100) <|
      zlet (va_up s_el si (upd (s_el si) v3.toNatClampNeg 0)) fun s_el_6 =>
      zlet (v3 + 1) fun v3_7 =>
      fX7_becomeRow_L17 si n v3_7 s_holds s_sort s_size s_el_6)
def fX7_becomeRow (fuel : Nat) (s_holds : Nat → Int32) (s_sort : Nat → Int32) (s_size : Nat → Int32) (s_el : Nat → Nat → Int32) (si : Nat) (p1 : Int32) (p2 : Int32) : Option ((Nat → Int32) × (Nat → Int32) × (Nat → Int32) × (Nat → Nat → Int32)) :=
  zlet (va_up s_holds si 2) fun s_holds_1 =>
  zlet (va_up s_sort si p1) fun s_sort_2 =>
  zlet (va_up s_size si p2) fun s_size_3 =>
  fX7_becomeRow_L17 si fuel 0 s_holds_1 s_sort_2 s_size_3 s_el
def fX7_hasPlace (fuel : Nat) (s_size : Nat → Int32) (si : Nat) (p1 : Int32) : Option (Int32) :=
  if p1 < 0 then (
    some (0))
  else (
    if (s_size si) ≤ p1 then (
      some (0))
    else (
      some (1)))
def fX7_hasStretch (fuel : Nat) (s_size : Nat → Int32) (si : Nat) (p1 : Int32) (p2 : Int32) : Option (Int32) :=
  if p1 < 0 then (
    some (0))
  else (
    if p2 < 0 then (
      some (0))
    else (
      if (s_size si) < p2 then (
        some (0))
      else (
        if (((s_size si) - p2)) < p1 then (
          some (0))
        else (
          some (1)))))
def fX7_cutToSort (fuel : Nat) (s_sort : Nat → Int32) (si : Nat) (p1 : Int32) : Option (Int32) :=
  if (s_sort si) = 0 then (
    some ((p1.toInt8.toInt32)))
  else (
    if (s_sort si) = 1 then (
      some ((p1.toInt16.toInt32)))
    else (
      some (p1)))
def fX7_signAt (fuel : Nat) (s_size : Nat → Int32) (s_el : Nat → Nat → Int32) (si : Nat) (p1 : Int32) : Option (Int32) :=
  (fX7_hasPlace fuel s_size si p1).bind fun o_1 =>
  if o_1 = 0 then (
    some ((-1)))
  else (
    zg (zin p1 100) <|
    some ((s_el si p1.toNatClampNeg)))
