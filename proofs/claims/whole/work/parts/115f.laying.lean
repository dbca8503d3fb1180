def fX2_hasRoom (fuel : Nat) (y_holds : Int32) (b_heights : Nat → Int32) (p1 : Int32) : Option (Int32) :=
  zg (zin p1 3) <|
  if y_holds ≤ (b_heights p1.toNatClampNeg) then (
    some (0))
  else (
    some (1))
def fX2_firstFrom_L2 (fuel : Nat) (y_holds : Int32) (b_heaps : Int32) (b_heights : Nat → Int32) (p1 : Int32) : Nat → Int32 → Option (Int32)
  | 0, _ => none
  | n + 1, v2 =>
    if b_heaps ≤ v2 then (
      some ((-4)))
    else (
      if b_heaps ≤ (p1 + v2) then (
        zlet (((p1 + v2) - b_heaps)) fun v3_3 =>
        (fX2_hasRoom fuel y_holds b_heights v3_3).bind fun o_4 =>
        if o_4 = 0 then (
          zlet (v2 + 1) fun v2_6 =>
          fX2_firstFrom_L2 fuel y_holds b_heaps b_heights p1 n v2_6)
        else (
          some (v3_3)))
      else (
        zlet (p1 + v2) fun v3_7 =>
        (fX2_hasRoom fuel y_holds b_heights v3_7).bind fun o_8 =>
        if o_8 = 0 then (
          zlet (v2 + 1) fun v2_10 =>
          fX2_firstFrom_L2 fuel y_holds b_heaps b_heights p1 n v2_10)
        else (
          some (v3_7))))
def fX2_firstFrom (fuel : Nat) (y_holds : Int32) (b_heaps : Int32) (b_heights : Nat → Int32) (p1 : Int32) : Option (Int32) :=
  fX2_firstFrom_L2 fuel y_holds b_heaps b_heights p1 fuel 0
def fX2_lowest_J53 (k5 : Int32 → Int32 → Option (Int32)) (v1 : Int32) (v2 : Int32) : Option (Int32) :=
  zlet (v2 + 1) fun v2_8 =>
  k5 v1 v2_8
def fX2_lowest_J51 (k5 : Int32 → Int32 → Option (Int32)) (v2 : Int32) : Option (Int32) :=
  fX2_lowest_J53 k5 v2 v2
def fX2_lowest_L5 (fuel : Nat) (y_holds : Int32) (b_heaps : Int32) (b_heights : Nat → Int32) : Nat → Int32 → Int32 → Option (Int32)
  | 0, _, _ => none
  | n + 1, v1, v2 =>
    if b_heaps ≤ v2 then (
      some (v1))
    else (
      (fX2_hasRoom fuel y_holds b_heights v2).bind fun o_2 =>
      if o_2 = 0 then (
        fX2_lowest_J53 (fX2_lowest_L5 fuel y_holds b_heaps b_heights n) v1 v2)
      else (
        if v1 = (-4) then (
          fX2_lowest_J51 (fX2_lowest_L5 fuel y_holds b_heaps b_heights n) v2)
        else (
          zg (zin v2 3) <|
          zg (zin v1 3) <|
          if (b_heights v1.toNatClampNeg) ≤ (b_heights v2.toNatClampNeg) then (
            fX2_lowest_J53 (fX2_lowest_L5 fuel y_holds b_heaps b_heights n) v1 v2)
          else (
            fX2_lowest_J51 (fX2_lowest_L5 fuel y_holds b_heaps b_heights n) v2))))
def fX2_lowest (fuel : Nat) (y_holds : Int32) (b_heaps : Int32) (b_heights : Nat → Int32) : Option (Int32) :=
  fX2_lowest_L5 fuel y_holds b_heaps b_heights fuel (-4) 0
def fX2_empty_L2 (b_heaps : Int32) (b_heights : Nat → Int32) : Nat → Int32 → Option (Int32)
  | 0, _ => none
  | n + 1, v1 =>
    if b_heaps ≤ v1 then (
      some ((-4)))
    else (
      zg (zin v1 3) <|
      if (b_heights v1.toNatClampNeg) = 0 then (
        some (v1))
      else (
        zlet (v1 + 1) fun v1_4 =>
        fX2_empty_L2 b_heaps b_heights n v1_4))
def fX2_empty (fuel : Nat) (b_heaps : Int32) (b_heights : Nat → Int32) : Option (Int32) :=
  fX2_empty_L2 b_heaps b_heights fuel 0
def fX2_latestTop_J70 (k7 : Int32 → Int32 → Int32 → Option (Int32)) (v1 : Int32) (v2 : Int32) (v3 : Int32) : Option (Int32) :=
  zlet (v3 + 1) fun v3_11 =>
  k7 v1 v2 v3_11
def fX2_latestTop_J60 (y_going : Nat → Int32) (k7 : Int32 → Int32 → Int32 → Option (Int32)) (v3 : Int32) (v4 : Int32) : Option (Int32) :=
  zg (zin v4 10) <|
  zlet (y_going v4.toNatClampNeg) fun v2_10 =>
  fX2_latestTop_J70 k7 v3 v2_10 v3
def fX2_latestTop_L7 (fuel : Nat) (y_going : Nat → Int32) (y_holds : Int32) (b_heaps : Int32) (b_piles : Nat → Nat → Int32) (b_heights : Nat → Int32) : Nat → Int32 → Int32 → Int32 → Option (Int32)
  | 0, _, _, _ => none
  | n + 1, v1, v2, v3 =>
    if b_heaps ≤ v3 then (
      some (v1))
    else (
      (fX0_topOf fuel b_piles b_heights v3).bind fun o_2 =>
      if o_2 = (-4) then (
        fX2_latestTop_J70 (fX2_latestTop_L7 fuel y_going y_holds b_heaps b_piles b_heights n) v1 v2 v3)
      else (
        (fX2_hasRoom fuel y_holds b_heights v3).bind fun o_4 =>
        if o_4 = 0 then (
          fX2_latestTop_J70 (fX2_latestTop_L7 fuel y_going y_holds b_heaps b_piles b_heights n) v1 v2 v3)
        else (
          if v1 = (-4) then (
            fX2_latestTop_J60 y_going (fX2_latestTop_L7 fuel y_going y_holds b_heaps b_piles b_heights n) v3 o_2)
          else (
            zg (zin o_2 10) <|
            if (y_going o_2.toNatClampNeg) ≤ v2 then (
              fX2_latestTop_J70 (fX2_latestTop_L7 fuel y_going y_holds b_heaps b_piles b_heights n) v1 v2 v3)
            else (
              fX2_latestTop_J60 y_going (fX2_latestTop_L7 fuel y_going y_holds b_heaps b_piles b_heights n) v3 o_2)))))
def fX2_latestTop (fuel : Nat) (y_going : Nat → Int32) (y_holds : Int32) (b_heaps : Int32) (b_piles : Nat → Nat → Int32) (b_heights : Nat → Int32) : Option (Int32) :=
  fX2_latestTop_L7 fuel y_going y_holds b_heaps b_piles b_heights fuel (-4) 0 0
def fX2_soonestTopBehind_J98 (k8 : Int32 → Int32 → Int32 → Option (Int32)) (v2 : Int32) (v3 : Int32) (v4 : Int32) : Option (Int32) :=
  zlet (v4 + 1) fun v4_17 =>
  k8 v2 v3 v4_17
def fX2_soonestTopBehind_J87 (y_going : Nat → Int32) (k8 : Int32 → Int32 → Int32 → Option (Int32)) (v4 : Int32) (v5 : Int32) : Option (Int32) :=
  zg (zin v5 10) <|
  zlet (y_going v5.toNatClampNeg) fun v3_16 =>
  fX2_soonestTopBehind_J98 k8 v4 v3_16 v4
def fX2_soonestTopBehind_J62 (y_going : Nat → Int32) (k8 : Int32 → Int32 → Int32 → Option (Int32)) (v2 : Int32) (v3 : Int32) (v4 : Int32) (v5 : Int32) : Option (Int32) :=
  if (0 : Int32) = 0 then (
    fX2_soonestTopBehind_J98 k8 v2 v3 v4)
  else (
    if v2 = (-4) then (
      fX2_soonestTopBehind_J87 y_going k8 v4 v5)
    else (
      zg (zin v5 10) <|
      if v3 ≤ (y_going v5.toNatClampNeg) then (
        fX2_soonestTopBehind_J98 k8 v2 v3 v4)
      else (
        fX2_soonestTopBehind_J87 y_going k8 v4 v5)))
def fX2_soonestTopBehind_L8 (fuel : Nat) (y_going : Nat → Int32) (y_holds : Int32) (b_heaps : Int32) (b_piles : Nat → Nat → Int32) (b_heights : Nat → Int32) (p1 : Int32) : Nat → Int32 → Int32 → Int32 → Option (Int32)
  | 0, _, _, _ => none
  | n + 1, v2, v3, v4 =>
    if b_heaps ≤ v4 then (
      some (v2))
    else (
      (fX0_topOf fuel b_piles b_heights v4).bind fun o_2 =>
      if o_2 = (-4) then (
        fX2_soonestTopBehind_J62 y_going (fX2_soonestTopBehind_L8 fuel y_going y_holds b_heaps b_piles b_heights p1 n) v2 v3 v4 o_2)
      else (
        (fX2_hasRoom fuel y_holds b_heights v4).bind fun o_4 =>
        if o_4 = 0 then (
          fX2_soonestTopBehind_J62 y_going (fX2_soonestTopBehind_L8 fuel y_going y_holds b_heaps b_piles b_heights p1 n) v2 v3 v4 o_2)
        else (
          zg (zin o_2 10) <|
          if (y_going o_2.toNatClampNeg) ≤ p1 then (
            fX2_soonestTopBehind_J62 y_going (fX2_soonestTopBehind_L8 fuel y_going y_holds b_heaps b_piles b_heights p1 n) v2 v3 v4 o_2)
          else (
            if (1 : Int32) = 0 then (
              fX2_soonestTopBehind_J98 (fX2_soonestTopBehind_L8 fuel y_going y_holds b_heaps b_piles b_heights p1 n) v2 v3 v4)
            else (
              if v2 = (-4) then (
                fX2_soonestTopBehind_J87 y_going (fX2_soonestTopBehind_L8 fuel y_going y_holds b_heaps b_piles b_heights p1 n) v4 o_2)
              else (
                if v3 ≤ (y_going o_2.toNatClampNeg) then (
                  fX2_soonestTopBehind_J98 (fX2_soonestTopBehind_L8 fuel y_going y_holds b_heaps b_piles b_heights p1 n) v2 v3 v4)
                else (
                  fX2_soonestTopBehind_J87 y_going (fX2_soonestTopBehind_L8 fuel y_going y_holds b_heaps b_piles b_heights p1 n) v4 o_2)))))))
def fX2_soonestTopBehind (fuel : Nat) (y_going : Nat → Int32) (y_holds : Int32) (b_heaps : Int32) (b_piles : Nat → Nat → Int32) (b_heights : Nat → Int32) (p1 : Int32) : Option (Int32) :=
  fX2_soonestTopBehind_L8 fuel y_going y_holds b_heaps b_piles b_heights p1 fuel (-4) 0 0
def fX2_heapByLetter_J126 (fuel : Nat) (y_holds : Int32) (b_heaps : Int32) (b_heights : Nat → Int32) : Option (Int32) :=
  (fX2_firstFrom fuel y_holds b_heaps b_heights 0).bind fun o_24 =>
  some (o_24)
def fX2_heapByLetter (fuel : Nat) (y_going : Nat → Int32) (y_holds : Int32) (y_latest : Int32) (b_heaps : Int32) (b_piles : Nat → Nat → Int32) (b_heights : Nat → Int32) (p1 : Int32) (p2 : Int32) : Option (Int32) :=
  if p1 = 101 then (
    (fX2_empty fuel b_heaps b_heights).bind fun o_2 =>
    some (o_2))
  else (
    if p1 = 102 then (
      fX2_heapByLetter_J126 fuel y_holds b_heaps b_heights)
    else (
      if p1 = 103 then (
        fX2_heapByLetter_J126 fuel y_holds b_heaps b_heights)
      else (
        if p1 = 104 then (
          fX2_heapByLetter_J126 fuel y_holds b_heaps b_heights)
        else (
          if p1 = 105 then (
            fX2_heapByLetter_J126 fuel y_holds b_heaps b_heights)
          else (
            if p1 = 106 then (
              fX2_heapByLetter_J126 fuel y_holds b_heaps b_heights)
            else (
              if p1 = 107 then (
                fX2_heapByLetter_J126 fuel y_holds b_heaps b_heights)
              else (
                if p1 = 108 then (
                  (fX2_latestTop fuel y_going y_holds b_heaps b_piles b_heights).bind fun o_10 =>
                  some (o_10))
                else (
                  if p1 = 109 then (
                    fX2_heapByLetter_J126 fuel y_holds b_heaps b_heights)
                  else (
                    if p1 = 110 then (
                      fX2_heapByLetter_J126 fuel y_holds b_heaps b_heights)
                    else (
                      if p1 = 111 then (
                        zg (zin p2 10) <|
                        (fX2_soonestTopBehind fuel y_going y_holds b_heaps b_piles b_heights (y_going p2.toNatClampNeg)).bind fun o_15 =>
                        some (o_15))
                      else (
                        if p1 = 112 then (
                          fX2_heapByLetter_J126 fuel y_holds b_heaps b_heights)
                        else (
                          if p1 = 113 then (
                            fX2_heapByLetter_J126 fuel y_holds b_heaps b_heights)
                          else (
                            if p1 = 114 then (
                              if y_latest = (-4) then (
                                (fX2_firstFrom fuel y_holds b_heaps b_heights 0).bind fun o_21 =>
                                some (o_21))
                              else (
                                (fX2_firstFrom fuel y_holds b_heaps b_heights (y_latest + 1)).bind fun o_20 =>
                                some (o_20)))
                            else (
                              if p1 = 115 then (
                                (fX2_lowest fuel y_holds b_heaps b_heights).bind fun o_23 =>
                                some (o_23))
                              else (
                                fX2_heapByLetter_J126 fuel y_holds b_heaps b_heights)))))))))))))))
def fX2_heapFor_J39 (fuel : Nat) (y_holds : Int32) (b_heaps : Int32) (b_heights : Nat → Int32) : Option (Int32) :=
  (fX2_firstFrom fuel y_holds b_heaps b_heights 0).bind fun o_6 =>
  some (o_6)
def fX2_heapFor_L2 (fuel : Nat) (y_going : Nat → Int32) (y_holds : Int32) (y_latest : Int32) (b_heaps : Int32) (b_piles : Nat → Nat → Int32) (b_heights : Nat → Int32) (r_letters : Nat → Int32) (r_letterCount : Int32) (p2 : Int32) : Nat → Int32 → Option (Int32)
  | 0, _ => none
  | n + 1, v3 =>
    if r_letterCount ≤ v3 then (
      fX2_heapFor_J39 fuel y_holds b_heaps b_heights)
    else (
      zg (zin v3 6) <|
      (fX2_heapByLetter fuel y_going y_holds y_latest b_heaps b_piles b_heights (r_letters v3.toNatClampNeg) p2).bind fun o_3 =>
      if o_3 = (-4) then (
        zlet (v3 + 1) fun v3_5 =>
        fX2_heapFor_L2 fuel y_going y_holds y_latest b_heaps b_piles b_heights r_letters r_letterCount p2 n v3_5)
      else (
        some (o_3)))
def fX2_heapFor (fuel : Nat) (y_going : Nat → Int32) (y_holds : Int32) (y_latest : Int32) (b_heaps : Int32) (b_piles : Nat → Nat → Int32) (b_heights : Nat → Int32) (r_letters : Nat → Int32) (r_letterCount : Int32) (p2 : Int32) : Option (Int32) :=
  fX2_heapFor_L2 fuel y_going y_holds y_latest b_heaps b_piles b_heights r_letters r_letterCount p2 fuel 0
def fX2_layAll_J117 (k31 : Int32 → Int32 → Int32 → Int32 → (Nat → Nat → Int32) → (Nat → Int32) → (Nat → Int32) → Option (Int32 × Int32 × Int32 × (Nat → Nat → Int32) × (Nat → Int32) × (Nat → Int32))) (v2 : Int32) (y_holds : Int32) (y_latest : Int32) (b_heaps : Int32) (b_piles : Nat → Nat → Int32) (b_heights : Nat → Int32) (b_spots : Nat → Int32) : Option (Int32 × Int32 × Int32 × (Nat → Nat → Int32) × (Nat → Int32) × (Nat → Int32)) :=
  zlet (v2 + 1) fun v2_25 =>
  k31 v2_25 y_holds y_latest b_heaps b_piles b_heights b_spots
def fX2_layAll_L31 (fuel : Nat) (y_going : Nat → Int32) (y_coming : Nat → Int32) (r_guests : Int32) (r_hooks : Int32) (r_letters : Nat → Int32) (r_letterCount : Int32) : Nat → Int32 → Int32 → Int32 → Int32 → (Nat → Nat → Int32) → (Nat → Int32) → (Nat → Int32) → Option (Int32 × Int32 × Int32 × (Nat → Nat → Int32) × (Nat → Int32) × (Nat → Int32))
  | 0, _, _, _, _, _, _, _ => none
  | n + 1, v2, y_holds, y_latest, b_heaps, b_piles, b_heights, b_spots =>
    if r_guests ≤ v2 then (
      some (y_holds, y_latest, b_heaps, b_piles, b_heights, b_spots))
    else (
      zg (zin v2 10) <|
      zlet (y_coming v2.toNatClampNeg) fun v3_5 =>
      (fX5_hasHook fuel r_hooks v3_5).bind fun o_6 =>
      if o_6 = 0 then (
        (fX2_heapFor fuel y_going y_holds y_latest b_heaps b_piles b_heights r_letters r_letterCount v3_5).bind fun o_8 =>
        (fX9_isHeap fuel o_8).bind fun o_9 =>
        if o_9 = 0 then (
          if o_8 = 9 then (
            zg (zin v3_5 10) <|
            zlet (upd b_spots v3_5.toNatClampNeg 9) fun b_spots_15 =>
            fX2_layAll_J117 (fX2_layAll_L31 fuel y_going y_coming r_guests r_hooks r_letters r_letterCount n) v2 y_holds y_latest b_heaps b_piles b_heights b_spots_15)
          else (
            zg (zin v3_5 10) <|
            zlet (upd b_spots v3_5.toNatClampNeg (-4)) fun b_spots_13 =>
            fX2_layAll_J117 (fX2_layAll_L31 fuel y_going y_coming r_guests r_hooks r_letters r_letterCount n) v2 y_holds y_latest b_heaps b_piles b_heights b_spots_13))
        else (
          (fX0_lay fuel b_piles b_heights b_spots o_8 v3_5).bind fun o_16 =>
          fX2_layAll_J117 (fX2_layAll_L31 fuel y_going y_coming r_guests r_hooks r_letters r_letterCount n) v2 y_holds o_8 b_heaps o_16.1 o_16.2.1 o_16.2.2))
      else (
        (fX9_isHeap fuel 9).bind fun o_17 =>
        if o_17 = 0 then (
          if (9 : Int32) = 9 then (
            zg (zin v3_5 10) <|
            zlet (upd b_spots v3_5.toNatClampNeg 9) fun b_spots_23 =>
            fX2_layAll_J117 (fX2_layAll_L31 fuel y_going y_coming r_guests r_hooks r_letters r_letterCount n) v2 y_holds y_latest b_heaps b_piles b_heights b_spots_23)
          else (
            zg (zin v3_5 10) <|
            zlet (upd b_spots v3_5.toNatClampNeg (-4)) fun b_spots_21 =>
            fX2_layAll_J117 (fX2_layAll_L31 fuel y_going y_coming r_guests r_hooks r_letters r_letterCount n) v2 y_holds y_latest b_heaps b_piles b_heights b_spots_21))
        else (
          (fX0_lay fuel b_piles b_heights b_spots 9 v3_5).bind fun o_24 =>
          fX2_layAll_J117 (fX2_layAll_L31 fuel y_going y_coming r_guests r_hooks r_letters r_letterCount n) v2 y_holds 9 b_heaps o_24.1 o_24.2.1 o_24.2.2)))
def fX2_layAll (fuel : Nat) (y_going : Nat → Int32) (y_coming : Nat → Int32) (y_holds : Int32) (y_latest : Int32) (b_heaps : Int32) (b_piles : Nat → Nat → Int32) (b_heights : Nat → Int32) (b_spots : Nat → Int32) (r_guests : Int32) (r_settings : Nat → Int32) (r_hooks : Int32) (r_letters : Nat → Int32) (r_letterCount : Int32) : Option (Int32 × Int32 × Int32 × (Nat → Nat → Int32) × (Nat → Int32) × (Nat → Int32)) :=
  (fX0_clear fuel b_heaps b_heights b_spots (r_settings 0)).bind fun o_1 =>
  zlet (r_settings 1) fun holds_2 =>
  fX2_layAll_L31 fuel y_going y_coming r_guests r_hooks r_letters r_letterCount fuel 0 holds_2 (-4) o_1.1 b_piles o_1.2.1 o_1.2.2
