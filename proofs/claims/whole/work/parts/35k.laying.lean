abbrev roX2_hasRoom : Room := { frames := 0, cells := 0, slots := 0, locals := 0 }
set_option maxHeartbeats 4000000 in
set_option maxRecDepth 100000 in
theorem kX2_hasRoom (l : Launch) (D : va_G) (ca : Nat → ClassId) (t : Nat → Nat) (ad_y : Nat → Nat) (ad_b : Nat → Nat) (y_going : Nat → Int32) (y_coming : Nat → Int32) (y_holds : Int32) (y_latest : Int32) (b_heaps : Int32) (b_piles : Nat → Nat → Int32) (b_heights : Nat → Int32) (b_spots : Nat → Int32) (p1 : Int32) (fuel : Nat) (o : Int32) (hF : fX2_hasRoom fuel y_holds b_heights p1 = some o) : zRi l D (zT ca) t yX2_hasRoom (.code yX2_hasRoom cX2_hasRoom 2 (some .boolean) :: zW) roX2_hasRoom [.ref (ad_y 0), .int p1] (wX2_yb ca ad_y ad_b y_going y_coming y_holds y_latest b_heaps b_piles b_heights b_spots) o := by
  refine zRi_of (cc := cX2_hasRoom) (maxL := 2) (by decide) rfl (Nat.le_of_ble_eq_true rfl) ?_
  intro p e s m args below meth c A Q ls ⟨hx, hb, hml, hown, hts, hA, hK, hZ, hS⟩ hret hP hD hl
  have hts := fun w h => hts w (List.mem_cons_of_mem _ h)
  have hown : s.vm.findClass RX2 = some m.cls := hown
  have hl : lv_has ls 2 [(0, .ref (ad_y 0)), (1, .int p1)] := hl
  have hin0 := zin_X0
  have hin2 := zin_X2
  unfold fX2_hasRoom at hF
  refine lv_aload_n hx hb dX2_hasRoom_0 rfl (lv_at hl 0 rfl) ?_
  refine va_get (D := D) (ci := 1) (v := .ref (ad_b 0)) (C := RX2) (T := TX2) (N := 5) hx hb hts hin2 hown hK hP 0 rfl rfl 0 (by decide) (hts _ zm_332) (fun _ h9 => h9) rfl dX2_hasRoom_1 ?_
  refine va_get (D := D) (ci := 0) (v := .ref (ad_b 5)) (C := RX0) (T := TX0) (N := 4) hx hb hts hin0 hown hK hP 3 rfl rfl 2 (by decide) (hts _ zm_333) (fun _ h9 => h9) rfl dX2_hasRoom_4 ?_
  refine lv_iload_n hx hb dX2_hasRoom_7 rfl (lv_at hl 1 rfl) ?_
  obtain ⟨h_1, hF⟩ := zgi hF
  refine va_iald hx hb hK hP 8 0 rfl rfl h_1 dX2_hasRoom_8 ?_
  refine lv_aload_n hx hb dX2_hasRoom_9 rfl (lv_at hl 0 rfl) ?_
  refine va_get (D := D) (ci := 1) (v := .int y_holds) (C := RX2) (T := TX2) (N := 5) hx hb hts hin2 hown hK hP 0 rfl rfl 3 (by decide) (hts _ zm_334) (fun _ h9 => h9) rfl dX2_hasRoom_10 ?_
  refine lv_icmp_ge (tgt := 20) hx hb dX2_hasRoom_13 (by decide) (fun c_2 => ?_) (fun c_2 => ?_)
  · have hF := zt c_2 hF
    refine lv_iconst (v := 0) hx hb dX2_hasRoom_20 (by decide) ?_
    obtain rfl := Option.some.inj hF
    exact hret _ _ (zbool (Or.inl rfl)) dX2_hasRoom_21
  · have hF := zf c_2 hF
    refine lv_iconst (v := 1) hx hb dX2_hasRoom_16 (by decide) ?_
    refine lv_goto (tgt := 21) hx hb dX2_hasRoom_17 (by decide) ?_
    obtain rfl := Option.some.inj hF
    exact hret _ _ (zbool (Or.inr rfl)) dX2_hasRoom_21
theorem zdv_X2_hasRoom : yX2_hasRoom.cls = RX2 ∧ yX2_hasRoom.cls ≠ "java/lang/invoke/MethodHandle" ∧ yX2_hasRoom.cls ≠ "java/lang/invoke/VarHandle" ∧ (parseMethodDescriptor yX2_hasRoom.desc).map (fun d => d.parameters.length) = some 1 := by decide +kernel
abbrev roX2_firstFrom : Room := { frames := 1, cells := 0, slots := 0, locals := 21 }
set_option maxHeartbeats 4000000 in
set_option maxRecDepth 100000 in
theorem kX2_firstFrom (l : Launch) (D : va_G) (ca : Nat → ClassId) (t : Nat → Nat) (ad_y : Nat → Nat) (ad_b : Nat → Nat) (y_going : Nat → Int32) (y_coming : Nat → Int32) (y_holds : Int32) (y_latest : Int32) (b_heaps : Int32) (b_piles : Nat → Nat → Int32) (b_heights : Nat → Int32) (b_spots : Nat → Int32) (p1 : Int32) (fuel : Nat) (o : Int32) (hF : fX2_firstFrom fuel y_holds b_heaps b_heights p1 = some o) : zRi l D (zT ca) t yX2_firstFrom (.code yX2_firstFrom cX2_firstFrom 4 (some .int) :: zW) roX2_firstFrom [.ref (ad_y 0), .int p1] (wX2_yb ca ad_y ad_b y_going y_coming y_holds y_latest b_heaps b_piles b_heights b_spots) o := by
  refine zRi_of (cc := cX2_firstFrom) (maxL := 4) (by decide) rfl (Nat.le_of_ble_eq_true rfl) ?_
  intro p e s m args below meth c A Q ls ⟨hx, hb, hml, hown, hts, hA, hK, hZ, hS⟩ hret hP hD hl
  have hts := fun w h => hts w (List.mem_cons_of_mem _ h)
  have hown : s.vm.findClass RX2 = some m.cls := hown
  have hl : lv_has ls 4 [(0, .ref (ad_y 0)), (1, .int p1)] := hl
  have hin0 := zin_X0
  have hin2 := zin_X2
  have l2 : ∀ (n2 : Nat) (v2 : Int32), fX2_firstFrom_L2 fuel y_holds b_heaps b_heights p1 n2 v2 = some o → ∀ ls : Array Slot, lv_has ls 4 [(0, .ref (ad_y 0)), (1, .int p1), (2, .int v2)] → W p l e roX2_firstFrom s m args below meth c s.heap [] 0 0 Q (F0 m 2 ls []) := by
    intro n2
    induction n2 with
    | zero =>
      intro v2 hF
      rw [fX2_firstFrom_L2] at hF
      cases hF
    | succ n2 ih2 =>
      intro v2 hF ls hl
      rw [fX2_firstFrom_L2] at hF
      refine lv_iload_n hx hb dX2_firstFrom_2 rfl (lv_at hl 2 rfl) ?_
      refine lv_aload_n hx hb dX2_firstFrom_3 rfl (lv_at hl 0 rfl) ?_
      refine va_get (D := D) (ci := 1) (v := .ref (ad_b 0)) (C := RX2) (T := TX2) (N := 5) hx hb hts hin2 hown hK hP 0 rfl rfl 0 (by decide) (hts _ zm_332) (fun _ h9 => h9) rfl dX2_firstFrom_4 ?_
      refine va_get (D := D) (ci := 0) (v := .int b_heaps) (C := RX0) (T := TX0) (N := 4) hx hb hts hin0 hown hK hP 3 rfl rfl 0 (by decide) (hts _ zm_335) (fun _ h9 => h9) rfl dX2_firstFrom_7 ?_
      refine lv_icmp_ge (tgt := 60) hx hb dX2_firstFrom_10 (by decide) (fun c_1 => ?_) (fun c_1 => ?_)
      · have hF := zt c_1 hF
        refine lv_bipush (v := (-4)) hx hb dX2_firstFrom_60 (by decide) ?_
        obtain rfl := Option.some.inj hF
        exact hret _ _ rfl dX2_firstFrom_62
      · have hF := zf c_1 hF
        refine lv_iload_n hx hb dX2_firstFrom_13 rfl (lv_at hl 1 rfl) ?_
        refine lv_iload_n hx hb dX2_firstFrom_14 rfl (lv_at hl 2 rfl) ?_
        refine lv_iadd hx hb dX2_firstFrom_15 ?_
        refine lv_aload_n hx hb dX2_firstFrom_16 rfl (lv_at hl 0 rfl) ?_
        refine va_get (D := D) (ci := 1) (v := .ref (ad_b 0)) (C := RX2) (T := TX2) (N := 5) hx hb hts hin2 hown hK hP 0 rfl rfl 0 (by decide) (hts _ zm_332) (fun _ h9 => h9) rfl dX2_firstFrom_17 ?_
        refine va_get (D := D) (ci := 0) (v := .int b_heaps) (C := RX0) (T := TX0) (N := 4) hx hb hts hin0 hown hK hP 3 rfl rfl 0 (by decide) (hts _ zm_335) (fun _ h9 => h9) rfl dX2_firstFrom_20 ?_
        refine lv_icmp_ge (tgt := 32) hx hb dX2_firstFrom_23 (by decide) (fun c_2 => ?_) (fun c_2 => ?_)
        · have hF := zt c_2 hF
          refine lv_iload_n hx hb dX2_firstFrom_32 rfl (lv_at hl 1 rfl) ?_
          refine lv_iload_n hx hb dX2_firstFrom_33 rfl (lv_at hl 2 rfl) ?_
          refine lv_iadd hx hb dX2_firstFrom_34 ?_
          refine lv_aload_n hx hb dX2_firstFrom_35 rfl (lv_at hl 0 rfl) ?_
          refine va_get (D := D) (ci := 1) (v := .ref (ad_b 0)) (C := RX2) (T := TX2) (N := 5) hx hb hts hin2 hown hK hP 0 rfl rfl 0 (by decide) (hts _ zm_332) (fun _ h9 => h9) rfl dX2_firstFrom_36 ?_
          refine va_get (D := D) (ci := 0) (v := .int b_heaps) (C := RX0) (T := TX0) (N := 4) hx hb hts hin0 hown hK hP 3 rfl rfl 0 (by decide) (hts _ zm_335) (fun _ h9 => h9) rfl dX2_firstFrom_39 ?_
          refine lv_isub hx hb dX2_firstFrom_42 ?_
          refine z_let hF (fun v3_3 hF => ?_)
          refine lv_istore_n (lv' := [(3, .int v3_3), (0, .ref (ad_y 0)), (1, .int p1), (2, .int v2)]) hx hb dX2_firstFrom_43 rfl hl (by decide) rfl (fun ls hl => ?_)
          refine lv_aload_n hx hb dX2_firstFrom_44 rfl (lv_at hl 1 rfl) ?_
          refine lv_iload_n hx hb dX2_firstFrom_45 rfl (lv_at hl 0 rfl) ?_
          obtain ⟨o_4, hc_4, hF⟩ := zb hF
          refine zcVR (rest := []) (kX2_hasRoom l D ca t ad_y ad_b y_going y_coming y_holds y_latest b_heaps b_piles b_heights b_spots v3_3 fuel _ hc_4) ⟨hx, hb, hml, hown, hts⟩ (zcwV hts zm_337 zm_338 zm_339 zm_340 zm_336 rfl rfl zdv_X2_hasRoom ⟨Nat.le_of_ble_eq_true rfl, Nat.le_of_ble_eq_true rfl⟩) hA hK hZ hP hD hS [0, 1, 2, 3, 4, 5, 6, 7, 8, 9] rfl rfl 1 0 rfl rfl rfl hl.1 (Nat.le_of_ble_eq_true rfl) dX2_firstFrom_46 rfl ?_
          refine lv_if_eq (tgt := 54) hx hb dX2_firstFrom_49 (by decide) (fun c_5 => ?_) (fun c_5 => ?_)
          · have hF := zt c_5 hF
            refine z_iinc (kv := 1) hx hb 3 dX2_firstFrom_54 hl rfl (by decide) (by decide) (fun g => [(2, .int g), (3, .int v3_3), (0, .ref (ad_y 0)), (1, .int p1)]) (fun _ => rfl) hF (fun v2_6 ls hF hl => ?_)
            refine lv_goto (tgt := 2) hx hb dX2_firstFrom_57 (by decide) ?_
            exact ih2 v2_6 hF ls (lv_sub hl [2, 3, 0] rfl)
          · have hF := zf c_5 hF
            refine lv_iload_n hx hb dX2_firstFrom_52 rfl (lv_at hl 0 rfl) ?_
            obtain rfl := Option.some.inj hF
            exact hret _ _ rfl dX2_firstFrom_53
        · have hF := zf c_2 hF
          refine lv_iload_n hx hb dX2_firstFrom_26 rfl (lv_at hl 1 rfl) ?_
          refine lv_iload_n hx hb dX2_firstFrom_27 rfl (lv_at hl 2 rfl) ?_
          refine lv_iadd hx hb dX2_firstFrom_28 ?_
          refine lv_goto (tgt := 43) hx hb dX2_firstFrom_29 (by decide) ?_
          refine z_let hF (fun v3_7 hF => ?_)
          refine lv_istore_n (lv' := [(3, .int v3_7), (0, .ref (ad_y 0)), (1, .int p1), (2, .int v2)]) hx hb dX2_firstFrom_43 rfl hl (by decide) rfl (fun ls hl => ?_)
          refine lv_aload_n hx hb dX2_firstFrom_44 rfl (lv_at hl 1 rfl) ?_
          refine lv_iload_n hx hb dX2_firstFrom_45 rfl (lv_at hl 0 rfl) ?_
          obtain ⟨o_8, hc_8, hF⟩ := zb hF
          refine zcVR (rest := []) (kX2_hasRoom l D ca t ad_y ad_b y_going y_coming y_holds y_latest b_heaps b_piles b_heights b_spots v3_7 fuel _ hc_8) ⟨hx, hb, hml, hown, hts⟩ (zcwV hts zm_337 zm_338 zm_339 zm_340 zm_336 rfl rfl zdv_X2_hasRoom ⟨Nat.le_of_ble_eq_true rfl, Nat.le_of_ble_eq_true rfl⟩) hA hK hZ hP hD hS [0, 1, 2, 3, 4, 5, 6, 7, 8, 9] rfl rfl 1 0 rfl rfl rfl hl.1 (Nat.le_of_ble_eq_true rfl) dX2_firstFrom_46 rfl ?_
          refine lv_if_eq (tgt := 54) hx hb dX2_firstFrom_49 (by decide) (fun c_9 => ?_) (fun c_9 => ?_)
          · have hF := zt c_9 hF
            refine z_iinc (kv := 1) hx hb 3 dX2_firstFrom_54 hl rfl (by decide) (by decide) (fun g => [(2, .int g), (3, .int v3_7), (0, .ref (ad_y 0)), (1, .int p1)]) (fun _ => rfl) hF (fun v2_10 ls hF hl => ?_)
            refine lv_goto (tgt := 2) hx hb dX2_firstFrom_57 (by decide) ?_
            exact ih2 v2_10 hF ls (lv_sub hl [2, 3, 0] rfl)
          · have hF := zf c_9 hF
            refine lv_iload_n hx hb dX2_firstFrom_52 rfl (lv_at hl 0 rfl) ?_
            obtain rfl := Option.some.inj hF
            exact hret _ _ rfl dX2_firstFrom_53
  unfold fX2_firstFrom at hF
  refine lv_iconst (v := 0) hx hb dX2_firstFrom_0 (by decide) ?_
  refine lv_istore_n (lv' := [(2, .int 0), (0, .ref (ad_y 0)), (1, .int p1)]) hx hb dX2_firstFrom_1 rfl hl (by decide) rfl (fun ls hl => ?_)
  exact l2 fuel 0 hF ls (lv_sub hl [1, 2, 0] rfl)
abbrev roX2_lowest : Room := { frames := 1, cells := 0, slots := 0, locals := 21 }
set_option maxHeartbeats 4000000 in
set_option maxRecDepth 100000 in
theorem kX2_lowest (l : Launch) (D : va_G) (ca : Nat → ClassId) (t : Nat → Nat) (ad_y : Nat → Nat) (ad_b : Nat → Nat) (y_going : Nat → Int32) (y_coming : Nat → Int32) (y_holds : Int32) (y_latest : Int32) (b_heaps : Int32) (b_piles : Nat → Nat → Int32) (b_heights : Nat → Int32) (b_spots : Nat → Int32) (fuel : Nat) (o : Int32) (hF : fX2_lowest fuel y_holds b_heaps b_heights = some o) : zRi l D (zT ca) t yX2_lowest (.code yX2_lowest cX2_lowest 3 (some .int) :: zW) roX2_lowest [.ref (ad_y 0)] (wX2_yb ca ad_y ad_b y_going y_coming y_holds y_latest b_heaps b_piles b_heights b_spots) o := by
  refine zRi_of (cc := cX2_lowest) (maxL := 3) (by decide) rfl (Nat.le_of_ble_eq_true rfl) ?_
  intro p e s m args below meth c A Q ls ⟨hx, hb, hml, hown, hts, hA, hK, hZ, hS⟩ hret hP hD hl
  have hts := fun w h => hts w (List.mem_cons_of_mem _ h)
  have hown : s.vm.findClass RX2 = some m.cls := hown
  have hl : lv_has ls 3 [(0, .ref (ad_y 0))] := hl
  have hin0 := zin_X0
  have hin2 := zin_X2
  have l5 : ∀ (n5 : Nat) (v1 : Int32) (v2 : Int32), fX2_lowest_L5 fuel y_holds b_heaps b_heights n5 v1 v2 = some o → ∀ ls : Array Slot, lv_has ls 3 [(0, .ref (ad_y 0)), (1, .int v1), (2, .int v2)] → W p l e roX2_lowest s m args below meth c s.heap [] 0 0 Q (F0 m 5 ls []) := by
    intro n5
    induction n5 with
    | zero =>
      intro v1 v2 hF
      rw [fX2_lowest_L5] at hF
      cases hF
    | succ n5 ih5 =>
      have j53 : ∀ (v1 : Int32) (v2 : Int32), fX2_lowest_J53 (fX2_lowest_L5 fuel y_holds b_heaps b_heights n5) v1 v2 = some o → ∀ ls : Array Slot, lv_has ls 3 [(0, .ref (ad_y 0)), (1, .int v1), (2, .int v2)] → W p l e roX2_lowest s m args below meth c s.heap [] 0 0 Q (F0 m 53 ls []) := by
        intro v1 v2 hF ls hl
        unfold fX2_lowest_J53 at hF
        refine z_iinc (kv := 1) hx hb 2 dX2_lowest_53 hl rfl (by decide) (by decide) (fun g => [(2, .int g), (0, .ref (ad_y 0)), (1, .int v1)]) (fun _ => rfl) hF (fun v2_8 ls hF hl => ?_)
        refine lv_goto (tgt := 5) hx hb dX2_lowest_56 (by decide) ?_
        exact ih5 v1 v2_8 hF ls (lv_sub hl [1, 2, 0] rfl)
      have j51 : ∀ (v2 : Int32), fX2_lowest_J51 (fX2_lowest_L5 fuel y_holds b_heaps b_heights n5) v2 = some o → ∀ ls : Array Slot, lv_has ls 3 [(0, .ref (ad_y 0)), (2, .int v2)] → W p l e roX2_lowest s m args below meth c s.heap [] 0 0 Q (F0 m 51 ls []) := by
        intro v2 hF ls hl
        unfold fX2_lowest_J51 at hF
        refine lv_iload_n hx hb dX2_lowest_51 rfl (lv_at hl 1 rfl) ?_
        refine lv_istore_n (lv' := [(1, .int v2), (0, .ref (ad_y 0)), (2, .int v2)]) hx hb dX2_lowest_52 rfl hl (by decide) rfl (fun ls hl => ?_)
        exact j53 v2 v2 hF ls (lv_sub hl [1, 0, 2] rfl)
      intro v1 v2 hF ls hl
      rw [fX2_lowest_L5] at hF
      refine lv_iload_n hx hb dX2_lowest_5 rfl (lv_at hl 2 rfl) ?_
      refine lv_aload_n hx hb dX2_lowest_6 rfl (lv_at hl 0 rfl) ?_
      refine va_get (D := D) (ci := 1) (v := .ref (ad_b 0)) (C := RX2) (T := TX2) (N := 5) hx hb hts hin2 hown hK hP 0 rfl rfl 0 (by decide) (hts _ zm_332) (fun _ h9 => h9) rfl dX2_lowest_7 ?_
      refine va_get (D := D) (ci := 0) (v := .int b_heaps) (C := RX0) (T := TX0) (N := 4) hx hb hts hin0 hown hK hP 3 rfl rfl 0 (by decide) (hts _ zm_335) (fun _ h9 => h9) rfl dX2_lowest_10 ?_
      refine lv_icmp_ge (tgt := 59) hx hb dX2_lowest_13 (by decide) (fun c_1 => ?_) (fun c_1 => ?_)
      · have hF := zt c_1 hF
        refine lv_iload_n hx hb dX2_lowest_59 rfl (lv_at hl 1 rfl) ?_
        obtain rfl := Option.some.inj hF
        exact hret _ _ rfl dX2_lowest_60
      · have hF := zf c_1 hF
        refine lv_aload_n hx hb dX2_lowest_16 rfl (lv_at hl 0 rfl) ?_
        refine lv_iload_n hx hb dX2_lowest_17 rfl (lv_at hl 2 rfl) ?_
        obtain ⟨o_2, hc_2, hF⟩ := zb hF
        refine zcVR (rest := []) (kX2_hasRoom l D ca t ad_y ad_b y_going y_coming y_holds y_latest b_heaps b_piles b_heights b_spots v2 fuel _ hc_2) ⟨hx, hb, hml, hown, hts⟩ (zcwV hts zm_337 zm_338 zm_339 zm_340 zm_336 rfl rfl zdv_X2_hasRoom ⟨Nat.le_of_ble_eq_true rfl, Nat.le_of_ble_eq_true rfl⟩) hA hK hZ hP hD hS [0, 1, 2, 3, 4, 5, 6, 7, 8, 9] rfl rfl 1 0 rfl rfl rfl hl.1 (Nat.le_of_ble_eq_true rfl) dX2_lowest_18 rfl ?_
        refine lv_if_eq (tgt := 53) hx hb dX2_lowest_21 (by decide) (fun c_3 => ?_) (fun c_3 => ?_)
        · have hF := zt c_3 hF
          exact j53 v1 v2 hF ls (lv_sub hl [0, 1, 2] rfl)
        · have hF := zf c_3 hF
          refine lv_iload_n hx hb dX2_lowest_24 rfl (lv_at hl 1 rfl) ?_
          refine lv_bipush (v := (-4)) hx hb dX2_lowest_25 (by decide) ?_
          refine lv_icmp_eq (tgt := 51) hx hb dX2_lowest_27 (by decide) (fun c_4 => ?_) (fun c_4 => ?_)
          · have hF := zt c_4 hF
            exact j51 v2 hF ls (lv_sub hl [0, 2] rfl)
          · have hF := zf c_4 hF
            refine lv_aload_n hx hb dX2_lowest_30 rfl (lv_at hl 0 rfl) ?_
            refine va_get (D := D) (ci := 1) (v := .ref (ad_b 0)) (C := RX2) (T := TX2) (N := 5) hx hb hts hin2 hown hK hP 0 rfl rfl 0 (by decide) (hts _ zm_332) (fun _ h9 => h9) rfl dX2_lowest_31 ?_
            refine va_get (D := D) (ci := 0) (v := .ref (ad_b 5)) (C := RX0) (T := TX0) (N := 4) hx hb hts hin0 hown hK hP 3 rfl rfl 2 (by decide) (hts _ zm_333) (fun _ h9 => h9) rfl dX2_lowest_34 ?_
            refine lv_iload_n hx hb dX2_lowest_37 rfl (lv_at hl 2 rfl) ?_
            obtain ⟨h_5, hF⟩ := zgi hF
            refine va_iald hx hb hK hP 8 0 rfl rfl h_5 dX2_lowest_38 ?_
            refine lv_aload_n hx hb dX2_lowest_39 rfl (lv_at hl 0 rfl) ?_
            refine va_get (D := D) (ci := 1) (v := .ref (ad_b 0)) (C := RX2) (T := TX2) (N := 5) hx hb hts hin2 hown hK hP 0 rfl rfl 0 (by decide) (hts _ zm_332) (fun _ h9 => h9) rfl dX2_lowest_40 ?_
            refine va_get (D := D) (ci := 0) (v := .ref (ad_b 5)) (C := RX0) (T := TX0) (N := 4) hx hb hts hin0 hown hK hP 3 rfl rfl 2 (by decide) (hts _ zm_333) (fun _ h9 => h9) rfl dX2_lowest_43 ?_
            refine lv_iload_n hx hb dX2_lowest_46 rfl (lv_at hl 1 rfl) ?_
            obtain ⟨h_6, hF⟩ := zgi hF
            refine va_iald hx hb hK hP 8 0 rfl rfl h_6 dX2_lowest_47 ?_
            refine lv_icmp_ge (tgt := 53) hx hb dX2_lowest_48 (by decide) (fun c_7 => ?_) (fun c_7 => ?_)
            · have hF := zt c_7 hF
              exact j53 v1 v2 hF ls (lv_sub hl [0, 1, 2] rfl)
            · have hF := zf c_7 hF
              exact j51 v2 hF ls (lv_sub hl [0, 2] rfl)
  unfold fX2_lowest at hF
  refine lv_bipush (v := (-4)) hx hb dX2_lowest_0 (by decide) ?_
  refine lv_istore_n (lv' := [(1, .int (-4)), (0, .ref (ad_y 0))]) hx hb dX2_lowest_2 rfl hl (by decide) rfl (fun ls hl => ?_)
  refine lv_iconst (v := 0) hx hb dX2_lowest_3 (by decide) ?_
  refine lv_istore_n (lv' := [(2, .int 0), (1, .int (-4)), (0, .ref (ad_y 0))]) hx hb dX2_lowest_4 rfl hl (by decide) rfl (fun ls hl => ?_)
  exact l5 fuel (-4) 0 hF ls (lv_sub hl [2, 1, 0] rfl)
abbrev roX2_empty : Room := { frames := 0, cells := 0, slots := 0, locals := 0 }
set_option maxHeartbeats 4000000 in
set_option maxRecDepth 100000 in
theorem kX2_empty (l : Launch) (D : va_G) (ca : Nat → ClassId) (t : Nat → Nat) (ad_y : Nat → Nat) (ad_b : Nat → Nat) (y_going : Nat → Int32) (y_coming : Nat → Int32) (y_holds : Int32) (y_latest : Int32) (b_heaps : Int32) (b_piles : Nat → Nat → Int32) (b_heights : Nat → Int32) (b_spots : Nat → Int32) (fuel : Nat) (o : Int32) (hF : fX2_empty fuel b_heaps b_heights = some o) : zRi l D (zT ca) t yX2_empty (.code yX2_empty cX2_empty 2 (some .int) :: zW) roX2_empty [.ref (ad_y 0)] (wX2_yb ca ad_y ad_b y_going y_coming y_holds y_latest b_heaps b_piles b_heights b_spots) o := by
  refine zRi_of (cc := cX2_empty) (maxL := 2) (by decide) rfl (Nat.le_of_ble_eq_true rfl) ?_
  intro p e s m args below meth c A Q ls ⟨hx, hb, hml, hown, hts, hA, hK, hZ, hS⟩ hret hP hD hl
  have hts := fun w h => hts w (List.mem_cons_of_mem _ h)
  have hown : s.vm.findClass RX2 = some m.cls := hown
  have hl : lv_has ls 2 [(0, .ref (ad_y 0))] := hl
  have hin0 := zin_X0
  have hin2 := zin_X2
  have l2 : ∀ (n2 : Nat) (v1 : Int32), fX2_empty_L2 b_heaps b_heights n2 v1 = some o → ∀ ls : Array Slot, lv_has ls 2 [(0, .ref (ad_y 0)), (1, .int v1)] → W p l e roX2_empty s m args below meth c s.heap [] 0 0 Q (F0 m 2 ls []) := by
    intro n2
    induction n2 with
    | zero =>
      intro v1 hF
      rw [fX2_empty_L2] at hF
      cases hF
    | succ n2 ih2 =>
      intro v1 hF ls hl
      rw [fX2_empty_L2] at hF
      refine lv_iload_n hx hb dX2_empty_2 rfl (lv_at hl 1 rfl) ?_
      refine lv_aload_n hx hb dX2_empty_3 rfl (lv_at hl 0 rfl) ?_
      refine va_get (D := D) (ci := 1) (v := .ref (ad_b 0)) (C := RX2) (T := TX2) (N := 5) hx hb hts hin2 hown hK hP 0 rfl rfl 0 (by decide) (hts _ zm_332) (fun _ h9 => h9) rfl dX2_empty_4 ?_
      refine va_get (D := D) (ci := 0) (v := .int b_heaps) (C := RX0) (T := TX0) (N := 4) hx hb hts hin0 hown hK hP 3 rfl rfl 0 (by decide) (hts _ zm_335) (fun _ h9 => h9) rfl dX2_empty_7 ?_
      refine lv_icmp_ge (tgt := 33) hx hb dX2_empty_10 (by decide) (fun c_1 => ?_) (fun c_1 => ?_)
      · have hF := zt c_1 hF
        refine lv_bipush (v := (-4)) hx hb dX2_empty_33 (by decide) ?_
        obtain rfl := Option.some.inj hF
        exact hret _ _ rfl dX2_empty_35
      · have hF := zf c_1 hF
        refine lv_aload_n hx hb dX2_empty_13 rfl (lv_at hl 0 rfl) ?_
        refine va_get (D := D) (ci := 1) (v := .ref (ad_b 0)) (C := RX2) (T := TX2) (N := 5) hx hb hts hin2 hown hK hP 0 rfl rfl 0 (by decide) (hts _ zm_332) (fun _ h9 => h9) rfl dX2_empty_14 ?_
        refine va_get (D := D) (ci := 0) (v := .ref (ad_b 5)) (C := RX0) (T := TX0) (N := 4) hx hb hts hin0 hown hK hP 3 rfl rfl 2 (by decide) (hts _ zm_333) (fun _ h9 => h9) rfl dX2_empty_17 ?_
        refine lv_iload_n hx hb dX2_empty_20 rfl (lv_at hl 1 rfl) ?_
        obtain ⟨h_2, hF⟩ := zgi hF
        refine va_iald hx hb hK hP 8 0 rfl rfl h_2 dX2_empty_21 ?_
        refine lv_if_ne (tgt := 27) hx hb dX2_empty_22 (by decide) (fun c_3 => ?_) (fun c_3 => ?_)
        · have hF := zf c_3 hF
          refine z_iinc (kv := 1) hx hb 1 dX2_empty_27 hl rfl (by decide) (by decide) (fun g => [(1, .int g), (0, .ref (ad_y 0))]) (fun _ => rfl) hF (fun v1_4 ls hF hl => ?_)
          refine lv_goto (tgt := 2) hx hb dX2_empty_30 (by decide) ?_
          exact ih2 v1_4 hF ls (lv_sub hl [1, 0] rfl)
        · have hF := zt c_3 hF
          refine lv_iload_n hx hb dX2_empty_25 rfl (lv_at hl 1 rfl) ?_
          obtain rfl := Option.some.inj hF
          exact hret _ _ rfl dX2_empty_26
  unfold fX2_empty at hF
  refine lv_iconst (v := 0) hx hb dX2_empty_0 (by decide) ?_
  refine lv_istore_n (lv' := [(1, .int 0), (0, .ref (ad_y 0))]) hx hb dX2_empty_1 rfl hl (by decide) rfl (fun ls hl => ?_)
  exact l2 fuel 0 hF ls (lv_sub hl [1, 0] rfl)
abbrev roX2_latestTop : Room := { frames := 1, cells := 0, slots := 0, locals := 21 }
set_option maxHeartbeats 4000000 in
set_option maxRecDepth 100000 in
theorem kX2_latestTop (l : Launch) (D : va_G) (ca : Nat → ClassId) (t : Nat → Nat) (ad_y : Nat → Nat) (ad_b : Nat → Nat) (y_going : Nat → Int32) (y_coming : Nat → Int32) (y_holds : Int32) (y_latest : Int32) (b_heaps : Int32) (b_piles : Nat → Nat → Int32) (b_heights : Nat → Int32) (b_spots : Nat → Int32) (fuel : Nat) (o : Int32) (hF : fX2_latestTop fuel y_going y_holds b_heaps b_piles b_heights = some o) : zRi l D (zT ca) t yX2_latestTop (.code yX2_latestTop cX2_latestTop 5 (some .int) :: zW) roX2_latestTop [.ref (ad_y 0)] (wX2_yb ca ad_y ad_b y_going y_coming y_holds y_latest b_heaps b_piles b_heights b_spots) o := by
  refine zRi_of (cc := cX2_latestTop) (maxL := 5) (by decide) rfl (Nat.le_of_ble_eq_true rfl) ?_
  intro p e s m args below meth c A Q ls ⟨hx, hb, hml, hown, hts, hA, hK, hZ, hS⟩ hret hP hD hl
  have hts := fun w h => hts w (List.mem_cons_of_mem _ h)
  have hown : s.vm.findClass RX2 = some m.cls := hown
  have hl : lv_has ls 5 [(0, .ref (ad_y 0))] := hl
  have hin0 := zin_X0
  have hin2 := zin_X2
  have l7 : ∀ (n7 : Nat) (v1 : Int32) (v2 : Int32) (v3 : Int32), fX2_latestTop_L7 fuel y_going y_holds b_heaps b_piles b_heights n7 v1 v2 v3 = some o → ∀ ls : Array Slot, lv_has ls 5 [(0, .ref (ad_y 0)), (1, .int v1), (2, .int v2), (3, .int v3)] → W p l e roX2_latestTop s m args below meth c s.heap [] 0 0 Q (F0 m 7 ls []) := by
    intro n7
    induction n7 with
    | zero =>
      intro v1 v2 v3 hF
      rw [fX2_latestTop_L7] at hF
      cases hF
    | succ n7 ih7 =>
      have j70 : ∀ (v1 : Int32) (v2 : Int32) (v3 : Int32), fX2_latestTop_J70 (fX2_latestTop_L7 fuel y_going y_holds b_heaps b_piles b_heights n7) v1 v2 v3 = some o → ∀ ls : Array Slot, lv_has ls 5 [(0, .ref (ad_y 0)), (1, .int v1), (2, .int v2), (3, .int v3)] → W p l e roX2_latestTop s m args below meth c s.heap [] 0 0 Q (F0 m 70 ls []) := by
        intro v1 v2 v3 hF ls hl
        unfold fX2_latestTop_J70 at hF
        refine z_iinc (kv := 1) hx hb 3 dX2_latestTop_70 hl rfl (by decide) (by decide) (fun g => [(3, .int g), (0, .ref (ad_y 0)), (1, .int v1), (2, .int v2)]) (fun _ => rfl) hF (fun v3_11 ls hF hl => ?_)
        refine lv_goto (tgt := 7) hx hb dX2_latestTop_73 (by decide) ?_
        exact ih7 v1 v2 v3_11 hF ls (lv_sub hl [1, 2, 3, 0] rfl)
      have j60 : ∀ (v3 : Int32) (v4 : Int32), fX2_latestTop_J60 y_going (fX2_latestTop_L7 fuel y_going y_holds b_heaps b_piles b_heights n7) v3 v4 = some o → ∀ ls : Array Slot, lv_has ls 5 [(0, .ref (ad_y 0)), (3, .int v3), (4, .int v4)] → W p l e roX2_latestTop s m args below meth c s.heap [] 0 0 Q (F0 m 60 ls []) := by
        intro v3 v4 hF ls hl
        unfold fX2_latestTop_J60 at hF
        refine lv_iload_n hx hb dX2_latestTop_60 rfl (lv_at hl 1 rfl) ?_
        refine lv_istore_n (lv' := [(1, .int v3), (0, .ref (ad_y 0)), (3, .int v3), (4, .int v4)]) hx hb dX2_latestTop_61 rfl hl (by decide) rfl (fun ls hl => ?_)
        refine lv_aload_n hx hb dX2_latestTop_62 rfl (lv_at hl 1 rfl) ?_
        refine va_get (D := D) (ci := 1) (v := .ref (ad_y 1)) (C := RX2) (T := TX2) (N := 5) hx hb hts hin2 hown hK hP 0 rfl rfl 1 (by decide) (hts _ zm_342) (fun _ h9 => h9) rfl dX2_latestTop_63 ?_
        refine lv_iload hx hb dX2_latestTop_66 (lv_at hl 3 rfl) ?_
        obtain ⟨h_9, hF⟩ := zgi hF
        refine va_iald hx hb hK hP 1 0 rfl rfl h_9 dX2_latestTop_68 ?_
        refine z_let hF (fun v2_10 hF => ?_)
        refine lv_istore_n (lv' := [(2, .int v2_10), (1, .int v3), (0, .ref (ad_y 0)), (3, .int v3), (4, .int v4)]) hx hb dX2_latestTop_69 rfl hl (by decide) rfl (fun ls hl => ?_)
        exact j70 v3 v2_10 v3 hF ls (lv_sub hl [2, 1, 0, 3] rfl)
      intro v1 v2 v3 hF ls hl
      rw [fX2_latestTop_L7] at hF
      refine lv_iload_n hx hb dX2_latestTop_7 rfl (lv_at hl 3 rfl) ?_
      refine lv_aload_n hx hb dX2_latestTop_8 rfl (lv_at hl 0 rfl) ?_
      refine va_get (D := D) (ci := 1) (v := .ref (ad_b 0)) (C := RX2) (T := TX2) (N := 5) hx hb hts hin2 hown hK hP 0 rfl rfl 0 (by decide) (hts _ zm_332) (fun _ h9 => h9) rfl dX2_latestTop_9 ?_
      refine va_get (D := D) (ci := 0) (v := .int b_heaps) (C := RX0) (T := TX0) (N := 4) hx hb hts hin0 hown hK hP 3 rfl rfl 0 (by decide) (hts _ zm_335) (fun _ h9 => h9) rfl dX2_latestTop_12 ?_
      refine lv_icmp_ge (tgt := 76) hx hb dX2_latestTop_15 (by decide) (fun c_1 => ?_) (fun c_1 => ?_)
      · have hF := zt c_1 hF
        refine lv_iload_n hx hb dX2_latestTop_76 rfl (lv_at hl 1 rfl) ?_
        obtain rfl := Option.some.inj hF
        exact hret _ _ rfl dX2_latestTop_77
      · have hF := zf c_1 hF
        refine lv_aload_n hx hb dX2_latestTop_18 rfl (lv_at hl 0 rfl) ?_
        refine va_get (D := D) (ci := 1) (v := .ref (ad_b 0)) (C := RX2) (T := TX2) (N := 5) hx hb hts hin2 hown hK hP 0 rfl rfl 0 (by decide) (hts _ zm_332) (fun _ h9 => h9) rfl dX2_latestTop_19 ?_
        refine lv_iload_n hx hb dX2_latestTop_22 rfl (lv_at hl 3 rfl) ?_
        obtain ⟨o_2, hc_2, hF⟩ := zb hF
        refine zcVR (rest := []) (kX0_topOf l D ca t ad_b b_heaps b_piles b_heights b_spots v3 fuel _ hc_2) ⟨hx, hb, hml, hown, hts⟩ (zcwV hts zm_341 zm_325 zm_326 zm_314 zm_323 rfl rfl zdv_X0_topOf ⟨Nat.le_of_ble_eq_true rfl, Nat.le_of_ble_eq_true rfl⟩) hA hK hZ hP hD hS [3, 4, 5, 6, 7, 8, 9] rfl rfl 0 3 rfl rfl rfl hl.1 (Nat.le_of_ble_eq_true rfl) dX2_latestTop_23 rfl ?_
        refine lv_istore (lv' := [(4, .int o_2), (0, .ref (ad_y 0)), (1, .int v1), (2, .int v2), (3, .int v3)]) hx hb dX2_latestTop_26 hl (by decide) rfl (fun ls hl => ?_)
        refine lv_iload hx hb dX2_latestTop_28 (lv_at hl 0 rfl) ?_
        refine lv_bipush (v := (-4)) hx hb dX2_latestTop_30 (by decide) ?_
        refine lv_icmp_eq (tgt := 70) hx hb dX2_latestTop_32 (by decide) (fun c_3 => ?_) (fun c_3 => ?_)
        · have hF := zt c_3 hF
          exact j70 v1 v2 v3 hF ls (lv_sub hl [1, 2, 3, 4] rfl)
        · have hF := zf c_3 hF
          refine lv_aload_n hx hb dX2_latestTop_35 rfl (lv_at hl 1 rfl) ?_
          refine lv_iload_n hx hb dX2_latestTop_36 rfl (lv_at hl 4 rfl) ?_
          obtain ⟨o_4, hc_4, hF⟩ := zb hF
          refine zcVR (rest := []) (kX2_hasRoom l D ca t ad_y ad_b y_going y_coming y_holds y_latest b_heaps b_piles b_heights b_spots v3 fuel _ hc_4) ⟨hx, hb, hml, hown, hts⟩ (zcwV hts zm_337 zm_338 zm_339 zm_340 zm_336 rfl rfl zdv_X2_hasRoom ⟨Nat.le_of_ble_eq_true rfl, Nat.le_of_ble_eq_true rfl⟩) hA hK hZ hP hD hS [0, 1, 2, 3, 4, 5, 6, 7, 8, 9] rfl rfl 1 0 rfl rfl rfl hl.1 (Nat.le_of_ble_eq_true rfl) dX2_latestTop_37 rfl ?_
          refine lv_if_eq (tgt := 70) hx hb dX2_latestTop_40 (by decide) (fun c_5 => ?_) (fun c_5 => ?_)
          · have hF := zt c_5 hF
            exact j70 v1 v2 v3 hF ls (lv_sub hl [1, 2, 3, 4] rfl)
          · have hF := zf c_5 hF
            refine lv_iload_n hx hb dX2_latestTop_43 rfl (lv_at hl 2 rfl) ?_
            refine lv_bipush (v := (-4)) hx hb dX2_latestTop_44 (by decide) ?_
            refine lv_icmp_eq (tgt := 60) hx hb dX2_latestTop_46 (by decide) (fun c_6 => ?_) (fun c_6 => ?_)
            · have hF := zt c_6 hF
              exact j60 v3 o_2 hF ls (lv_sub hl [1, 4, 0] rfl)
            · have hF := zf c_6 hF
              refine lv_aload_n hx hb dX2_latestTop_49 rfl (lv_at hl 1 rfl) ?_
              refine va_get (D := D) (ci := 1) (v := .ref (ad_y 1)) (C := RX2) (T := TX2) (N := 5) hx hb hts hin2 hown hK hP 0 rfl rfl 1 (by decide) (hts _ zm_342) (fun _ h9 => h9) rfl dX2_latestTop_50 ?_
              refine lv_iload hx hb dX2_latestTop_53 (lv_at hl 0 rfl) ?_
              obtain ⟨h_7, hF⟩ := zgi hF
              refine va_iald hx hb hK hP 1 0 rfl rfl h_7 dX2_latestTop_55 ?_
              refine lv_iload_n hx hb dX2_latestTop_56 rfl (lv_at hl 3 rfl) ?_
              refine lv_icmp_le (tgt := 70) hx hb dX2_latestTop_57 (by decide) (fun c_8 => ?_) (fun c_8 => ?_)
              · have hF := zt c_8 hF
                exact j70 v1 v2 v3 hF ls (lv_sub hl [1, 2, 3, 4] rfl)
              · have hF := zf c_8 hF
                exact j60 v3 o_2 hF ls (lv_sub hl [1, 4, 0] rfl)
  unfold fX2_latestTop at hF
  refine lv_bipush (v := (-4)) hx hb dX2_latestTop_0 (by decide) ?_
  refine lv_istore_n (lv' := [(1, .int (-4)), (0, .ref (ad_y 0))]) hx hb dX2_latestTop_2 rfl hl (by decide) rfl (fun ls hl => ?_)
  refine lv_iconst (v := 0) hx hb dX2_latestTop_3 (by decide) ?_
  refine lv_istore_n (lv' := [(2, .int 0), (1, .int (-4)), (0, .ref (ad_y 0))]) hx hb dX2_latestTop_4 rfl hl (by decide) rfl (fun ls hl => ?_)
  refine lv_iconst (v := 0) hx hb dX2_latestTop_5 (by decide) ?_
  refine lv_istore_n (lv' := [(3, .int 0), (2, .int 0), (1, .int (-4)), (0, .ref (ad_y 0))]) hx hb dX2_latestTop_6 rfl hl (by decide) rfl (fun ls hl => ?_)
  exact l7 fuel (-4) 0 0 hF ls (lv_sub hl [3, 2, 1, 0] rfl)
abbrev roX2_soonestTopBehind : Room := { frames := 1, cells := 0, slots := 0, locals := 21 }
set_option maxHeartbeats 4000000 in
set_option maxRecDepth 100000 in
theorem kX2_soonestTopBehind (l : Launch) (D : va_G) (ca : Nat → ClassId) (t : Nat → Nat) (ad_y : Nat → Nat) (ad_b : Nat → Nat) (y_going : Nat → Int32) (y_coming : Nat → Int32) (y_holds : Int32) (y_latest : Int32) (b_heaps : Int32) (b_piles : Nat → Nat → Int32) (b_heights : Nat → Int32) (b_spots : Nat → Int32) (p1 : Int32) (fuel : Nat) (o : Int32) (hF : fX2_soonestTopBehind fuel y_going y_holds b_heaps b_piles b_heights p1 = some o) : zRi l D (zT ca) t yX2_soonestTopBehind (.code yX2_soonestTopBehind cX2_soonestTopBehind 7 (some .int) :: zW) roX2_soonestTopBehind [.ref (ad_y 0), .int p1] (wX2_yb ca ad_y ad_b y_going y_coming y_holds y_latest b_heaps b_piles b_heights b_spots) o := by
  refine zRi_of (cc := cX2_soonestTopBehind) (maxL := 7) (by decide) rfl (Nat.le_of_ble_eq_true rfl) ?_
  intro p e s m args below meth c A Q ls ⟨hx, hb, hml, hown, hts, hA, hK, hZ, hS⟩ hret hP hD hl
  have hts := fun w h => hts w (List.mem_cons_of_mem _ h)
  have hown : s.vm.findClass RX2 = some m.cls := hown
  have hl : lv_has ls 7 [(0, .ref (ad_y 0)), (1, .int p1)] := hl
  have hin0 := zin_X0
  have hin2 := zin_X2
  have l8 : ∀ (n8 : Nat) (v2 : Int32) (v3 : Int32) (v4 : Int32), fX2_soonestTopBehind_L8 fuel y_going y_holds b_heaps b_piles b_heights p1 n8 v2 v3 v4 = some o → ∀ ls : Array Slot, lv_has ls 7 [(0, .ref (ad_y 0)), (1, .int p1), (2, .int v2), (3, .int v3), (4, .int v4)] → W p l e roX2_soonestTopBehind s m args below meth c s.heap [] 0 0 Q (F0 m 8 ls []) := by
    intro n8
    induction n8 with
    | zero =>
      intro v2 v3 v4 hF
      rw [fX2_soonestTopBehind_L8] at hF
      cases hF
    | succ n8 ih8 =>
      have j98 : ∀ (v2 : Int32) (v3 : Int32) (v4 : Int32), fX2_soonestTopBehind_J98 (fX2_soonestTopBehind_L8 fuel y_going y_holds b_heaps b_piles b_heights p1 n8) v2 v3 v4 = some o → ∀ ls : Array Slot, lv_has ls 7 [(0, .ref (ad_y 0)), (1, .int p1), (2, .int v2), (3, .int v3), (4, .int v4)] → W p l e roX2_soonestTopBehind s m args below meth c s.heap [] 0 0 Q (F0 m 98 ls []) := by
        intro v2 v3 v4 hF ls hl
        unfold fX2_soonestTopBehind_J98 at hF
        refine z_iinc (kv := 1) hx hb 4 dX2_soonestTopBehind_98 hl rfl (by decide) (by decide) (fun g => [(4, .int g), (0, .ref (ad_y 0)), (1, .int p1), (2, .int v2), (3, .int v3)]) (fun _ => rfl) hF (fun v4_17 ls hF hl => ?_)
        refine lv_goto (tgt := 8) hx hb dX2_soonestTopBehind_101 (by decide) ?_
        exact ih8 v2 v3 v4_17 hF ls (lv_sub hl [1, 2, 3, 4, 0] rfl)
      have j87 : ∀ (v4 : Int32) (v5 : Int32), fX2_soonestTopBehind_J87 y_going (fX2_soonestTopBehind_L8 fuel y_going y_holds b_heaps b_piles b_heights p1 n8) v4 v5 = some o → ∀ ls : Array Slot, lv_has ls 7 [(0, .ref (ad_y 0)), (1, .int p1), (4, .int v4), (5, .int v5)] → W p l e roX2_soonestTopBehind s m args below meth c s.heap [] 0 0 Q (F0 m 87 ls []) := by
        intro v4 v5 hF ls hl
        unfold fX2_soonestTopBehind_J87 at hF
        refine lv_iload hx hb dX2_soonestTopBehind_87 (lv_at hl 2 rfl) ?_
        refine lv_istore_n (lv' := [(2, .int v4), (0, .ref (ad_y 0)), (1, .int p1), (4, .int v4), (5, .int v5)]) hx hb dX2_soonestTopBehind_89 rfl hl (by decide) rfl (fun ls hl => ?_)
        refine lv_aload_n hx hb dX2_soonestTopBehind_90 rfl (lv_at hl 1 rfl) ?_
        refine va_get (D := D) (ci := 1) (v := .ref (ad_y 1)) (C := RX2) (T := TX2) (N := 5) hx hb hts hin2 hown hK hP 0 rfl rfl 1 (by decide) (hts _ zm_342) (fun _ h9 => h9) rfl dX2_soonestTopBehind_91 ?_
        refine lv_iload hx hb dX2_soonestTopBehind_94 (lv_at hl 4 rfl) ?_
        obtain ⟨h_15, hF⟩ := zgi hF
        refine va_iald hx hb hK hP 1 0 rfl rfl h_15 dX2_soonestTopBehind_96 ?_
        refine z_let hF (fun v3_16 hF => ?_)
        refine lv_istore_n (lv' := [(3, .int v3_16), (2, .int v4), (0, .ref (ad_y 0)), (1, .int p1), (4, .int v4), (5, .int v5)]) hx hb dX2_soonestTopBehind_97 rfl hl (by decide) rfl (fun ls hl => ?_)
        exact j98 v4 v3_16 v4 hF ls (lv_sub hl [2, 3, 1, 0, 4] rfl)
      have j62 : ∀ (v2 : Int32) (v3 : Int32) (v4 : Int32) (v5 : Int32), fX2_soonestTopBehind_J62 y_going (fX2_soonestTopBehind_L8 fuel y_going y_holds b_heaps b_piles b_heights p1 n8) v2 v3 v4 v5 = some o → ∀ ls : Array Slot, lv_has ls 7 [(0, .ref (ad_y 0)), (1, .int p1), (2, .int v2), (3, .int v3), (4, .int v4), (5, .int v5)] → W p l e roX2_soonestTopBehind s m args below meth c s.heap [] 0 0 Q (F0 m 62 ls []) := by
        intro v2 v3 v4 v5 hF ls hl
        unfold fX2_soonestTopBehind_J62 at hF
        refine lv_iconst (v := 0) hx hb dX2_soonestTopBehind_62 (by decide) ?_
        refine lv_istore (lv' := [(6, .int 0), (0, .ref (ad_y 0)), (1, .int p1), (2, .int v2), (3, .int v3), (4, .int v4), (5, .int v5)]) hx hb dX2_soonestTopBehind_63 hl (by decide) rfl (fun ls hl => ?_)
        refine lv_iload hx hb dX2_soonestTopBehind_65 (lv_at hl 0 rfl) ?_
        refine lv_if_eq (tgt := 98) hx hb dX2_soonestTopBehind_67 (by decide) (fun c_11 => ?_) (fun c_11 => ?_)
        · have hF := zt c_11 hF
          exact j98 v2 v3 v4 hF ls (lv_sub hl [1, 2, 3, 4, 5] rfl)
        · have hF := zf c_11 hF
          refine lv_iload_n hx hb dX2_soonestTopBehind_70 rfl (lv_at hl 3 rfl) ?_
          refine lv_bipush (v := (-4)) hx hb dX2_soonestTopBehind_71 (by decide) ?_
          refine lv_icmp_eq (tgt := 87) hx hb dX2_soonestTopBehind_73 (by decide) (fun c_12 => ?_) (fun c_12 => ?_)
          · have hF := zt c_12 hF
            exact j87 v4 v5 hF ls (lv_sub hl [1, 2, 5, 6] rfl)
          · have hF := zf c_12 hF
            refine lv_aload_n hx hb dX2_soonestTopBehind_76 rfl (lv_at hl 1 rfl) ?_
            refine va_get (D := D) (ci := 1) (v := .ref (ad_y 1)) (C := RX2) (T := TX2) (N := 5) hx hb hts hin2 hown hK hP 0 rfl rfl 1 (by decide) (hts _ zm_342) (fun _ h9 => h9) rfl dX2_soonestTopBehind_77 ?_
            refine lv_iload hx hb dX2_soonestTopBehind_80 (lv_at hl 6 rfl) ?_
            obtain ⟨h_13, hF⟩ := zgi hF
            refine va_iald hx hb hK hP 1 0 rfl rfl h_13 dX2_soonestTopBehind_82 ?_
            refine lv_iload_n hx hb dX2_soonestTopBehind_83 rfl (lv_at hl 4 rfl) ?_
            refine lv_icmp_ge (tgt := 98) hx hb dX2_soonestTopBehind_84 (by decide) (fun c_14 => ?_) (fun c_14 => ?_)
            · have hF := zt c_14 hF
              exact j98 v2 v3 v4 hF ls (lv_sub hl [1, 2, 3, 4, 5] rfl)
            · have hF := zf c_14 hF
              exact j87 v4 v5 hF ls (lv_sub hl [1, 2, 5, 6] rfl)
      intro v2 v3 v4 hF ls hl
      rw [fX2_soonestTopBehind_L8] at hF
      refine lv_iload hx hb dX2_soonestTopBehind_8 (lv_at hl 4 rfl) ?_
      refine lv_aload_n hx hb dX2_soonestTopBehind_10 rfl (lv_at hl 0 rfl) ?_
      refine va_get (D := D) (ci := 1) (v := .ref (ad_b 0)) (C := RX2) (T := TX2) (N := 5) hx hb hts hin2 hown hK hP 0 rfl rfl 0 (by decide) (hts _ zm_332) (fun _ h9 => h9) rfl dX2_soonestTopBehind_11 ?_
      refine va_get (D := D) (ci := 0) (v := .int b_heaps) (C := RX0) (T := TX0) (N := 4) hx hb hts hin0 hown hK hP 3 rfl rfl 0 (by decide) (hts _ zm_335) (fun _ h9 => h9) rfl dX2_soonestTopBehind_14 ?_
      refine lv_icmp_ge (tgt := 104) hx hb dX2_soonestTopBehind_17 (by decide) (fun c_1 => ?_) (fun c_1 => ?_)
      · have hF := zt c_1 hF
        refine lv_iload_n hx hb dX2_soonestTopBehind_104 rfl (lv_at hl 2 rfl) ?_
        obtain rfl := Option.some.inj hF
        exact hret _ _ rfl dX2_soonestTopBehind_105
      · have hF := zf c_1 hF
        refine lv_aload_n hx hb dX2_soonestTopBehind_20 rfl (lv_at hl 0 rfl) ?_
        refine va_get (D := D) (ci := 1) (v := .ref (ad_b 0)) (C := RX2) (T := TX2) (N := 5) hx hb hts hin2 hown hK hP 0 rfl rfl 0 (by decide) (hts _ zm_332) (fun _ h9 => h9) rfl dX2_soonestTopBehind_21 ?_
        refine lv_iload hx hb dX2_soonestTopBehind_24 (lv_at hl 4 rfl) ?_
        obtain ⟨o_2, hc_2, hF⟩ := zb hF
        refine zcVR (rest := []) (kX0_topOf l D ca t ad_b b_heaps b_piles b_heights b_spots v4 fuel _ hc_2) ⟨hx, hb, hml, hown, hts⟩ (zcwV hts zm_341 zm_325 zm_326 zm_314 zm_323 rfl rfl zdv_X0_topOf ⟨Nat.le_of_ble_eq_true rfl, Nat.le_of_ble_eq_true rfl⟩) hA hK hZ hP hD hS [3, 4, 5, 6, 7, 8, 9] rfl rfl 0 3 rfl rfl rfl hl.1 (Nat.le_of_ble_eq_true rfl) dX2_soonestTopBehind_26 rfl ?_
        refine lv_istore (lv' := [(5, .int o_2), (0, .ref (ad_y 0)), (1, .int p1), (2, .int v2), (3, .int v3), (4, .int v4)]) hx hb dX2_soonestTopBehind_29 hl (by decide) rfl (fun ls hl => ?_)
        refine lv_iload hx hb dX2_soonestTopBehind_31 (lv_at hl 0 rfl) ?_
        refine lv_bipush (v := (-4)) hx hb dX2_soonestTopBehind_33 (by decide) ?_
        refine lv_icmp_eq (tgt := 62) hx hb dX2_soonestTopBehind_35 (by decide) (fun c_3 => ?_) (fun c_3 => ?_)
        · have hF := zt c_3 hF
          exact j62 v2 v3 v4 o_2 hF ls (lv_sub hl [1, 2, 3, 4, 5, 0] rfl)
        · have hF := zf c_3 hF
          refine lv_aload_n hx hb dX2_soonestTopBehind_38 rfl (lv_at hl 1 rfl) ?_
          refine lv_iload hx hb dX2_soonestTopBehind_39 (lv_at hl 5 rfl) ?_
          obtain ⟨o_4, hc_4, hF⟩ := zb hF
          refine zcVR (rest := []) (kX2_hasRoom l D ca t ad_y ad_b y_going y_coming y_holds y_latest b_heaps b_piles b_heights b_spots v4 fuel _ hc_4) ⟨hx, hb, hml, hown, hts⟩ (zcwV hts zm_337 zm_338 zm_339 zm_340 zm_336 rfl rfl zdv_X2_hasRoom ⟨Nat.le_of_ble_eq_true rfl, Nat.le_of_ble_eq_true rfl⟩) hA hK hZ hP hD hS [0, 1, 2, 3, 4, 5, 6, 7, 8, 9] rfl rfl 1 0 rfl rfl rfl hl.1 (Nat.le_of_ble_eq_true rfl) dX2_soonestTopBehind_41 rfl ?_
          refine lv_if_eq (tgt := 62) hx hb dX2_soonestTopBehind_44 (by decide) (fun c_5 => ?_) (fun c_5 => ?_)
          · have hF := zt c_5 hF
            exact j62 v2 v3 v4 o_2 hF ls (lv_sub hl [1, 2, 3, 4, 5, 0] rfl)
          · have hF := zf c_5 hF
            refine lv_aload_n hx hb dX2_soonestTopBehind_47 rfl (lv_at hl 1 rfl) ?_
            refine va_get (D := D) (ci := 1) (v := .ref (ad_y 1)) (C := RX2) (T := TX2) (N := 5) hx hb hts hin2 hown hK hP 0 rfl rfl 1 (by decide) (hts _ zm_342) (fun _ h9 => h9) rfl dX2_soonestTopBehind_48 ?_
            refine lv_iload hx hb dX2_soonestTopBehind_51 (lv_at hl 0 rfl) ?_
            obtain ⟨h_6, hF⟩ := zgi hF
            refine va_iald hx hb hK hP 1 0 rfl rfl h_6 dX2_soonestTopBehind_53 ?_
            refine lv_iload_n hx hb dX2_soonestTopBehind_54 rfl (lv_at hl 2 rfl) ?_
            refine lv_icmp_le (tgt := 62) hx hb dX2_soonestTopBehind_55 (by decide) (fun c_7 => ?_) (fun c_7 => ?_)
            · have hF := zt c_7 hF
              exact j62 v2 v3 v4 o_2 hF ls (lv_sub hl [1, 2, 3, 4, 5, 0] rfl)
            · have hF := zf c_7 hF
              refine lv_iconst (v := 1) hx hb dX2_soonestTopBehind_58 (by decide) ?_
              refine lv_goto (tgt := 63) hx hb dX2_soonestTopBehind_59 (by decide) ?_
              refine lv_istore (lv' := [(6, .int 1), (5, .int o_2), (0, .ref (ad_y 0)), (1, .int p1), (2, .int v2), (3, .int v3), (4, .int v4)]) hx hb dX2_soonestTopBehind_63 hl (by decide) rfl (fun ls hl => ?_)
              refine lv_iload hx hb dX2_soonestTopBehind_65 (lv_at hl 0 rfl) ?_
              refine lv_if_eq (tgt := 98) hx hb dX2_soonestTopBehind_67 (by decide) (fun c_8 => ?_) (fun c_8 => ?_)
              · have hF := zt c_8 hF
                exact j98 v2 v3 v4 hF ls (lv_sub hl [2, 3, 4, 5, 6] rfl)
              · have hF := zf c_8 hF
                refine lv_iload_n hx hb dX2_soonestTopBehind_70 rfl (lv_at hl 4 rfl) ?_
                refine lv_bipush (v := (-4)) hx hb dX2_soonestTopBehind_71 (by decide) ?_
                refine lv_icmp_eq (tgt := 87) hx hb dX2_soonestTopBehind_73 (by decide) (fun c_9 => ?_) (fun c_9 => ?_)
                · have hF := zt c_9 hF
                  exact j87 v4 o_2 hF ls (lv_sub hl [2, 3, 6, 1] rfl)
                · have hF := zf c_9 hF
                  refine lv_aload_n hx hb dX2_soonestTopBehind_76 rfl (lv_at hl 2 rfl) ?_
                  refine va_get (D := D) (ci := 1) (v := .ref (ad_y 1)) (C := RX2) (T := TX2) (N := 5) hx hb hts hin2 hown hK hP 0 rfl rfl 1 (by decide) (hts _ zm_342) (fun _ h9 => h9) rfl dX2_soonestTopBehind_77 ?_
                  refine lv_iload hx hb dX2_soonestTopBehind_80 (lv_at hl 1 rfl) ?_
                  refine va_iald hx hb hK hP 1 0 rfl rfl h_6 dX2_soonestTopBehind_82 ?_
                  refine lv_iload_n hx hb dX2_soonestTopBehind_83 rfl (lv_at hl 5 rfl) ?_
                  refine lv_icmp_ge (tgt := 98) hx hb dX2_soonestTopBehind_84 (by decide) (fun c_10 => ?_) (fun c_10 => ?_)
                  · have hF := zt c_10 hF
                    exact j98 v2 v3 v4 hF ls (lv_sub hl [2, 3, 4, 5, 6] rfl)
                  · have hF := zf c_10 hF
                    exact j87 v4 o_2 hF ls (lv_sub hl [2, 3, 6, 1] rfl)
  unfold fX2_soonestTopBehind at hF
  refine lv_bipush (v := (-4)) hx hb dX2_soonestTopBehind_0 (by decide) ?_
  refine lv_istore_n (lv' := [(2, .int (-4)), (0, .ref (ad_y 0)), (1, .int p1)]) hx hb dX2_soonestTopBehind_2 rfl hl (by decide) rfl (fun ls hl => ?_)
  refine lv_iconst (v := 0) hx hb dX2_soonestTopBehind_3 (by decide) ?_
  refine lv_istore_n (lv' := [(3, .int 0), (2, .int (-4)), (0, .ref (ad_y 0)), (1, .int p1)]) hx hb dX2_soonestTopBehind_4 rfl hl (by decide) rfl (fun ls hl => ?_)
  refine lv_iconst (v := 0) hx hb dX2_soonestTopBehind_5 (by decide) ?_
  refine lv_istore (lv' := [(4, .int 0), (3, .int 0), (2, .int (-4)), (0, .ref (ad_y 0)), (1, .int p1)]) hx hb dX2_soonestTopBehind_6 hl (by decide) rfl (fun ls hl => ?_)
  exact l8 fuel (-4) 0 0 hF ls (lv_sub hl [3, 4, 2, 1, 0] rfl)
theorem zdv_X2_empty : yX2_empty.cls = RX2 ∧ yX2_empty.cls ≠ "java/lang/invoke/MethodHandle" ∧ yX2_empty.cls ≠ "java/lang/invoke/VarHandle" ∧ (parseMethodDescriptor yX2_empty.desc).map (fun d => d.parameters.length) = some 0 := by decide +kernel
theorem zdv_X2_firstFrom : yX2_firstFrom.cls = RX2 ∧ yX2_firstFrom.cls ≠ "java/lang/invoke/MethodHandle" ∧ yX2_firstFrom.cls ≠ "java/lang/invoke/VarHandle" ∧ (parseMethodDescriptor yX2_firstFrom.desc).map (fun d => d.parameters.length) = some 1 := by decide +kernel
theorem zdv_X2_latestTop : yX2_latestTop.cls = RX2 ∧ yX2_latestTop.cls ≠ "java/lang/invoke/MethodHandle" ∧ yX2_latestTop.cls ≠ "java/lang/invoke/VarHandle" ∧ (parseMethodDescriptor yX2_latestTop.desc).map (fun d => d.parameters.length) = some 0 := by decide +kernel
theorem zdv_X2_lowest : yX2_lowest.cls = RX2 ∧ yX2_lowest.cls ≠ "java/lang/invoke/MethodHandle" ∧ yX2_lowest.cls ≠ "java/lang/invoke/VarHandle" ∧ (parseMethodDescriptor yX2_lowest.desc).map (fun d => d.parameters.length) = some 0 := by decide +kernel
theorem zdv_X2_soonestTopBehind : yX2_soonestTopBehind.cls = RX2 ∧ yX2_soonestTopBehind.cls ≠ "java/lang/invoke/MethodHandle" ∧ yX2_soonestTopBehind.cls ≠ "java/lang/invoke/VarHandle" ∧ (parseMethodDescriptor yX2_soonestTopBehind.desc).map (fun d => d.parameters.length) = some 1 := by decide +kernel
abbrev roX2_heapByLetter : Room := { frames := 2, cells := 0, slots := 0, locals := 47 }
set_option maxHeartbeats 4000000 in
set_option maxRecDepth 100000 in
theorem kX2_heapByLetter (l : Launch) (D : va_G) (ca : Nat → ClassId) (t : Nat → Nat) (ad_y : Nat → Nat) (ad_b : Nat → Nat) (y_going : Nat → Int32) (y_coming : Nat → Int32) (y_holds : Int32) (y_latest : Int32) (b_heaps : Int32) (b_piles : Nat → Nat → Int32) (b_heights : Nat → Int32) (b_spots : Nat → Int32) (p1 : Int32) (p2 : Int32) (fuel : Nat) (o : Int32) (hF : fX2_heapByLetter fuel y_going y_holds y_latest b_heaps b_piles b_heights p1 p2 = some o) : zRi l D (zT ca) t yX2_heapByLetter (.code yX2_heapByLetter cX2_heapByLetter 3 (some .int) :: zW) roX2_heapByLetter [.ref (ad_y 0), .int p1, .int p2] (wX2_yb ca ad_y ad_b y_going y_coming y_holds y_latest b_heaps b_piles b_heights b_spots) o := by
  refine zRi_of (cc := cX2_heapByLetter) (maxL := 3) (by decide) rfl (Nat.le_of_ble_eq_true rfl) ?_
  intro p e s m args below meth c A Q ls ⟨hx, hb, hml, hown, hts, hA, hK, hZ, hS⟩ hret hP hD hl
  have hts := fun w h => hts w (List.mem_cons_of_mem _ h)
  have hown : s.vm.findClass RX2 = some m.cls := hown
  have hl : lv_has ls 3 [(0, .ref (ad_y 0)), (1, .int p1), (2, .int p2)] := hl
  have hin2 := zin_X2
  have j126 : fX2_heapByLetter_J126 fuel y_holds b_heaps b_heights = some o → ∀ ls : Array Slot, lv_has ls 3 [(0, .ref (ad_y 0))] → W p l e roX2_heapByLetter s m args below meth c s.heap [] 0 0 Q (F0 m 126 ls []) := by
    intro hF ls hl
    unfold fX2_heapByLetter_J126 at hF
    refine lv_aload_n hx hb dX2_heapByLetter_126 rfl (lv_at hl 0 rfl) ?_
    refine lv_iconst (v := 0) hx hb dX2_heapByLetter_127 (by decide) ?_
    obtain ⟨o_24, hc_24, hF⟩ := zb hF
    refine zcVR (rest := []) (kX2_firstFrom l D ca t ad_y ad_b y_going y_coming y_holds y_latest b_heaps b_piles b_heights b_spots 0 fuel _ hc_24) ⟨hx, hb, hml, hown, hts⟩ (zcwV hts zm_547 zm_548 zm_549 zm_340 zm_546 rfl rfl zdv_X2_firstFrom ⟨Nat.le_of_ble_eq_true rfl, Nat.le_of_ble_eq_true rfl⟩) hA hK hZ hP hD hS [0, 1, 2, 3, 4, 5, 6, 7, 8, 9] rfl rfl 1 0 rfl rfl rfl hl.1 (Nat.le_of_ble_eq_true rfl) dX2_heapByLetter_128 rfl ?_
    obtain rfl := Option.some.inj hF
    exact hret _ _ rfl dX2_heapByLetter_131
  unfold fX2_heapByLetter at hF
  refine lv_iload_n hx hb dX2_heapByLetter_0 rfl (lv_at hl 1 rfl) ?_
  by_cases c_1 : p1 = 101
  · have hF := zt c_1 hF
    refine lv_tableIn (tgt := 81) (off := 80) hx hb dX2_heapByLetter_1 (by rw [c_1]; decide) (by rw [c_1]; decide) (by rw [c_1]; rfl) (by decide) ?_
    refine lv_aload_n hx hb dX2_heapByLetter_81 rfl (lv_at hl 0 rfl) ?_
    obtain ⟨o_2, hc_2, hF⟩ := zb hF
    refine zcVR (rest := []) (kX2_empty l D ca t ad_y ad_b y_going y_coming y_holds y_latest b_heaps b_piles b_heights b_spots fuel _ hc_2) ⟨hx, hb, hml, hown, hts⟩ (zcwV hts zm_534 zm_535 zm_536 zm_340 zm_533 rfl rfl zdv_X2_empty ⟨Nat.le_of_ble_eq_true rfl, Nat.le_of_ble_eq_true rfl⟩) hA hK hZ hP hD hS [0, 1, 2, 3, 4, 5, 6, 7, 8, 9] rfl rfl 1 0 rfl rfl rfl hl.1 (Nat.le_of_ble_eq_true rfl) dX2_heapByLetter_82 rfl ?_
    obtain rfl := Option.some.inj hF
    exact hret _ _ rfl dX2_heapByLetter_85
  · have hF := zf c_1 hF
    by_cases c_3 : p1 = 102
    · have hF := zt c_3 hF
      refine lv_tableIn (tgt := 126) (off := 125) hx hb dX2_heapByLetter_1 (by rw [c_3]; decide) (by rw [c_3]; decide) (by rw [c_3]; rfl) (by decide) ?_
      exact j126 hF ls (lv_sub hl [0] rfl)
    · have hF := zf c_3 hF
      by_cases c_4 : p1 = 103
      · have hF := zt c_4 hF
        refine lv_tableIn (tgt := 126) (off := 125) hx hb dX2_heapByLetter_1 (by rw [c_4]; decide) (by rw [c_4]; decide) (by rw [c_4]; rfl) (by decide) ?_
        exact j126 hF ls (lv_sub hl [0] rfl)
      · have hF := zf c_4 hF
        by_cases c_5 : p1 = 104
        · have hF := zt c_5 hF
          refine lv_tableIn (tgt := 126) (off := 125) hx hb dX2_heapByLetter_1 (by rw [c_5]; decide) (by rw [c_5]; decide) (by rw [c_5]; rfl) (by decide) ?_
          exact j126 hF ls (lv_sub hl [0] rfl)
        · have hF := zf c_5 hF
          by_cases c_6 : p1 = 105
          · have hF := zt c_6 hF
            refine lv_tableIn (tgt := 126) (off := 125) hx hb dX2_heapByLetter_1 (by rw [c_6]; decide) (by rw [c_6]; decide) (by rw [c_6]; rfl) (by decide) ?_
            exact j126 hF ls (lv_sub hl [0] rfl)
          · have hF := zf c_6 hF
            by_cases c_7 : p1 = 106
            · have hF := zt c_7 hF
              refine lv_tableIn (tgt := 126) (off := 125) hx hb dX2_heapByLetter_1 (by rw [c_7]; decide) (by rw [c_7]; decide) (by rw [c_7]; rfl) (by decide) ?_
              exact j126 hF ls (lv_sub hl [0] rfl)
            · have hF := zf c_7 hF
              by_cases c_8 : p1 = 107
              · have hF := zt c_8 hF
                refine lv_tableIn (tgt := 126) (off := 125) hx hb dX2_heapByLetter_1 (by rw [c_8]; decide) (by rw [c_8]; decide) (by rw [c_8]; rfl) (by decide) ?_
                exact j126 hF ls (lv_sub hl [0] rfl)
              · have hF := zf c_8 hF
                by_cases c_9 : p1 = 108
                · have hF := zt c_9 hF
                  refine lv_tableIn (tgt := 86) (off := 85) hx hb dX2_heapByLetter_1 (by rw [c_9]; decide) (by rw [c_9]; decide) (by rw [c_9]; rfl) (by decide) ?_
                  refine lv_aload_n hx hb dX2_heapByLetter_86 rfl (lv_at hl 0 rfl) ?_
                  obtain ⟨o_10, hc_10, hF⟩ := zb hF
                  refine zcVR (rest := []) (kX2_latestTop l D ca t ad_y ad_b y_going y_coming y_holds y_latest b_heaps b_piles b_heights b_spots fuel _ hc_10) ⟨hx, hb, hml, hown, hts⟩ (zcwV hts zm_538 zm_539 zm_540 zm_340 zm_537 rfl rfl zdv_X2_latestTop ⟨Nat.le_of_ble_eq_true rfl, Nat.le_of_ble_eq_true rfl⟩) hA hK hZ hP hD hS [0, 1, 2, 3, 4, 5, 6, 7, 8, 9] rfl rfl 1 0 rfl rfl rfl hl.1 (Nat.le_of_ble_eq_true rfl) dX2_heapByLetter_87 rfl ?_
                  obtain rfl := Option.some.inj hF
                  exact hret _ _ rfl dX2_heapByLetter_90
                · have hF := zf c_9 hF
                  by_cases c_11 : p1 = 109
                  · have hF := zt c_11 hF
                    refine lv_tableIn (tgt := 126) (off := 125) hx hb dX2_heapByLetter_1 (by rw [c_11]; decide) (by rw [c_11]; decide) (by rw [c_11]; rfl) (by decide) ?_
                    exact j126 hF ls (lv_sub hl [0] rfl)
                  · have hF := zf c_11 hF
                    by_cases c_12 : p1 = 110
                    · have hF := zt c_12 hF
                      refine lv_tableIn (tgt := 126) (off := 125) hx hb dX2_heapByLetter_1 (by rw [c_12]; decide) (by rw [c_12]; decide) (by rw [c_12]; rfl) (by decide) ?_
                      exact j126 hF ls (lv_sub hl [0] rfl)
                    · have hF := zf c_12 hF
                      by_cases c_13 : p1 = 111
                      · have hF := zt c_13 hF
                        refine lv_tableIn (tgt := 91) (off := 90) hx hb dX2_heapByLetter_1 (by rw [c_13]; decide) (by rw [c_13]; decide) (by rw [c_13]; rfl) (by decide) ?_
                        refine lv_aload_n hx hb dX2_heapByLetter_91 rfl (lv_at hl 0 rfl) ?_
                        refine lv_aload_n hx hb dX2_heapByLetter_92 rfl (lv_at hl 0 rfl) ?_
                        refine va_get (D := D) (ci := 1) (v := .ref (ad_y 1)) (C := RX2) (T := TX2) (N := 5) hx hb hts hin2 hown hK hP 0 rfl rfl 1 (by decide) (hts _ zm_342) (fun _ h9 => h9) rfl dX2_heapByLetter_93 ?_
                        refine lv_iload_n hx hb dX2_heapByLetter_96 rfl (lv_at hl 2 rfl) ?_
                        obtain ⟨h_14, hF⟩ := zgi hF
                        refine va_iald hx hb hK hP 1 0 rfl rfl h_14 dX2_heapByLetter_97 ?_
                        obtain ⟨o_15, hc_15, hF⟩ := zb hF
                        refine zcVR (rest := []) (kX2_soonestTopBehind l D ca t ad_y ad_b y_going y_coming y_holds y_latest b_heaps b_piles b_heights b_spots (y_going p2.toNatClampNeg) fuel _ hc_15) ⟨hx, hb, hml, hown, hts⟩ (zcwV hts zm_542 zm_543 zm_544 zm_340 zm_541 rfl rfl zdv_X2_soonestTopBehind ⟨Nat.le_of_ble_eq_true rfl, Nat.le_of_ble_eq_true rfl⟩) hA hK hZ hP hD hS [0, 1, 2, 3, 4, 5, 6, 7, 8, 9] rfl rfl 1 0 rfl rfl rfl hl.1 (Nat.le_of_ble_eq_true rfl) dX2_heapByLetter_98 rfl ?_
                        obtain rfl := Option.some.inj hF
                        exact hret _ _ rfl dX2_heapByLetter_101
                      · have hF := zf c_13 hF
                        by_cases c_16 : p1 = 112
                        · have hF := zt c_16 hF
                          refine lv_tableIn (tgt := 126) (off := 125) hx hb dX2_heapByLetter_1 (by rw [c_16]; decide) (by rw [c_16]; decide) (by rw [c_16]; rfl) (by decide) ?_
                          exact j126 hF ls (lv_sub hl [0] rfl)
                        · have hF := zf c_16 hF
                          by_cases c_17 : p1 = 113
                          · have hF := zt c_17 hF
                            refine lv_tableIn (tgt := 126) (off := 125) hx hb dX2_heapByLetter_1 (by rw [c_17]; decide) (by rw [c_17]; decide) (by rw [c_17]; rfl) (by decide) ?_
                            exact j126 hF ls (lv_sub hl [0] rfl)
                          · have hF := zf c_17 hF
                            by_cases c_18 : p1 = 114
                            · have hF := zt c_18 hF
                              refine lv_tableIn (tgt := 102) (off := 101) hx hb dX2_heapByLetter_1 (by rw [c_18]; decide) (by rw [c_18]; decide) (by rw [c_18]; rfl) (by decide) ?_
                              refine lv_aload_n hx hb dX2_heapByLetter_102 rfl (lv_at hl 0 rfl) ?_
                              refine lv_aload_n hx hb dX2_heapByLetter_103 rfl (lv_at hl 0 rfl) ?_
                              refine va_get (D := D) (ci := 1) (v := .int y_latest) (C := RX2) (T := TX2) (N := 5) hx hb hts hin2 hown hK hP 0 rfl rfl 4 (by decide) (hts _ zm_545) (fun _ h9 => h9) rfl dX2_heapByLetter_104 ?_
                              refine lv_bipush (v := (-4)) hx hb dX2_heapByLetter_107 (by decide) ?_
                              refine lv_icmp_ne (tgt := 116) hx hb dX2_heapByLetter_109 (by decide) (fun c_19 => ?_) (fun c_19 => ?_)
                              · have hF := zf c_19 hF
                                refine lv_aload_n hx hb dX2_heapByLetter_116 rfl (lv_at hl 0 rfl) ?_
                                refine va_get (D := D) (ci := 1) (v := .int y_latest) (C := RX2) (T := TX2) (N := 5) hx hb hts hin2 hown hK hP 0 rfl rfl 4 (by decide) (hts _ zm_545) (fun _ h9 => h9) rfl dX2_heapByLetter_117 ?_
                                refine lv_iconst (v := 1) hx hb dX2_heapByLetter_120 (by decide) ?_
                                refine lv_iadd hx hb dX2_heapByLetter_121 ?_
                                obtain ⟨o_20, hc_20, hF⟩ := zb hF
                                refine zcVR (rest := []) (kX2_firstFrom l D ca t ad_y ad_b y_going y_coming y_holds y_latest b_heaps b_piles b_heights b_spots (y_latest + 1) fuel _ hc_20) ⟨hx, hb, hml, hown, hts⟩ (zcwV hts zm_547 zm_548 zm_549 zm_340 zm_546 rfl rfl zdv_X2_firstFrom ⟨Nat.le_of_ble_eq_true rfl, Nat.le_of_ble_eq_true rfl⟩) hA hK hZ hP hD hS [0, 1, 2, 3, 4, 5, 6, 7, 8, 9] rfl rfl 1 0 rfl rfl rfl hl.1 (Nat.le_of_ble_eq_true rfl) dX2_heapByLetter_122 rfl ?_
                                obtain rfl := Option.some.inj hF
                                exact hret _ _ rfl dX2_heapByLetter_125
                              · have hF := zt c_19 hF
                                refine lv_iconst (v := 0) hx hb dX2_heapByLetter_112 (by decide) ?_
                                refine lv_goto (tgt := 122) hx hb dX2_heapByLetter_113 (by decide) ?_
                                obtain ⟨o_21, hc_21, hF⟩ := zb hF
                                refine zcVR (rest := []) (kX2_firstFrom l D ca t ad_y ad_b y_going y_coming y_holds y_latest b_heaps b_piles b_heights b_spots 0 fuel _ hc_21) ⟨hx, hb, hml, hown, hts⟩ (zcwV hts zm_547 zm_548 zm_549 zm_340 zm_546 rfl rfl zdv_X2_firstFrom ⟨Nat.le_of_ble_eq_true rfl, Nat.le_of_ble_eq_true rfl⟩) hA hK hZ hP hD hS [0, 1, 2, 3, 4, 5, 6, 7, 8, 9] rfl rfl 1 0 rfl rfl rfl hl.1 (Nat.le_of_ble_eq_true rfl) dX2_heapByLetter_122 rfl ?_
                                obtain rfl := Option.some.inj hF
                                exact hret _ _ rfl dX2_heapByLetter_125
                            · have hF := zf c_18 hF
                              by_cases c_22 : p1 = 115
                              · have hF := zt c_22 hF
                                refine lv_tableIn (tgt := 76) (off := 75) hx hb dX2_heapByLetter_1 (by rw [c_22]; decide) (by rw [c_22]; decide) (by rw [c_22]; rfl) (by decide) ?_
                                refine lv_aload_n hx hb dX2_heapByLetter_76 rfl (lv_at hl 0 rfl) ?_
                                obtain ⟨o_23, hc_23, hF⟩ := zb hF
                                refine zcVR (rest := []) (kX2_lowest l D ca t ad_y ad_b y_going y_coming y_holds y_latest b_heaps b_piles b_heights b_spots fuel _ hc_23) ⟨hx, hb, hml, hown, hts⟩ (zcwV hts zm_551 zm_552 zm_553 zm_340 zm_550 rfl rfl zdv_X2_lowest ⟨Nat.le_of_ble_eq_true rfl, Nat.le_of_ble_eq_true rfl⟩) hA hK hZ hP hD hS [0, 1, 2, 3, 4, 5, 6, 7, 8, 9] rfl rfl 1 0 rfl rfl rfl hl.1 (Nat.le_of_ble_eq_true rfl) dX2_heapByLetter_77 rfl ?_
                                obtain rfl := Option.some.inj hF
                                exact hret _ _ rfl dX2_heapByLetter_80
                              · have hF := zf c_22 hF
                                refine lv_tableOut (tgt := 126) hx hb dX2_heapByLetter_1 (ztab (lo := 101) (hi := 115) (fun k h1 h2 => by rcases (show k = 101 ∨ k = 102 ∨ k = 103 ∨ k = 104 ∨ k = 105 ∨ k = 106 ∨ k = 107 ∨ k = 108 ∨ k = 109 ∨ k = 110 ∨ k = 111 ∨ k = 112 ∨ k = 113 ∨ k = 114 ∨ k = 115 by omega) with rfl | rfl | rfl | rfl | rfl | rfl | rfl | rfl | rfl | rfl | rfl | rfl | rfl | rfl | rfl <;> first | exact c_1 | exact c_3 | exact c_4 | exact c_5 | exact c_6 | exact c_7 | exact c_8 | exact c_9 | exact c_11 | exact c_12 | exact c_13 | exact c_16 | exact c_17 | exact c_18 | exact c_22)) (by decide) ?_
                                exact j126 hF ls (lv_sub hl [0] rfl)
theorem zdv_X2_heapByLetter : yX2_heapByLetter.cls = RX2 ∧ yX2_heapByLetter.cls ≠ "java/lang/invoke/MethodHandle" ∧ yX2_heapByLetter.cls ≠ "java/lang/invoke/VarHandle" ∧ (parseMethodDescriptor yX2_heapByLetter.desc).map (fun d => d.parameters.length) = some 2 := by decide +kernel
abbrev roX2_heapFor : Room := { frames := 3, cells := 0, slots := 0, locals := 69 }
set_option maxHeartbeats 4000000 in
set_option maxRecDepth 100000 in
theorem kX2_heapFor (l : Launch) (D : va_G) (ca : Nat → ClassId) (t : Nat → Nat) (ad_y : Nat → Nat) (ad_b : Nat → Nat) (ad_r : Nat → Nat) (y_going : Nat → Int32) (y_coming : Nat → Int32) (y_holds : Int32) (y_latest : Int32) (b_heaps : Int32) (b_piles : Nat → Nat → Int32) (b_heights : Nat → Int32) (b_spots : Nat → Int32) (r_guests : Int32) (r_kinds : Nat → Int32) (r_figures : Nat → Int32) (r_minutes : Nat → Int32) (r_settings : Nat → Int32) (r_hooks : Int32) (r_letters : Nat → Int32) (r_letterCount : Int32) (p2 : Int32) (fuel : Nat) (o : Int32) (hF : fX2_heapFor fuel y_going y_holds y_latest b_heaps b_piles b_heights r_letters r_letterCount p2 = some o) : zRi l D (zT ca) t yX2_heapFor (.code yX2_heapFor cX2_heapFor 5 (some .int) :: zW) roX2_heapFor [.ref (ad_y 0), .ref (ad_r 0), .int p2] (wX2_ybr ca ad_y ad_b ad_r y_going y_coming y_holds y_latest b_heaps b_piles b_heights b_spots r_guests r_kinds r_figures r_minutes r_settings r_hooks r_letters r_letterCount) o := by
  refine zRi_of (cc := cX2_heapFor) (maxL := 5) (by decide) rfl (Nat.le_of_ble_eq_true rfl) ?_
  intro p e s m args below meth c A Q ls ⟨hx, hb, hml, hown, hts, hA, hK, hZ, hS⟩ hret hP hD hl
  have hts := fun w h => hts w (List.mem_cons_of_mem _ h)
  have hown : s.vm.findClass RX2 = some m.cls := hown
  have hl : lv_has ls 5 [(0, .ref (ad_y 0)), (1, .ref (ad_r 0)), (2, .int p2)] := hl
  have hin5 := zin_X5
  have j39 : fX2_heapFor_J39 fuel y_holds b_heaps b_heights = some o → ∀ ls : Array Slot, lv_has ls 5 [(0, .ref (ad_y 0))] → W p l e roX2_heapFor s m args below meth c s.heap [] 0 0 Q (F0 m 39 ls []) := by
    intro hF ls hl
    unfold fX2_heapFor_J39 at hF
    refine lv_aload_n hx hb dX2_heapFor_39 rfl (lv_at hl 0 rfl) ?_
    refine lv_iconst (v := 0) hx hb dX2_heapFor_40 (by decide) ?_
    obtain ⟨o_6, hc_6, hF⟩ := zb hF
    refine zcVR (rest := []) (kX2_firstFrom l D ca t ad_y ad_b y_going y_coming y_holds y_latest b_heaps b_piles b_heights b_spots 0 fuel _ hc_6) ⟨hx, hb, hml, hown, hts⟩ (zcwV hts zm_547 zm_548 zm_549 zm_340 zm_546 rfl rfl zdv_X2_firstFrom ⟨Nat.le_of_ble_eq_true rfl, Nat.le_of_ble_eq_true rfl⟩) hA hK hZ hP hD hS [0, 1, 2, 3, 4, 5, 6, 7, 8, 9] rfl rfl 1 0 rfl rfl rfl hl.1 (Nat.le_of_ble_eq_true rfl) dX2_heapFor_41 rfl ?_
    obtain rfl := Option.some.inj hF
    exact hret _ _ rfl dX2_heapFor_44
  have l2 : ∀ (n2 : Nat) (v3 : Int32), fX2_heapFor_L2 fuel y_going y_holds y_latest b_heaps b_piles b_heights r_letters r_letterCount p2 n2 v3 = some o → ∀ ls : Array Slot, lv_has ls 5 [(0, .ref (ad_y 0)), (1, .ref (ad_r 0)), (2, .int p2), (3, .int v3)] → W p l e roX2_heapFor s m args below meth c s.heap [] 0 0 Q (F0 m 2 ls []) := by
    intro n2
    induction n2 with
    | zero =>
      intro v3 hF
      rw [fX2_heapFor_L2] at hF
      cases hF
    | succ n2 ih2 =>
      intro v3 hF ls hl
      rw [fX2_heapFor_L2] at hF
      refine lv_iload_n hx hb dX2_heapFor_2 rfl (lv_at hl 3 rfl) ?_
      refine lv_aload_n hx hb dX2_heapFor_3 rfl (lv_at hl 1 rfl) ?_
      refine va_get (D := D) (ci := 3) (v := .int r_letterCount) (C := RX5) (T := TX5) (N := 8) hx hb hts hin5 hown hK hP 10 rfl rfl 7 (by decide) (hts _ zm_621) (fun _ h9 => h9) rfl dX2_heapFor_4 ?_
      refine lv_icmp_ge (tgt := 39) hx hb dX2_heapFor_7 (by decide) (fun c_1 => ?_) (fun c_1 => ?_)
      · have hF := zt c_1 hF
        exact j39 hF ls (lv_sub hl [0] rfl)
      · have hF := zf c_1 hF
        refine lv_aload_n hx hb dX2_heapFor_10 rfl (lv_at hl 0 rfl) ?_
        refine lv_aload_n hx hb dX2_heapFor_11 rfl (lv_at hl 1 rfl) ?_
        refine va_get (D := D) (ci := 3) (v := .ref (ad_r 5)) (C := RX5) (T := TX5) (N := 8) hx hb hts hin5 hown hK hP 10 rfl rfl 6 (by decide) (hts _ zm_622) (fun _ h9 => h9) rfl dX2_heapFor_12 ?_
        refine lv_iload_n hx hb dX2_heapFor_15 rfl (lv_at hl 3 rfl) ?_
        obtain ⟨h_2, hF⟩ := zgi hF
        refine va_iald hx hb hK hP 15 0 rfl rfl h_2 dX2_heapFor_16 ?_
        refine lv_iload_n hx hb dX2_heapFor_17 rfl (lv_at hl 2 rfl) ?_
        obtain ⟨o_3, hc_3, hF⟩ := zb hF
        refine zcVR (rest := []) (kX2_heapByLetter l D ca t ad_y ad_b y_going y_coming y_holds y_latest b_heaps b_piles b_heights b_spots (r_letters v3.toNatClampNeg) p2 fuel _ hc_3) ⟨hx, hb, hml, hown, hts⟩ (zcwV hts zm_624 zm_625 zm_626 zm_340 zm_623 rfl rfl zdv_X2_heapByLetter ⟨Nat.le_of_ble_eq_true rfl, Nat.le_of_ble_eq_true rfl⟩) hA hK hZ hP hD hS [0, 1, 2, 3, 4, 5, 6, 7, 8, 9] rfl rfl 1 0 rfl rfl rfl hl.1 (Nat.le_of_ble_eq_true rfl) dX2_heapFor_18 rfl ?_
        refine lv_istore (lv' := [(4, .int o_3), (0, .ref (ad_y 0)), (1, .ref (ad_r 0)), (2, .int p2), (3, .int v3)]) hx hb dX2_heapFor_21 hl (by decide) rfl (fun ls hl => ?_)
        refine lv_iload hx hb dX2_heapFor_23 (lv_at hl 0 rfl) ?_
        refine lv_bipush (v := (-4)) hx hb dX2_heapFor_25 (by decide) ?_
        refine lv_icmp_eq (tgt := 33) hx hb dX2_heapFor_27 (by decide) (fun c_4 => ?_) (fun c_4 => ?_)
        · have hF := zt c_4 hF
          refine z_iinc (kv := 1) hx hb 4 dX2_heapFor_33 hl rfl (by decide) (by decide) (fun g => [(3, .int g), (4, .int o_3), (0, .ref (ad_y 0)), (1, .ref (ad_r 0)), (2, .int p2)]) (fun _ => rfl) hF (fun v3_5 ls hF hl => ?_)
          refine lv_goto (tgt := 2) hx hb dX2_heapFor_36 (by decide) ?_
          exact ih2 v3_5 hF ls (lv_sub hl [2, 3, 4, 0] rfl)
        · have hF := zf c_4 hF
          refine lv_iload hx hb dX2_heapFor_30 (lv_at hl 0 rfl) ?_
          obtain rfl := Option.some.inj hF
          exact hret _ _ rfl dX2_heapFor_32
  unfold fX2_heapFor at hF
  refine lv_iconst (v := 0) hx hb dX2_heapFor_0 (by decide) ?_
  refine lv_istore_n (lv' := [(3, .int 0), (0, .ref (ad_y 0)), (1, .ref (ad_r 0)), (2, .int p2)]) hx hb dX2_heapFor_1 rfl hl (by decide) rfl (fun ls hl => ?_)
  exact l2 fuel 0 hF ls (lv_sub hl [1, 2, 3, 0] rfl)
theorem zdv_X0_clear : yX0_clear.cls = RX0 ∧ yX0_clear.cls ≠ "java/lang/invoke/MethodHandle" ∧ yX0_clear.cls ≠ "java/lang/invoke/VarHandle" ∧ (parseMethodDescriptor yX0_clear.desc).map (fun d => d.parameters.length) = some 1 := by decide +kernel
theorem zdv_X2_heapFor : yX2_heapFor.cls = RX2 ∧ yX2_heapFor.cls ≠ "java/lang/invoke/MethodHandle" ∧ yX2_heapFor.cls ≠ "java/lang/invoke/VarHandle" ∧ (parseMethodDescriptor yX2_heapFor.desc).map (fun d => d.parameters.length) = some 2 := by decide +kernel
abbrev roX2_layAll : Room := { frames := 4, cells := 0, slots := 0, locals := 93 }
set_option maxHeartbeats 4000000 in
set_option maxRecDepth 100000 in
theorem kX2_layAll (l : Launch) (D : va_G) (ca : Nat → ClassId) (t : Nat → Nat) (ad_y : Nat → Nat) (ad_b : Nat → Nat) (ad_r : Nat → Nat) (y_going : Nat → Int32) (y_coming : Nat → Int32) (y_holds : Int32) (y_latest : Int32) (b_heaps : Int32) (b_piles : Nat → Nat → Int32) (b_heights : Nat → Int32) (b_spots : Nat → Int32) (r_guests : Int32) (r_kinds : Nat → Int32) (r_figures : Nat → Int32) (r_minutes : Nat → Int32) (r_settings : Nat → Int32) (r_hooks : Int32) (r_letters : Nat → Int32) (r_letterCount : Int32) (fuel : Nat) (o : Int32 × Int32 × Int32 × (Nat → Nat → Int32) × (Nat → Int32) × (Nat → Int32)) (hF : fX2_layAll fuel y_going y_coming y_holds y_latest b_heaps b_piles b_heights b_spots r_guests r_settings r_hooks r_letters r_letterCount = some o) : zMv l D (zT ca) t yX2_layAll (.code yX2_layAll cX2_layAll 5 none :: zW) roX2_layAll [.ref (ad_y 0), .ref (ad_r 0)] (wX2_ybr ca ad_y ad_b ad_r y_going y_coming y_holds y_latest b_heaps b_piles b_heights b_spots r_guests r_kinds r_figures r_minutes r_settings r_hooks r_letters r_letterCount) (wX2_ybr ca ad_y ad_b ad_r y_going y_coming o.1 o.2.1 o.2.2.1 o.2.2.2.1 o.2.2.2.2.1 o.2.2.2.2.2 r_guests r_kinds r_figures r_minutes r_settings r_hooks r_letters r_letterCount) := by
  refine zMv_of (cc := cX2_layAll) (maxL := 5) (by decide) rfl (Nat.le_of_ble_eq_true rfl) ?_
  intro p e s m args below meth c A Q ls ⟨hx, hb, hml, hown, hts, hA, hK, hZ, hS⟩ hret hP hD hl
  have hts := fun w h => hts w (List.mem_cons_of_mem _ h)
  have hown : s.vm.findClass RX2 = some m.cls := hown
  have hl : lv_has ls 5 [(0, .ref (ad_y 0)), (1, .ref (ad_r 0))] := hl
  have hin0 := zin_X0
  have hin2 := zin_X2
  have hin5 := zin_X5
  have l31 : ∀ (n31 : Nat) (v2 : Int32) (y_holds : Int32) (y_latest : Int32) (b_heaps : Int32) (b_piles : Nat → Nat → Int32) (b_heights : Nat → Int32) (b_spots : Nat → Int32) (H : Heap) (locs : List Loc), fX2_layAll_L31 fuel y_going y_coming r_guests r_hooks r_letters r_letterCount n31 v2 y_holds y_latest b_heaps b_piles b_heights b_spots = some o → va_P D vwCl (wX2_ybr ca ad_y ad_b ad_r y_going y_coming y_holds y_latest b_heaps b_piles b_heights b_spots r_guests r_kinds r_figures r_minutes r_settings r_hooks r_letters r_letterCount) H → va_D A (wX2_ybr ca ad_y ad_b ad_r y_going y_coming y_holds y_latest b_heaps b_piles b_heights b_spots r_guests r_kinds r_figures r_minutes r_settings r_hooks r_letters r_letterCount) → va_S A s.heap H locs → ∀ ls : Array Slot, lv_has ls 5 [(0, .ref (ad_y 0)), (1, .ref (ad_r 0)), (2, .int v2)] → W p l e roX2_layAll s m args below meth c H locs 0 0 Q (F0 m 31 ls []) := by
    intro n31
    induction n31 with
    | zero =>
      intro v2 y_holds y_latest b_heaps b_piles b_heights b_spots H locs hF
      rw [fX2_layAll_L31] at hF
      cases hF
    | succ n31 ih31 =>
      have j117 : ∀ (v2 : Int32) (y_holds : Int32) (y_latest : Int32) (b_heaps : Int32) (b_piles : Nat → Nat → Int32) (b_heights : Nat → Int32) (b_spots : Nat → Int32) (H : Heap) (locs : List Loc), fX2_layAll_J117 (fX2_layAll_L31 fuel y_going y_coming r_guests r_hooks r_letters r_letterCount n31) v2 y_holds y_latest b_heaps b_piles b_heights b_spots = some o → va_P D vwCl (wX2_ybr ca ad_y ad_b ad_r y_going y_coming y_holds y_latest b_heaps b_piles b_heights b_spots r_guests r_kinds r_figures r_minutes r_settings r_hooks r_letters r_letterCount) H → va_D A (wX2_ybr ca ad_y ad_b ad_r y_going y_coming y_holds y_latest b_heaps b_piles b_heights b_spots r_guests r_kinds r_figures r_minutes r_settings r_hooks r_letters r_letterCount) → va_S A s.heap H locs → ∀ ls : Array Slot, lv_has ls 5 [(0, .ref (ad_y 0)), (1, .ref (ad_r 0)), (2, .int v2)] → W p l e roX2_layAll s m args below meth c H locs 0 0 Q (F0 m 117 ls []) := by
        intro v2 y_holds y_latest b_heaps b_piles b_heights b_spots H locs hF hP hD hS ls hl
        unfold fX2_layAll_J117 at hF
        refine z_iinc (kv := 1) hx hb 2 dX2_layAll_117 hl rfl (by decide) (by decide) (fun g => [(2, .int g), (0, .ref (ad_y 0)), (1, .ref (ad_r 0))]) (fun _ => rfl) hF (fun v2_25 ls hF hl => ?_)
        refine lv_goto (tgt := 31) hx hb dX2_layAll_120 (by decide) ?_
        exact ih31 v2_25 y_holds y_latest b_heaps b_piles b_heights b_spots _ _ hF hP hD hS ls (lv_sub hl [1, 2, 0] rfl)
      intro v2 y_holds y_latest b_heaps b_piles b_heights b_spots H locs hF hP hD hS ls hl
      rw [fX2_layAll_L31] at hF
      refine lv_iload_n hx hb dX2_layAll_31 rfl (lv_at hl 2 rfl) ?_
      refine lv_aload_n hx hb dX2_layAll_32 rfl (lv_at hl 1 rfl) ?_
      refine va_get (D := D) (ci := 3) (v := .int r_guests) (C := RX5) (T := TX5) (N := 8) hx hb hts hin5 hown hK hP 10 rfl rfl 0 (by decide) (hts _ zm_671) (fun _ h9 => h9) rfl dX2_layAll_33 ?_
      refine lv_icmp_ge (tgt := 123) hx hb dX2_layAll_36 (by decide) (fun c_3 => ?_) (fun c_3 => ?_)
      · have hF := zt c_3 hF
        obtain rfl := Option.some.inj hF
        exact hret _ _ _ _ hP hD hS dX2_layAll_123
      · have hF := zf c_3 hF
        refine lv_aload_n hx hb dX2_layAll_39 rfl (lv_at hl 0 rfl) ?_
        refine va_get (D := D) (ci := 1) (v := .ref (ad_y 2)) (C := RX2) (T := TX2) (N := 5) hx hb hts hin2 hown hK hP 0 rfl rfl 2 (by decide) (hts _ zm_672) (fun _ h9 => h9) rfl dX2_layAll_40 ?_
        refine lv_iload_n hx hb dX2_layAll_43 rfl (lv_at hl 2 rfl) ?_
        obtain ⟨h_4, hF⟩ := zgi hF
        refine va_iald hx hb hK hP 2 0 rfl rfl h_4 dX2_layAll_44 ?_
        refine z_let hF (fun v3_5 hF => ?_)
        refine lv_istore_n (lv' := [(3, .int v3_5), (0, .ref (ad_y 0)), (1, .ref (ad_r 0)), (2, .int v2)]) hx hb dX2_layAll_45 rfl hl (by decide) rfl (fun ls hl => ?_)
        refine lv_aload_n hx hb dX2_layAll_46 rfl (lv_at hl 2 rfl) ?_
        refine lv_iload_n hx hb dX2_layAll_47 rfl (lv_at hl 0 rfl) ?_
        obtain ⟨o_6, hc_6, hF⟩ := zb hF
        refine zcVR (rest := []) (kX5_hasHook l D ca t ad_r r_guests r_kinds r_figures r_minutes r_settings r_hooks r_letters r_letterCount v3_5 fuel _ hc_6) ⟨hx, hb, hml, hown, hts⟩ (zcwV hts zm_673 zm_385 zm_386 zm_387 zm_383 rfl rfl zdv_X5_hasHook ⟨Nat.le_of_ble_eq_true rfl, Nat.le_of_ble_eq_true rfl⟩) hA hK hZ hP hD hS [10, 11, 12, 13, 14, 15] rfl rfl 3 10 rfl rfl rfl hl.1 (Nat.le_of_ble_eq_true rfl) dX2_layAll_48 rfl ?_
        refine lv_if_eq (tgt := 59) hx hb dX2_layAll_51 (by decide) (fun c_7 => ?_) (fun c_7 => ?_)
        · have hF := zt c_7 hF
          refine lv_aload_n hx hb dX2_layAll_59 rfl (lv_at hl 1 rfl) ?_
          refine lv_aload_n hx hb dX2_layAll_60 rfl (lv_at hl 2 rfl) ?_
          refine lv_iload_n hx hb dX2_layAll_61 rfl (lv_at hl 0 rfl) ?_
          obtain ⟨o_8, hc_8, hF⟩ := zb hF
          refine zcVR (rest := []) (kX2_heapFor l D ca t ad_y ad_b ad_r y_going y_coming y_holds y_latest b_heaps b_piles b_heights b_spots r_guests r_kinds r_figures r_minutes r_settings r_hooks r_letters r_letterCount v3_5 fuel _ hc_8) ⟨hx, hb, hml, hown, hts⟩ (zcwV hts zm_675 zm_676 zm_677 zm_340 zm_674 rfl rfl zdv_X2_heapFor ⟨Nat.le_of_ble_eq_true rfl, Nat.le_of_ble_eq_true rfl⟩) hA hK hZ hP hD hS [0, 1, 2, 3, 4, 5, 6, 7, 8, 9, 10, 11, 12, 13, 14, 15] rfl rfl 1 0 rfl rfl rfl hl.1 (Nat.le_of_ble_eq_true rfl) dX2_layAll_62 rfl ?_
          refine lv_istore (lv' := [(4, .int o_8), (3, .int v3_5), (0, .ref (ad_y 0)), (1, .ref (ad_r 0)), (2, .int v2)]) hx hb dX2_layAll_65 hl (by decide) rfl (fun ls hl => ?_)
          refine lv_iload hx hb dX2_layAll_67 (lv_at hl 0 rfl) ?_
          obtain ⟨o_9, hc_9, hF⟩ := zb hF
          refine zcNR (rest := []) (kX9_isHeap l D ca t o_8 fuel _ hc_9) ⟨hx, hb, hml, hown, hts⟩ ⟨va_cnB 1 hts (zG0 zm_307) rfl rfl rfl hZ.1.2.1 (hts _ zm_7) zds_X9_isHeap ⟨Nat.le_of_ble_eq_true rfl, Nat.le_of_ble_eq_true rfl⟩, hts _ zm_308, trivial⟩ hA hK hZ hP hD hS [] rfl rfl rfl hl.1 (Nat.le_of_ble_eq_true rfl) dX2_layAll_69 rfl ?_
          refine lv_if_eq (tgt := 94) hx hb dX2_layAll_72 (by decide) (fun c_10 => ?_) (fun c_10 => ?_)
          · have hF := zt c_10 hF
            refine lv_aload_n hx hb dX2_layAll_94 rfl (lv_at hl 2 rfl) ?_
            refine va_get (D := D) (ci := 1) (v := .ref (ad_b 0)) (C := RX2) (T := TX2) (N := 5) hx hb hts hin2 hown hK hP 0 rfl rfl 0 (by decide) (hts _ zm_332) (fun _ h9 => h9) rfl dX2_layAll_95 ?_
            refine va_get (D := D) (ci := 0) (v := .ref (ad_b 6)) (C := RX0) (T := TX0) (N := 4) hx hb hts hin0 hown hK hP 3 rfl rfl 3 (by decide) (hts _ zm_678) (fun _ h9 => h9) rfl dX2_layAll_98 ?_
            refine lv_iload_n hx hb dX2_layAll_101 rfl (lv_at hl 1 rfl) ?_
            refine lv_iload hx hb dX2_layAll_102 (lv_at hl 0 rfl) ?_
            refine lv_bipush (v := 9) hx hb dX2_layAll_104 (by decide) ?_
            refine lv_icmp_ne (tgt := 114) hx hb dX2_layAll_106 (by decide) (fun c_11 => ?_) (fun c_11 => ?_)
            · have hF := zf c_11 hF
              refine lv_bipush (v := (-4)) hx hb dX2_layAll_114 (by decide) ?_
              obtain ⟨h_12, hF⟩ := zgi hF
              refine z_iast hx hb hK hP hD hS 9 0 rfl rfl h_12 dX2_layAll_116 (fun g => (wX2_ybr ca ad_y ad_b ad_r y_going y_coming y_holds y_latest b_heaps b_piles b_heights g r_guests r_kinds r_figures r_minutes r_settings r_hooks r_letters r_letterCount)) (fun _ => rfl) hF (fun b_spots_13 H locs hF hP hD hS => ?_)
              exact j117 v2 y_holds y_latest b_heaps b_piles b_heights b_spots_13 _ _ hF hP hD hS ls (lv_sub hl [2, 3, 4] rfl)
            · have hF := zt c_11 hF
              refine lv_bipush (v := 9) hx hb dX2_layAll_109 (by decide) ?_
              refine lv_goto (tgt := 116) hx hb dX2_layAll_111 (by decide) ?_
              obtain ⟨h_14, hF⟩ := zgi hF
              refine z_iast hx hb hK hP hD hS 9 0 rfl rfl h_14 dX2_layAll_116 (fun g => (wX2_ybr ca ad_y ad_b ad_r y_going y_coming y_holds y_latest b_heaps b_piles b_heights g r_guests r_kinds r_figures r_minutes r_settings r_hooks r_letters r_letterCount)) (fun _ => rfl) hF (fun b_spots_15 H locs hF hP hD hS => ?_)
              exact j117 v2 y_holds y_latest b_heaps b_piles b_heights b_spots_15 _ _ hF hP hD hS ls (lv_sub hl [2, 3, 4] rfl)
          · have hF := zf c_10 hF
            refine lv_aload_n hx hb dX2_layAll_75 rfl (lv_at hl 2 rfl) ?_
            refine va_get (D := D) (ci := 1) (v := .ref (ad_b 0)) (C := RX2) (T := TX2) (N := 5) hx hb hts hin2 hown hK hP 0 rfl rfl 0 (by decide) (hts _ zm_332) (fun _ h9 => h9) rfl dX2_layAll_76 ?_
            refine lv_iload hx hb dX2_layAll_79 (lv_at hl 0 rfl) ?_
            refine lv_iload_n hx hb dX2_layAll_81 rfl (lv_at hl 1 rfl) ?_
            obtain ⟨o_16, hc_16, hF⟩ := zb hF
            refine zcVv (rest := []) (ws' := (wX2_ybr ca ad_y ad_b ad_r y_going y_coming y_holds y_latest b_heaps o_16.1 o_16.2.1 o_16.2.2 r_guests r_kinds r_figures r_minutes r_settings r_hooks r_letters r_letterCount)) (kX0_lay l D ca t ad_b b_heaps b_piles b_heights b_spots o_8 v3_5 fuel _ hc_16) ⟨hx, hb, hml, hown, hts⟩ (zcwV hts zm_679 zm_317 zm_318 zm_314 zm_315 rfl rfl zdv_X0_lay ⟨Nat.le_of_ble_eq_true rfl, Nat.le_of_ble_eq_true rfl⟩) hA hK hZ hP hD hS [3, 4, 5, 6, 7, 8, 9] [0, 1, 2, 10, 11, 12, 13, 14, 15] [0, 1, 2, 9, 10, 11, 12, 13, 14, 15, 3, 4, 5, 6, 7, 8] rfl rfl rfl rfl rfl rfl rfl 0 3 rfl rfl rfl hl.1 (Nat.le_of_ble_eq_true rfl) dX2_layAll_82 rfl (fun H locs hP hD hS => ?_)
            refine lv_aload_n hx hb dX2_layAll_85 rfl (lv_at hl 2 rfl) ?_
            refine lv_iload hx hb dX2_layAll_86 (lv_at hl 0 rfl) ?_
            refine va_put (D := D) (ci := 1) (v := .int o_8) (C := RX2) (T := TX2) (N := 5) hx hb hts hin2 tyX2 tyX2_ok nmX2 hown hK hP hD hS 0 rfl rfl 4 (by decide) (hts _ zm_545) (fun _ h9 => h9) rfl (tyX2_ok 4 (by decide)) rfl rfl (Nat.le_of_ble_eq_true rfl) dX2_layAll_88 (fun H locs hP hD hS => ?_)
            have hP : va_P D vwCl (wX2_ybr ca ad_y ad_b ad_r y_going y_coming y_holds o_8 b_heaps o_16.1 o_16.2.1 o_16.2.2 r_guests r_kinds r_figures r_minutes r_settings r_hooks r_letters r_letterCount) H := hP
            have hD : va_D A (wX2_ybr ca ad_y ad_b ad_r y_going y_coming y_holds o_8 b_heaps o_16.1 o_16.2.1 o_16.2.2 r_guests r_kinds r_figures r_minutes r_settings r_hooks r_letters r_letterCount) := hD
            refine lv_goto (tgt := 117) hx hb dX2_layAll_91 (by decide) ?_
            exact j117 v2 y_holds o_8 b_heaps o_16.1 o_16.2.1 o_16.2.2 _ _ hF hP hD hS ls (lv_sub hl [2, 3, 4] rfl)
        · have hF := zf c_7 hF
          refine lv_bipush (v := 9) hx hb dX2_layAll_54 (by decide) ?_
          refine lv_goto (tgt := 65) hx hb dX2_layAll_56 (by decide) ?_
          refine lv_istore (lv' := [(4, .int 9), (3, .int v3_5), (0, .ref (ad_y 0)), (1, .ref (ad_r 0)), (2, .int v2)]) hx hb dX2_layAll_65 hl (by decide) rfl (fun ls hl => ?_)
          refine lv_iload hx hb dX2_layAll_67 (lv_at hl 0 rfl) ?_
          obtain ⟨o_17, hc_17, hF⟩ := zb hF
          refine zcNR (rest := []) (kX9_isHeap l D ca t 9 fuel _ hc_17) ⟨hx, hb, hml, hown, hts⟩ ⟨va_cnB 1 hts (zG0 zm_307) rfl rfl rfl hZ.1.2.1 (hts _ zm_7) zds_X9_isHeap ⟨Nat.le_of_ble_eq_true rfl, Nat.le_of_ble_eq_true rfl⟩, hts _ zm_308, trivial⟩ hA hK hZ hP hD hS [] rfl rfl rfl hl.1 (Nat.le_of_ble_eq_true rfl) dX2_layAll_69 rfl ?_
          refine lv_if_eq (tgt := 94) hx hb dX2_layAll_72 (by decide) (fun c_18 => ?_) (fun c_18 => ?_)
          · have hF := zt c_18 hF
            refine lv_aload_n hx hb dX2_layAll_94 rfl (lv_at hl 2 rfl) ?_
            refine va_get (D := D) (ci := 1) (v := .ref (ad_b 0)) (C := RX2) (T := TX2) (N := 5) hx hb hts hin2 hown hK hP 0 rfl rfl 0 (by decide) (hts _ zm_332) (fun _ h9 => h9) rfl dX2_layAll_95 ?_
            refine va_get (D := D) (ci := 0) (v := .ref (ad_b 6)) (C := RX0) (T := TX0) (N := 4) hx hb hts hin0 hown hK hP 3 rfl rfl 3 (by decide) (hts _ zm_678) (fun _ h9 => h9) rfl dX2_layAll_98 ?_
            refine lv_iload_n hx hb dX2_layAll_101 rfl (lv_at hl 1 rfl) ?_
            refine lv_iload hx hb dX2_layAll_102 (lv_at hl 0 rfl) ?_
            refine lv_bipush (v := 9) hx hb dX2_layAll_104 (by decide) ?_
            refine lv_icmp_ne (tgt := 114) hx hb dX2_layAll_106 (by decide) (fun c_19 => ?_) (fun c_19 => ?_)
            · have hF := zf c_19 hF
              refine lv_bipush (v := (-4)) hx hb dX2_layAll_114 (by decide) ?_
              obtain ⟨h_20, hF⟩ := zgi hF
              refine z_iast hx hb hK hP hD hS 9 0 rfl rfl h_20 dX2_layAll_116 (fun g => (wX2_ybr ca ad_y ad_b ad_r y_going y_coming y_holds y_latest b_heaps b_piles b_heights g r_guests r_kinds r_figures r_minutes r_settings r_hooks r_letters r_letterCount)) (fun _ => rfl) hF (fun b_spots_21 H locs hF hP hD hS => ?_)
              exact j117 v2 y_holds y_latest b_heaps b_piles b_heights b_spots_21 _ _ hF hP hD hS ls (lv_sub hl [2, 3, 4] rfl)
            · have hF := zt c_19 hF
              refine lv_bipush (v := 9) hx hb dX2_layAll_109 (by decide) ?_
              refine lv_goto (tgt := 116) hx hb dX2_layAll_111 (by decide) ?_
              obtain ⟨h_22, hF⟩ := zgi hF
              refine z_iast hx hb hK hP hD hS 9 0 rfl rfl h_22 dX2_layAll_116 (fun g => (wX2_ybr ca ad_y ad_b ad_r y_going y_coming y_holds y_latest b_heaps b_piles b_heights g r_guests r_kinds r_figures r_minutes r_settings r_hooks r_letters r_letterCount)) (fun _ => rfl) hF (fun b_spots_23 H locs hF hP hD hS => ?_)
              exact j117 v2 y_holds y_latest b_heaps b_piles b_heights b_spots_23 _ _ hF hP hD hS ls (lv_sub hl [2, 3, 4] rfl)
          · have hF := zf c_18 hF
            refine lv_aload_n hx hb dX2_layAll_75 rfl (lv_at hl 2 rfl) ?_
            refine va_get (D := D) (ci := 1) (v := .ref (ad_b 0)) (C := RX2) (T := TX2) (N := 5) hx hb hts hin2 hown hK hP 0 rfl rfl 0 (by decide) (hts _ zm_332) (fun _ h9 => h9) rfl dX2_layAll_76 ?_
            refine lv_iload hx hb dX2_layAll_79 (lv_at hl 0 rfl) ?_
            refine lv_iload_n hx hb dX2_layAll_81 rfl (lv_at hl 1 rfl) ?_
            obtain ⟨o_24, hc_24, hF⟩ := zb hF
            refine zcVv (rest := []) (ws' := (wX2_ybr ca ad_y ad_b ad_r y_going y_coming y_holds y_latest b_heaps o_24.1 o_24.2.1 o_24.2.2 r_guests r_kinds r_figures r_minutes r_settings r_hooks r_letters r_letterCount)) (kX0_lay l D ca t ad_b b_heaps b_piles b_heights b_spots 9 v3_5 fuel _ hc_24) ⟨hx, hb, hml, hown, hts⟩ (zcwV hts zm_679 zm_317 zm_318 zm_314 zm_315 rfl rfl zdv_X0_lay ⟨Nat.le_of_ble_eq_true rfl, Nat.le_of_ble_eq_true rfl⟩) hA hK hZ hP hD hS [3, 4, 5, 6, 7, 8, 9] [0, 1, 2, 10, 11, 12, 13, 14, 15] [0, 1, 2, 9, 10, 11, 12, 13, 14, 15, 3, 4, 5, 6, 7, 8] rfl rfl rfl rfl rfl rfl rfl 0 3 rfl rfl rfl hl.1 (Nat.le_of_ble_eq_true rfl) dX2_layAll_82 rfl (fun H locs hP hD hS => ?_)
            refine lv_aload_n hx hb dX2_layAll_85 rfl (lv_at hl 2 rfl) ?_
            refine lv_iload hx hb dX2_layAll_86 (lv_at hl 0 rfl) ?_
            refine va_put (D := D) (ci := 1) (v := .int 9) (C := RX2) (T := TX2) (N := 5) hx hb hts hin2 tyX2 tyX2_ok nmX2 hown hK hP hD hS 0 rfl rfl 4 (by decide) (hts _ zm_545) (fun _ h9 => h9) rfl (tyX2_ok 4 (by decide)) rfl rfl (Nat.le_of_ble_eq_true rfl) dX2_layAll_88 (fun H locs hP hD hS => ?_)
            have hP : va_P D vwCl (wX2_ybr ca ad_y ad_b ad_r y_going y_coming y_holds 9 b_heaps o_24.1 o_24.2.1 o_24.2.2 r_guests r_kinds r_figures r_minutes r_settings r_hooks r_letters r_letterCount) H := hP
            have hD : va_D A (wX2_ybr ca ad_y ad_b ad_r y_going y_coming y_holds 9 b_heaps o_24.1 o_24.2.1 o_24.2.2 r_guests r_kinds r_figures r_minutes r_settings r_hooks r_letters r_letterCount) := hD
            refine lv_goto (tgt := 117) hx hb dX2_layAll_91 (by decide) ?_
            exact j117 v2 y_holds 9 b_heaps o_24.1 o_24.2.1 o_24.2.2 _ _ hF hP hD hS ls (lv_sub hl [2, 3, 4] rfl)
  unfold fX2_layAll at hF
  refine lv_aload_n hx hb dX2_layAll_0 rfl (lv_at hl 0 rfl) ?_
  refine va_get (D := D) (ci := 1) (v := .ref (ad_b 0)) (C := RX2) (T := TX2) (N := 5) hx hb hts hin2 hown hK hP 0 rfl rfl 0 (by decide) (hts _ zm_332) (fun _ h9 => h9) rfl dX2_layAll_1 ?_
  refine lv_aload_n hx hb dX2_layAll_4 rfl (lv_at hl 1 rfl) ?_
  refine va_get (D := D) (ci := 3) (v := .ref (ad_r 4)) (C := RX5) (T := TX5) (N := 8) hx hb hts hin5 hown hK hP 10 rfl rfl 4 (by decide) (hts _ zm_669) (fun _ h9 => h9) rfl dX2_layAll_5 ?_
  refine lv_iconst (v := 0) hx hb dX2_layAll_8 (by decide) ?_
  refine z_ialdK 0 hx hb hK hP 14 0 rfl rfl (zin_ok (by decide)) (by decide) dX2_layAll_9 ?_
  obtain ⟨o_1, hc_1, hF⟩ := zb hF
  refine zcVv (rest := []) (ws' := (wX2_ybr ca ad_y ad_b ad_r y_going y_coming y_holds y_latest o_1.1 b_piles o_1.2.1 o_1.2.2 r_guests r_kinds r_figures r_minutes r_settings r_hooks r_letters r_letterCount)) (kX0_clear l D ca t ad_b b_heaps b_piles b_heights b_spots (r_settings 0) fuel _ hc_1) ⟨hx, hb, hml, hown, hts⟩ (zcwV hts zm_670 zm_351 zm_352 zm_314 zm_349 rfl rfl zdv_X0_clear ⟨Nat.le_of_ble_eq_true rfl, Nat.le_of_ble_eq_true rfl⟩) hA hK hZ hP hD hS [3, 4, 5, 6, 7, 8, 9] [0, 1, 2, 10, 11, 12, 13, 14, 15] [0, 1, 2, 9, 10, 11, 12, 13, 14, 15, 3, 4, 5, 6, 7, 8] rfl rfl rfl rfl rfl rfl rfl 0 3 rfl rfl rfl hl.1 (Nat.le_of_ble_eq_true rfl) dX2_layAll_10 rfl (fun H locs hP hD hS => ?_)
  refine lv_aload_n hx hb dX2_layAll_13 rfl (lv_at hl 0 rfl) ?_
  refine lv_aload_n hx hb dX2_layAll_14 rfl (lv_at hl 1 rfl) ?_
  refine va_get (D := D) (ci := 3) (v := .ref (ad_r 4)) (C := RX5) (T := TX5) (N := 8) hx hb hts hin5 hown hK hP 10 rfl rfl 4 (by decide) (hts _ zm_669) (fun _ h9 => h9) rfl dX2_layAll_15 ?_
  refine lv_iconst (v := 1) hx hb dX2_layAll_18 (by decide) ?_
  refine z_ialdK 1 hx hb hK hP 14 0 rfl rfl (zin_ok (by decide)) (by decide) dX2_layAll_19 ?_
  refine z_let hF (fun holds_2 hF => ?_)
  refine va_put (D := D) (ci := 1) (v := .int holds_2) (C := RX2) (T := TX2) (N := 5) hx hb hts hin2 tyX2 tyX2_ok nmX2 hown hK hP hD hS 0 rfl rfl 3 (by decide) (hts _ zm_334) (fun _ h9 => h9) rfl (tyX2_ok 3 (by decide)) rfl rfl (Nat.le_of_ble_eq_true rfl) dX2_layAll_20 (fun H locs hP hD hS => ?_)
  have hP : va_P D vwCl (wX2_ybr ca ad_y ad_b ad_r y_going y_coming holds_2 y_latest o_1.1 b_piles o_1.2.1 o_1.2.2 r_guests r_kinds r_figures r_minutes r_settings r_hooks r_letters r_letterCount) H := hP
  have hD : va_D A (wX2_ybr ca ad_y ad_b ad_r y_going y_coming holds_2 y_latest o_1.1 b_piles o_1.2.1 o_1.2.2 r_guests r_kinds r_figures r_minutes r_settings r_hooks r_letters r_letterCount) := hD
  refine lv_aload_n hx hb dX2_layAll_23 rfl (lv_at hl 0 rfl) ?_
  refine lv_bipush (v := (-4)) hx hb dX2_layAll_24 (by decide) ?_
  refine va_put (D := D) (ci := 1) (v := .int (-4)) (C := RX2) (T := TX2) (N := 5) hx hb hts hin2 tyX2 tyX2_ok nmX2 hown hK hP hD hS 0 rfl rfl 4 (by decide) (hts _ zm_545) (fun _ h9 => h9) rfl (tyX2_ok 4 (by decide)) rfl rfl (Nat.le_of_ble_eq_true rfl) dX2_layAll_26 (fun H locs hP hD hS => ?_)
  have hP : va_P D vwCl (wX2_ybr ca ad_y ad_b ad_r y_going y_coming holds_2 (-4) o_1.1 b_piles o_1.2.1 o_1.2.2 r_guests r_kinds r_figures r_minutes r_settings r_hooks r_letters r_letterCount) H := hP
  have hD : va_D A (wX2_ybr ca ad_y ad_b ad_r y_going y_coming holds_2 (-4) o_1.1 b_piles o_1.2.1 o_1.2.2 r_guests r_kinds r_figures r_minutes r_settings r_hooks r_letters r_letterCount) := hD
  refine lv_iconst (v := 0) hx hb dX2_layAll_29 (by decide) ?_
  refine lv_istore_n (lv' := [(2, .int 0), (0, .ref (ad_y 0)), (1, .ref (ad_r 0))]) hx hb dX2_layAll_30 rfl hl (by decide) rfl (fun ls hl => ?_)
  exact l31 fuel 0 holds_2 (-4) o_1.1 b_piles o_1.2.1 o_1.2.2 _ _ hF hP hD hS ls (lv_sub hl [1, 2, 0] rfl)
