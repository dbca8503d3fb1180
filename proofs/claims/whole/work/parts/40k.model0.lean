abbrev roX10_isIn : Room := { frames := 0, cells := 0, slots := 0, locals := 0 }
set_option maxHeartbeats 4000000 in
set_option maxRecDepth 100000 in
theorem kX10_isIn (l : Launch) (D : va_G) (ca : Nat → ClassId) (t : Nat → Nat) (p0 : Int32) (p1 : Int32) (p2 : Int32) (fuel : Nat) (o : Int32) (hF : fX10_isIn fuel p0 p1 p2 = some o) : zRi l D (zT ca) t yX10_isIn (.code yX10_isIn cX10_isIn 3 (some .boolean) :: zW) roX10_isIn [.int p0, .int p1, .int p2] [] o := by
  refine zRi_of (cc := cX10_isIn) (maxL := 3) (by decide) rfl (Nat.le_of_ble_eq_true rfl) ?_
  intro p e s m args below meth c A Q ls ⟨hx, hb, hml, hown, hts, hA, hK, hZ, hS⟩ hret hP hD hl
  have hts := fun w h => hts w (List.mem_cons_of_mem _ h)
  have hown : s.vm.findClass RX10 = some m.cls := hown
  have hl : lv_has ls 3 [(0, .int p0), (1, .int p1), (2, .int p2)] := hl
  unfold fX10_isIn at hF
  refine lv_iload_n hx hb dX10_isIn_0 rfl (lv_at hl 0 rfl) ?_
  refine lv_iload_n hx hb dX10_isIn_1 rfl (lv_at hl 1 rfl) ?_
  refine lv_icmp_lt (tgt := 14) hx hb dX10_isIn_2 (by decide) (fun c_1 => ?_) (fun c_1 => ?_)
  · have hF := zt c_1 hF
    refine lv_iconst (v := 0) hx hb dX10_isIn_14 (by decide) ?_
    obtain rfl := Option.some.inj hF
    exact hret _ _ (zbool (Or.inl rfl)) dX10_isIn_15
  · have hF := zf c_1 hF
    refine lv_iload_n hx hb dX10_isIn_5 rfl (lv_at hl 0 rfl) ?_
    refine lv_iload_n hx hb dX10_isIn_6 rfl (lv_at hl 2 rfl) ?_
    refine lv_icmp_gt (tgt := 14) hx hb dX10_isIn_7 (by decide) (fun c_2 => ?_) (fun c_2 => ?_)
    · have hF := zt c_2 hF
      refine lv_iconst (v := 0) hx hb dX10_isIn_14 (by decide) ?_
      obtain rfl := Option.some.inj hF
      exact hret _ _ (zbool (Or.inl rfl)) dX10_isIn_15
    · have hF := zf c_2 hF
      refine lv_iconst (v := 1) hx hb dX10_isIn_10 (by decide) ?_
      refine lv_goto (tgt := 15) hx hb dX10_isIn_11 (by decide) ?_
      obtain rfl := Option.some.inj hF
      exact hret _ _ (zbool (Or.inr rfl)) dX10_isIn_15
theorem zds_X10_isIn : yX10_isIn.cls ≠ "java/lang/invoke/MethodHandle" ∧ yX10_isIn.cls ≠ "java/lang/invoke/VarHandle" ∧ (parseMethodDescriptor yX10_isIn.desc).map (fun d => d.parameters.length) = some 3 := by decide +kernel
abbrev roX10_isGuest : Room := { frames := 1, cells := 0, slots := 0, locals := 22 }
set_option maxHeartbeats 4000000 in
set_option maxRecDepth 100000 in
theorem kX10_isGuest (l : Launch) (D : va_G) (ca : Nat → ClassId) (t : Nat → Nat) (ad_M : Nat → Nat) (M_guests : Int32) (M_kind : Nat → Int32) (M_figure : Nat → Int32) (M_told : Nat → Int32) (M_heaps : Int32) (M_holds : Int32) (M_back : Int32) (M_mistakes : Int32) (M_hooks : Int32) (M_letters : Int32) (M_rule : Nat → Int32) (M_at : Int32) (M_well : Int32) (M_sort : Int32) (M_text : Int32) (M_row : Int32) (M_field : Nat → Int32) (M_fields : Int32) (M_begins : Nat → Int32) (M_ruleLetters : Nat → Int32) (M_coming : Nat → Int32) (M_comingMany : Int32) (M_going : Nat → Int32) (M_goingMany : Int32) (M_minute : Nat → Int32) (M_pile : Nat → Int32) (M_high : Nat → Int32) (M_where : Nat → Int32) (M_latest : Int32) (M_lifts : Nat → Int32) (M_begun : Nat → Int32) (M_left : Nat → Int32) (M_has : Nat → Int32) (M_lifted : Nat → Int32) (M_taken : Nat → Int32) (M_above : Nat → Int32) (M_allLifts : Int32) (M_busy : Int32) (M_longest : Nat → Int32) (M_onto : Nat → Int32) (M_worst : Int32) (M_best : Int32) (M_orders : Int32) (M_together : Int32) (M_ofOne : Nat → Int32) (M_ofOther : Nat → Int32) (M_seed : Int32) (M_then : Nat → Int32) (M_was : Nat → Int32) (M_kept : Int32) (M_held : Nat → Int32) (M_kindOn : Nat → Int32) (M_figureOn : Nat → Int32) (M_sorts : Nat → Int32) (M_size : Nat → Int32) (M_items : Nat → Int32) (M_moved : Nat → Int32) (M_thrown : Int32) (p1 : Int32) (fuel : Nat) (o : Int32) (hF : fX10_isGuest fuel M_guests p1 = some o) : zRi l D (zT ca) t yX10_isGuest (.code yX10_isGuest cX10_isGuest 2 (some .boolean) :: zW) roX10_isGuest [.ref (ad_M 0), .int p1] (wX10_M ca ad_M M_guests M_kind M_figure M_told M_heaps M_holds M_back M_mistakes M_hooks M_letters M_rule M_at M_well M_sort M_text M_row M_field M_fields M_begins M_ruleLetters M_coming M_comingMany M_going M_goingMany M_minute M_pile M_high M_where M_latest M_lifts M_begun M_left M_has M_lifted M_taken M_above M_allLifts M_busy M_longest M_onto M_worst M_best M_orders M_together M_ofOne M_ofOther M_seed M_then M_was M_kept M_held M_kindOn M_figureOn M_sorts M_size M_items M_moved M_thrown) o := by
  refine zRi_of (cc := cX10_isGuest) (maxL := 2) (by decide) rfl (Nat.le_of_ble_eq_true rfl) ?_
  intro p e s m args below meth c A Q ls ⟨hx, hb, hml, hown, hts, hA, hK, hZ, hS⟩ hret hP hD hl
  have hts := fun w h => hts w (List.mem_cons_of_mem _ h)
  have hown : s.vm.findClass RX10 = some m.cls := hown
  have hl : lv_has ls 2 [(0, .ref (ad_M 0)), (1, .int p1)] := hl
  have hin10 := zin_X10
  unfold fX10_isGuest at hF
  refine lv_iload_n hx hb dX10_isGuest_0 rfl (lv_at hl 1 rfl) ?_
  refine lv_iconst (v := 0) hx hb dX10_isGuest_1 (by decide) ?_
  refine lv_aload_n hx hb dX10_isGuest_2 rfl (lv_at hl 0 rfl) ?_
  refine va_get (D := D) (ci := 7) (v := .int M_guests) (C := RX10) (T := TX10) (N := 58) hx hb hts hin10 hown hK hP 0 rfl rfl 0 (by decide) (hts _ zm_16) (fun _ h9 => h9) rfl dX10_isGuest_3 ?_
  refine lv_iconst (v := 1) hx hb dX10_isGuest_6 (by decide) ?_
  refine lv_isub hx hb dX10_isGuest_7 ?_
  obtain ⟨o_1, hc_1, hF⟩ := zb hF
  refine zcSR (rest := []) (kX10_isIn l D ca t p1 0 (M_guests - 1) fuel _ hc_1) ⟨hx, hb, hml, hown, hts⟩ (zcwS hts zm_20 zm_18 zm_19 zm_17 rfl rfl zds_X10_isIn ⟨Nat.le_of_ble_eq_true rfl, Nat.le_of_ble_eq_true rfl⟩) hA hK hZ hP hD hS [] rfl rfl rfl hl.1 (Nat.le_of_ble_eq_true rfl) dX10_isGuest_8 rfl ?_
  obtain ⟨h_2, hF⟩ := zgp hF
  obtain rfl := Option.some.inj hF
  exact hret _ _ (zbool h_2) dX10_isGuest_11
abbrev roX10_goesBy : Room := { frames := 1, cells := 0, slots := 0, locals := 24 }
set_option maxHeartbeats 4000000 in
set_option maxRecDepth 100000 in
theorem kX10_goesBy (l : Launch) (D : va_G) (ca : Nat → ClassId) (t : Nat → Nat) (p0 : Int32) (p1 : Int32) (p2 : Int32) (fuel : Nat) (o : Int32) (hF : fX10_goesBy fuel p0 p1 p2 = some o) : zRi l D (zT ca) t yX10_goesBy (.code yX10_goesBy cX10_goesBy 3 (some .int) :: zW) roX10_goesBy [.int p0, .int p1, .int p2] [] o := by
  refine zRi_of (cc := cX10_goesBy) (maxL := 3) (by decide) rfl (Nat.le_of_ble_eq_true rfl) ?_
  intro p e s m args below meth c A Q ls ⟨hx, hb, hml, hown, hts, hA, hK, hZ, hS⟩ hret hP hD hl
  have hts := fun w h => hts w (List.mem_cons_of_mem _ h)
  have hown : s.vm.findClass RX10 = some m.cls := hown
  have hl : lv_has ls 3 [(0, .int p0), (1, .int p1), (2, .int p2)] := hl
  unfold fX10_goesBy at hF
  refine lv_iload_n hx hb dX10_goesBy_0 rfl (lv_at hl 0 rfl) ?_
  refine lv_bipush (v := 7) hx hb dX10_goesBy_1 (by decide) ?_
  refine lv_icmp_ne (tgt := 11) hx hb dX10_goesBy_3 (by decide) (fun c_1 => ?_) (fun c_1 => ?_)
  · have hF := zf c_1 hF
    refine lv_iload_n hx hb dX10_goesBy_11 rfl (lv_at hl 0 rfl) ?_
    refine lv_iconst (v := 5) hx hb dX10_goesBy_12 (by decide) ?_
    refine lv_icmp_ne (tgt := 26) hx hb dX10_goesBy_13 (by decide) (fun c_2 => ?_) (fun c_2 => ?_)
    · have hF := zf c_2 hF
      refine lv_iload_n hx hb dX10_goesBy_26 rfl (lv_at hl 2 rfl) ?_
      obtain rfl := Option.some.inj hF
      exact hret _ _ rfl dX10_goesBy_27
    · have hF := zt c_2 hF
      refine lv_iconst (v := 0) hx hb dX10_goesBy_16 (by decide) ?_
      refine lv_iload_n hx hb dX10_goesBy_17 rfl (lv_at hl 2 rfl) ?_
      refine lv_iload_n hx hb dX10_goesBy_18 rfl (lv_at hl 1 rfl) ?_
      refine lv_isub hx hb dX10_goesBy_19 ?_
      refine va_mmax hx hb (hml.trans hl.1.symm) hown (hts _ zm_21) (hts _ zm_22) (hts _ zm_23) (hts _ zm_24) (Nat.le_of_ble_eq_true rfl) (Nat.le_of_ble_eq_true rfl) (Nat.zero_le _) (Nat.zero_le _) dX10_goesBy_20 ?_
      refine z_let hF (fun x_3 hF => ?_)
      refine lv_goto (tgt := 27) hx hb dX10_goesBy_23 (by decide) ?_
      obtain rfl := Option.some.inj hF
      exact hret _ _ rfl dX10_goesBy_27
  · have hF := zt c_1 hF
    refine lv_bipush (v := 99) hx hb dX10_goesBy_6 (by decide) ?_
    refine lv_goto (tgt := 27) hx hb dX10_goesBy_8 (by decide) ?_
    obtain rfl := Option.some.inj hF
    exact hret _ _ rfl dX10_goesBy_27
abbrev roX10_lift : Room := { frames := 0, cells := 0, slots := 0, locals := 0 }
set_option maxHeartbeats 4000000 in
set_option maxRecDepth 100000 in
theorem kX10_lift (l : Launch) (D : va_G) (ca : Nat → ClassId) (t : Nat → Nat) (p0 : Int32) (p1 : Int32) (fuel : Nat) (o : Int32) (hF : fX10_lift fuel p0 p1 = some o) : zRi l D (zT ca) t yX10_lift (.code yX10_lift cX10_lift 2 (some .int) :: zW) roX10_lift [.int p0, .int p1] [] o := by
  refine zRi_of (cc := cX10_lift) (maxL := 2) (by decide) rfl (Nat.le_of_ble_eq_true rfl) ?_
  intro p e s m args below meth c A Q ls ⟨hx, hb, hml, hown, hts, hA, hK, hZ, hS⟩ hret hP hD hl
  have hts := fun w h => hts w (List.mem_cons_of_mem _ h)
  have hown : s.vm.findClass RX10 = some m.cls := hown
  have hl : lv_has ls 2 [(0, .int p0), (1, .int p1)] := hl
  unfold fX10_lift at hF
  refine lv_iload_n hx hb dX10_lift_0 rfl (lv_at hl 0 rfl) ?_
  refine lv_iconst (v := 1) hx hb dX10_lift_1 (by decide) ?_
  refine lv_icmp_ne (tgt := 9) hx hb dX10_lift_2 (by decide) (fun c_1 => ?_) (fun c_1 => ?_)
  · have hF := zf c_1 hF
    refine lv_iload_n hx hb dX10_lift_9 rfl (lv_at hl 0 rfl) ?_
    refine lv_iconst (v := 2) hx hb dX10_lift_10 (by decide) ?_
    refine lv_icmp_ne (tgt := 22) hx hb dX10_lift_11 (by decide) (fun c_2 => ?_) (fun c_2 => ?_)
    · have hF := zf c_2 hF
      refine lv_iload_n hx hb dX10_lift_22 rfl (lv_at hl 0 rfl) ?_
      refine lv_iconst (v := 4) hx hb dX10_lift_23 (by decide) ?_
      refine lv_icmp_ne (tgt := 35) hx hb dX10_lift_24 (by decide) (fun c_3 => ?_) (fun c_3 => ?_)
      · have hF := zf c_3 hF
        refine lv_iload_n hx hb dX10_lift_35 rfl (lv_at hl 0 rfl) ?_
        refine lv_iconst (v := 5) hx hb dX10_lift_36 (by decide) ?_
        refine lv_icmp_ne (tgt := 44) hx hb dX10_lift_37 (by decide) (fun c_4 => ?_) (fun c_4 => ?_)
        · have hF := zf c_4 hF
          refine lv_iconst (v := 1) hx hb dX10_lift_44 (by decide) ?_
          obtain rfl := Option.some.inj hF
          exact hret _ _ rfl dX10_lift_45
        · have hF := zt c_4 hF
          refine lv_iconst (v := 0) hx hb dX10_lift_40 (by decide) ?_
          refine lv_goto (tgt := 45) hx hb dX10_lift_41 (by decide) ?_
          obtain rfl := Option.some.inj hF
          exact hret _ _ rfl dX10_lift_45
      · have hF := zt c_3 hF
        refine lv_iconst (v := 2) hx hb dX10_lift_27 (by decide) ?_
        refine lv_iload_n hx hb dX10_lift_28 rfl (lv_at hl 1 rfl) ?_
        refine lv_iconst (v := 3) hx hb dX10_lift_29 (by decide) ?_
        refine lv_idiv hx hb dX10_lift_30 (by decide) ?_
        refine lv_iadd hx hb dX10_lift_31 ?_
        refine lv_goto (tgt := 45) hx hb dX10_lift_32 (by decide) ?_
        obtain rfl := Option.some.inj hF
        exact hret _ _ rfl dX10_lift_45
    · have hF := zt c_2 hF
      refine lv_iconst (v := 1) hx hb dX10_lift_14 (by decide) ?_
      refine lv_iload_n hx hb dX10_lift_15 rfl (lv_at hl 1 rfl) ?_
      refine lv_iconst (v := 3) hx hb dX10_lift_16 (by decide) ?_
      refine lv_idiv hx hb dX10_lift_17 (by decide) ?_
      refine lv_iadd hx hb dX10_lift_18 ?_
      refine lv_goto (tgt := 45) hx hb dX10_lift_19 (by decide) ?_
      obtain rfl := Option.some.inj hF
      exact hret _ _ rfl dX10_lift_45
  · have hF := zt c_1 hF
    refine lv_iconst (v := 3) hx hb dX10_lift_5 (by decide) ?_
    refine lv_goto (tgt := 45) hx hb dX10_lift_6 (by decide) ?_
    obtain rfl := Option.some.inj hF
    exact hret _ _ rfl dX10_lift_45
theorem zds_X10_lift : yX10_lift.cls ≠ "java/lang/invoke/MethodHandle" ∧ yX10_lift.cls ≠ "java/lang/invoke/VarHandle" ∧ (parseMethodDescriptor yX10_lift.desc).map (fun d => d.parameters.length) = some 2 := by decide +kernel
abbrev roX10_liftOf : Room := { frames := 1, cells := 0, slots := 0, locals := 21 }
set_option maxHeartbeats 4000000 in
set_option maxRecDepth 100000 in
theorem kX10_liftOf (l : Launch) (D : va_G) (ca : Nat → ClassId) (t : Nat → Nat) (ad_M : Nat → Nat) (M_guests : Int32) (M_kind : Nat → Int32) (M_figure : Nat → Int32) (M_told : Nat → Int32) (M_heaps : Int32) (M_holds : Int32) (M_back : Int32) (M_mistakes : Int32) (M_hooks : Int32) (M_letters : Int32) (M_rule : Nat → Int32) (M_at : Int32) (M_well : Int32) (M_sort : Int32) (M_text : Int32) (M_row : Int32) (M_field : Nat → Int32) (M_fields : Int32) (M_begins : Nat → Int32) (M_ruleLetters : Nat → Int32) (M_coming : Nat → Int32) (M_comingMany : Int32) (M_going : Nat → Int32) (M_goingMany : Int32) (M_minute : Nat → Int32) (M_pile : Nat → Int32) (M_high : Nat → Int32) (M_where : Nat → Int32) (M_latest : Int32) (M_lifts : Nat → Int32) (M_begun : Nat → Int32) (M_left : Nat → Int32) (M_has : Nat → Int32) (M_lifted : Nat → Int32) (M_taken : Nat → Int32) (M_above : Nat → Int32) (M_allLifts : Int32) (M_busy : Int32) (M_longest : Nat → Int32) (M_onto : Nat → Int32) (M_worst : Int32) (M_best : Int32) (M_orders : Int32) (M_together : Int32) (M_ofOne : Nat → Int32) (M_ofOther : Nat → Int32) (M_seed : Int32) (M_then : Nat → Int32) (M_was : Nat → Int32) (M_kept : Int32) (M_held : Nat → Int32) (M_kindOn : Nat → Int32) (M_figureOn : Nat → Int32) (M_sorts : Nat → Int32) (M_size : Nat → Int32) (M_items : Nat → Int32) (M_moved : Nat → Int32) (M_thrown : Int32) (p1 : Int32) (fuel : Nat) (o : Int32) (hF : fX10_liftOf fuel M_kind M_figure p1 = some o) : zRi l D (zT ca) t yX10_liftOf (.code yX10_liftOf cX10_liftOf 2 (some .int) :: zW) roX10_liftOf [.ref (ad_M 0), .int p1] (wX10_M ca ad_M M_guests M_kind M_figure M_told M_heaps M_holds M_back M_mistakes M_hooks M_letters M_rule M_at M_well M_sort M_text M_row M_field M_fields M_begins M_ruleLetters M_coming M_comingMany M_going M_goingMany M_minute M_pile M_high M_where M_latest M_lifts M_begun M_left M_has M_lifted M_taken M_above M_allLifts M_busy M_longest M_onto M_worst M_best M_orders M_together M_ofOne M_ofOther M_seed M_then M_was M_kept M_held M_kindOn M_figureOn M_sorts M_size M_items M_moved M_thrown) o := by
  refine zRi_of (cc := cX10_liftOf) (maxL := 2) (by decide) rfl (Nat.le_of_ble_eq_true rfl) ?_
  intro p e s m args below meth c A Q ls ⟨hx, hb, hml, hown, hts, hA, hK, hZ, hS⟩ hret hP hD hl
  have hts := fun w h => hts w (List.mem_cons_of_mem _ h)
  have hown : s.vm.findClass RX10 = some m.cls := hown
  have hl : lv_has ls 2 [(0, .ref (ad_M 0)), (1, .int p1)] := hl
  have hin10 := zin_X10
  unfold fX10_liftOf at hF
  refine lv_aload_n hx hb dX10_liftOf_0 rfl (lv_at hl 0 rfl) ?_
  refine va_get (D := D) (ci := 7) (v := .ref (ad_M 1)) (C := RX10) (T := TX10) (N := 58) hx hb hts hin10 hown hK hP 0 rfl rfl 1 (by decide) (hts _ zm_25) (fun _ h9 => h9) rfl dX10_liftOf_1 ?_
  refine lv_iload_n hx hb dX10_liftOf_4 rfl (lv_at hl 1 rfl) ?_
  obtain ⟨h_1, hF⟩ := zgi hF
  refine va_iald hx hb hK hP 1 0 rfl rfl h_1 dX10_liftOf_5 ?_
  refine lv_aload_n hx hb dX10_liftOf_6 rfl (lv_at hl 0 rfl) ?_
  refine va_get (D := D) (ci := 7) (v := .ref (ad_M 2)) (C := RX10) (T := TX10) (N := 58) hx hb hts hin10 hown hK hP 0 rfl rfl 2 (by decide) (hts _ zm_26) (fun _ h9 => h9) rfl dX10_liftOf_7 ?_
  refine lv_iload_n hx hb dX10_liftOf_10 rfl (lv_at hl 1 rfl) ?_
  refine va_iald hx hb hK hP 2 0 rfl rfl h_1 dX10_liftOf_11 ?_
  obtain ⟨o_2, hc_2, hF⟩ := zb hF
  refine zcSR (rest := []) (kX10_lift l D ca t (M_kind p1.toNatClampNeg) (M_figure p1.toNatClampNeg) fuel _ hc_2) ⟨hx, hb, hml, hown, hts⟩ (zcwS hts zm_29 zm_28 zm_19 zm_27 rfl rfl zds_X10_lift ⟨Nat.le_of_ble_eq_true rfl, Nat.le_of_ble_eq_true rfl⟩) hA hK hZ hP hD hS [] rfl rfl rfl hl.1 (Nat.le_of_ble_eq_true rfl) dX10_liftOf_12 rfl ?_
  obtain rfl := Option.some.inj hF
  exact hret _ _ rfl dX10_liftOf_15
abbrev roX10_isBlack : Room := { frames := 0, cells := 0, slots := 0, locals := 0 }
set_option maxHeartbeats 4000000 in
set_option maxRecDepth 100000 in
theorem kX10_isBlack (l : Launch) (D : va_G) (ca : Nat → ClassId) (t : Nat → Nat) (ad_M : Nat → Nat) (M_guests : Int32) (M_kind : Nat → Int32) (M_figure : Nat → Int32) (M_told : Nat → Int32) (M_heaps : Int32) (M_holds : Int32) (M_back : Int32) (M_mistakes : Int32) (M_hooks : Int32) (M_letters : Int32) (M_rule : Nat → Int32) (M_at : Int32) (M_well : Int32) (M_sort : Int32) (M_text : Int32) (M_row : Int32) (M_field : Nat → Int32) (M_fields : Int32) (M_begins : Nat → Int32) (M_ruleLetters : Nat → Int32) (M_coming : Nat → Int32) (M_comingMany : Int32) (M_going : Nat → Int32) (M_goingMany : Int32) (M_minute : Nat → Int32) (M_pile : Nat → Int32) (M_high : Nat → Int32) (M_where : Nat → Int32) (M_latest : Int32) (M_lifts : Nat → Int32) (M_begun : Nat → Int32) (M_left : Nat → Int32) (M_has : Nat → Int32) (M_lifted : Nat → Int32) (M_taken : Nat → Int32) (M_above : Nat → Int32) (M_allLifts : Int32) (M_busy : Int32) (M_longest : Nat → Int32) (M_onto : Nat → Int32) (M_worst : Int32) (M_best : Int32) (M_orders : Int32) (M_together : Int32) (M_ofOne : Nat → Int32) (M_ofOther : Nat → Int32) (M_seed : Int32) (M_then : Nat → Int32) (M_was : Nat → Int32) (M_kept : Int32) (M_held : Nat → Int32) (M_kindOn : Nat → Int32) (M_figureOn : Nat → Int32) (M_sorts : Nat → Int32) (M_size : Nat → Int32) (M_items : Nat → Int32) (M_moved : Nat → Int32) (M_thrown : Int32) (p1 : Int32) (fuel : Nat) (o : Int32) (hF : fX10_isBlack fuel M_kind p1 = some o) : zRi l D (zT ca) t yX10_isBlack (.code yX10_isBlack cX10_isBlack 2 (some .boolean) :: zW) roX10_isBlack [.ref (ad_M 0), .int p1] (wX10_M ca ad_M M_guests M_kind M_figure M_told M_heaps M_holds M_back M_mistakes M_hooks M_letters M_rule M_at M_well M_sort M_text M_row M_field M_fields M_begins M_ruleLetters M_coming M_comingMany M_going M_goingMany M_minute M_pile M_high M_where M_latest M_lifts M_begun M_left M_has M_lifted M_taken M_above M_allLifts M_busy M_longest M_onto M_worst M_best M_orders M_together M_ofOne M_ofOther M_seed M_then M_was M_kept M_held M_kindOn M_figureOn M_sorts M_size M_items M_moved M_thrown) o := by
  refine zRi_of (cc := cX10_isBlack) (maxL := 2) (by decide) rfl (Nat.le_of_ble_eq_true rfl) ?_
  intro p e s m args below meth c A Q ls ⟨hx, hb, hml, hown, hts, hA, hK, hZ, hS⟩ hret hP hD hl
  have hts := fun w h => hts w (List.mem_cons_of_mem _ h)
  have hown : s.vm.findClass RX10 = some m.cls := hown
  have hl : lv_has ls 2 [(0, .ref (ad_M 0)), (1, .int p1)] := hl
  have hin10 := zin_X10
  unfold fX10_isBlack at hF
  refine lv_aload_n hx hb dX10_isBlack_0 rfl (lv_at hl 0 rfl) ?_
  refine va_get (D := D) (ci := 7) (v := .ref (ad_M 1)) (C := RX10) (T := TX10) (N := 58) hx hb hts hin10 hown hK hP 0 rfl rfl 1 (by decide) (hts _ zm_25) (fun _ h9 => h9) rfl dX10_isBlack_1 ?_
  refine lv_iload_n hx hb dX10_isBlack_4 rfl (lv_at hl 1 rfl) ?_
  obtain ⟨h_1, hF⟩ := zgi hF
  refine va_iald hx hb hK hP 1 0 rfl rfl h_1 dX10_isBlack_5 ?_
  refine lv_iconst (v := 3) hx hb dX10_isBlack_6 (by decide) ?_
  refine lv_icmp_eq (tgt := 21) hx hb dX10_isBlack_7 (by decide) (fun c_2 => ?_) (fun c_2 => ?_)
  · have hF := zt c_2 hF
    refine lv_iconst (v := 1) hx hb dX10_isBlack_21 (by decide) ?_
    refine lv_goto (tgt := 26) hx hb dX10_isBlack_22 (by decide) ?_
    obtain rfl := Option.some.inj hF
    exact hret _ _ (zbool (Or.inr rfl)) dX10_isBlack_26
  · have hF := zf c_2 hF
    refine lv_aload_n hx hb dX10_isBlack_10 rfl (lv_at hl 0 rfl) ?_
    refine va_get (D := D) (ci := 7) (v := .ref (ad_M 1)) (C := RX10) (T := TX10) (N := 58) hx hb hts hin10 hown hK hP 0 rfl rfl 1 (by decide) (hts _ zm_25) (fun _ h9 => h9) rfl dX10_isBlack_11 ?_
    refine lv_iload_n hx hb dX10_isBlack_14 rfl (lv_at hl 1 rfl) ?_
    refine va_iald hx hb hK hP 1 0 rfl rfl h_1 dX10_isBlack_15 ?_
    refine lv_bipush (v := 6) hx hb dX10_isBlack_16 (by decide) ?_
    refine lv_icmp_ne (tgt := 25) hx hb dX10_isBlack_18 (by decide) (fun c_3 => ?_) (fun c_3 => ?_)
    · have hF := zf c_3 hF
      refine lv_iconst (v := 0) hx hb dX10_isBlack_25 (by decide) ?_
      obtain rfl := Option.some.inj hF
      exact hret _ _ (zbool (Or.inl rfl)) dX10_isBlack_26
    · have hF := zt c_3 hF
      refine lv_iconst (v := 1) hx hb dX10_isBlack_21 (by decide) ?_
      refine lv_goto (tgt := 26) hx hb dX10_isBlack_22 (by decide) ?_
      obtain rfl := Option.some.inj hF
      exact hret _ _ (zbool (Or.inr rfl)) dX10_isBlack_26
abbrev roX10_spare : Room := { frames := 0, cells := 0, slots := 0, locals := 0 }
set_option maxHeartbeats 4000000 in
set_option maxRecDepth 100000 in
theorem kX10_spare (l : Launch) (D : va_G) (ca : Nat → ClassId) (t : Nat → Nat) (ad_M : Nat → Nat) (M_guests : Int32) (M_kind : Nat → Int32) (M_figure : Nat → Int32) (M_told : Nat → Int32) (M_heaps : Int32) (M_holds : Int32) (M_back : Int32) (M_mistakes : Int32) (M_hooks : Int32) (M_letters : Int32) (M_rule : Nat → Int32) (M_at : Int32) (M_well : Int32) (M_sort : Int32) (M_text : Int32) (M_row : Int32) (M_field : Nat → Int32) (M_fields : Int32) (M_begins : Nat → Int32) (M_ruleLetters : Nat → Int32) (M_coming : Nat → Int32) (M_comingMany : Int32) (M_going : Nat → Int32) (M_goingMany : Int32) (M_minute : Nat → Int32) (M_pile : Nat → Int32) (M_high : Nat → Int32) (M_where : Nat → Int32) (M_latest : Int32) (M_lifts : Nat → Int32) (M_begun : Nat → Int32) (M_left : Nat → Int32) (M_has : Nat → Int32) (M_lifted : Nat → Int32) (M_taken : Nat → Int32) (M_above : Nat → Int32) (M_allLifts : Int32) (M_busy : Int32) (M_longest : Nat → Int32) (M_onto : Nat → Int32) (M_worst : Int32) (M_best : Int32) (M_orders : Int32) (M_together : Int32) (M_ofOne : Nat → Int32) (M_ofOther : Nat → Int32) (M_seed : Int32) (M_then : Nat → Int32) (M_was : Nat → Int32) (M_kept : Int32) (M_held : Nat → Int32) (M_kindOn : Nat → Int32) (M_figureOn : Nat → Int32) (M_sorts : Nat → Int32) (M_size : Nat → Int32) (M_items : Nat → Int32) (M_moved : Nat → Int32) (M_thrown : Int32) (p1 : Int32) (fuel : Nat) (o : Int32) (hF : fX10_spare fuel M_kind M_figure p1 = some o) : zRi l D (zT ca) t yX10_spare (.code yX10_spare cX10_spare 2 (some .int) :: zW) roX10_spare [.ref (ad_M 0), .int p1] (wX10_M ca ad_M M_guests M_kind M_figure M_told M_heaps M_holds M_back M_mistakes M_hooks M_letters M_rule M_at M_well M_sort M_text M_row M_field M_fields M_begins M_ruleLetters M_coming M_comingMany M_going M_goingMany M_minute M_pile M_high M_where M_latest M_lifts M_begun M_left M_has M_lifted M_taken M_above M_allLifts M_busy M_longest M_onto M_worst M_best M_orders M_together M_ofOne M_ofOther M_seed M_then M_was M_kept M_held M_kindOn M_figureOn M_sorts M_size M_items M_moved M_thrown) o := by
  refine zRi_of (cc := cX10_spare) (maxL := 2) (by decide) rfl (Nat.le_of_ble_eq_true rfl) ?_
  intro p e s m args below meth c A Q ls ⟨hx, hb, hml, hown, hts, hA, hK, hZ, hS⟩ hret hP hD hl
  have hts := fun w h => hts w (List.mem_cons_of_mem _ h)
  have hown : s.vm.findClass RX10 = some m.cls := hown
  have hl : lv_has ls 2 [(0, .ref (ad_M 0)), (1, .int p1)] := hl
  have hin10 := zin_X10
  unfold fX10_spare at hF
  refine lv_aload_n hx hb dX10_spare_0 rfl (lv_at hl 0 rfl) ?_
  refine va_get (D := D) (ci := 7) (v := .ref (ad_M 1)) (C := RX10) (T := TX10) (N := 58) hx hb hts hin10 hown hK hP 0 rfl rfl 1 (by decide) (hts _ zm_25) (fun _ h9 => h9) rfl dX10_spare_1 ?_
  refine lv_iload_n hx hb dX10_spare_4 rfl (lv_at hl 1 rfl) ?_
  obtain ⟨h_1, hF⟩ := zgi hF
  refine va_iald hx hb hK hP 1 0 rfl rfl h_1 dX10_spare_5 ?_
  refine lv_bipush (v := 6) hx hb dX10_spare_6 (by decide) ?_
  refine lv_icmp_ne (tgt := 20) hx hb dX10_spare_8 (by decide) (fun c_2 => ?_) (fun c_2 => ?_)
  · have hF := zf c_2 hF
    refine lv_bipush (v := 99) hx hb dX10_spare_20 (by decide) ?_
    obtain rfl := Option.some.inj hF
    exact hret _ _ rfl dX10_spare_22
  · have hF := zt c_2 hF
    refine lv_aload_n hx hb dX10_spare_11 rfl (lv_at hl 0 rfl) ?_
    refine va_get (D := D) (ci := 7) (v := .ref (ad_M 2)) (C := RX10) (T := TX10) (N := 58) hx hb hts hin10 hown hK hP 0 rfl rfl 2 (by decide) (hts _ zm_26) (fun _ h9 => h9) rfl dX10_spare_12 ?_
    refine lv_iload_n hx hb dX10_spare_15 rfl (lv_at hl 1 rfl) ?_
    refine va_iald hx hb hK hP 2 0 rfl rfl h_1 dX10_spare_16 ?_
    refine lv_goto (tgt := 22) hx hb dX10_spare_17 (by decide) ?_
    obtain rfl := Option.some.inj hF
    exact hret _ _ rfl dX10_spare_22
abbrev roX10_hangs : Room := { frames := 0, cells := 0, slots := 0, locals := 0 }
set_option maxHeartbeats 4000000 in
set_option maxRecDepth 100000 in
theorem kX10_hangs (l : Launch) (D : va_G) (ca : Nat → ClassId) (t : Nat → Nat) (ad_M : Nat → Nat) (M_guests : Int32) (M_kind : Nat → Int32) (M_figure : Nat → Int32) (M_told : Nat → Int32) (M_heaps : Int32) (M_holds : Int32) (M_back : Int32) (M_mistakes : Int32) (M_hooks : Int32) (M_letters : Int32) (M_rule : Nat → Int32) (M_at : Int32) (M_well : Int32) (M_sort : Int32) (M_text : Int32) (M_row : Int32) (M_field : Nat → Int32) (M_fields : Int32) (M_begins : Nat → Int32) (M_ruleLetters : Nat → Int32) (M_coming : Nat → Int32) (M_comingMany : Int32) (M_going : Nat → Int32) (M_goingMany : Int32) (M_minute : Nat → Int32) (M_pile : Nat → Int32) (M_high : Nat → Int32) (M_where : Nat → Int32) (M_latest : Int32) (M_lifts : Nat → Int32) (M_begun : Nat → Int32) (M_left : Nat → Int32) (M_has : Nat → Int32) (M_lifted : Nat → Int32) (M_taken : Nat → Int32) (M_above : Nat → Int32) (M_allLifts : Int32) (M_busy : Int32) (M_longest : Nat → Int32) (M_onto : Nat → Int32) (M_worst : Int32) (M_best : Int32) (M_orders : Int32) (M_together : Int32) (M_ofOne : Nat → Int32) (M_ofOther : Nat → Int32) (M_seed : Int32) (M_then : Nat → Int32) (M_was : Nat → Int32) (M_kept : Int32) (M_held : Nat → Int32) (M_kindOn : Nat → Int32) (M_figureOn : Nat → Int32) (M_sorts : Nat → Int32) (M_size : Nat → Int32) (M_items : Nat → Int32) (M_moved : Nat → Int32) (M_thrown : Int32) (p1 : Int32) (fuel : Nat) (o : Int32) (hF : fX10_hangs fuel M_hooks p1 = some o) : zRi l D (zT ca) t yX10_hangs (.code yX10_hangs cX10_hangs 2 (some .boolean) :: zW) roX10_hangs [.ref (ad_M 0), .int p1] (wX10_M ca ad_M M_guests M_kind M_figure M_told M_heaps M_holds M_back M_mistakes M_hooks M_letters M_rule M_at M_well M_sort M_text M_row M_field M_fields M_begins M_ruleLetters M_coming M_comingMany M_going M_goingMany M_minute M_pile M_high M_where M_latest M_lifts M_begun M_left M_has M_lifted M_taken M_above M_allLifts M_busy M_longest M_onto M_worst M_best M_orders M_together M_ofOne M_ofOther M_seed M_then M_was M_kept M_held M_kindOn M_figureOn M_sorts M_size M_items M_moved M_thrown) o := by
  refine zRi_of (cc := cX10_hangs) (maxL := 2) (by decide) rfl (Nat.le_of_ble_eq_true rfl) ?_
  intro p e s m args below meth c A Q ls ⟨hx, hb, hml, hown, hts, hA, hK, hZ, hS⟩ hret hP hD hl
  have hts := fun w h => hts w (List.mem_cons_of_mem _ h)
  have hown : s.vm.findClass RX10 = some m.cls := hown
  have hl : lv_has ls 2 [(0, .ref (ad_M 0)), (1, .int p1)] := hl
  have hin10 := zin_X10
  unfold fX10_hangs at hF
  refine lv_aload_n hx hb dX10_hangs_0 rfl (lv_at hl 0 rfl) ?_
  refine va_get (D := D) (ci := 7) (v := .int M_hooks) (C := RX10) (T := TX10) (N := 58) hx hb hts hin10 hown hK hP 0 rfl rfl 8 (by decide) (hts _ zm_30) (fun _ h9 => h9) rfl dX10_hangs_1 ?_
  refine lv_iload_n hx hb dX10_hangs_4 rfl (lv_at hl 1 rfl) ?_
  refine lv_ishr hx hb dX10_hangs_5 ?_
  refine lv_iconst (v := 1) hx hb dX10_hangs_6 (by decide) ?_
  refine lv_iand hx hb dX10_hangs_7 ?_
  refine lv_iconst (v := 1) hx hb dX10_hangs_8 (by decide) ?_
  refine lv_icmp_ne (tgt := 16) hx hb dX10_hangs_9 (by decide) (fun c_1 => ?_) (fun c_1 => ?_)
  · have hF := zf c_1 hF
    refine lv_iconst (v := 0) hx hb dX10_hangs_16 (by decide) ?_
    obtain rfl := Option.some.inj hF
    exact hret _ _ (zbool (Or.inl rfl)) dX10_hangs_17
  · have hF := zt c_1 hF
    refine lv_iconst (v := 1) hx hb dX10_hangs_12 (by decide) ?_
    refine lv_goto (tgt := 17) hx hb dX10_hangs_13 (by decide) ?_
    obtain rfl := Option.some.inj hF
    exact hret _ _ (zbool (Or.inr rfl)) dX10_hangs_17
abbrev roX10_bits : Room := { frames := 0, cells := 0, slots := 0, locals := 0 }
set_option maxHeartbeats 4000000 in
set_option maxRecDepth 100000 in
theorem kX10_bits (l : Launch) (D : va_G) (ca : Nat → ClassId) (t : Nat → Nat) (p0 : Int32) (fuel : Nat) (o : Int32) (hF : fX10_bits fuel p0 = some o) : zRi l D (zT ca) t yX10_bits (.code yX10_bits cX10_bits 3 (some .int) :: zW) roX10_bits [.int p0] [] o := by
  refine zRi_of (cc := cX10_bits) (maxL := 3) (by decide) rfl (Nat.le_of_ble_eq_true rfl) ?_
  intro p e s m args below meth c A Q ls ⟨hx, hb, hml, hown, hts, hA, hK, hZ, hS⟩ hret hP hD hl
  have hts := fun w h => hts w (List.mem_cons_of_mem _ h)
  have hown : s.vm.findClass RX10 = some m.cls := hown
  have hl : lv_has ls 3 [(0, .int p0)] := hl
  have l4 : ∀ (n4 : Nat) (v1 : Int32) (v2 : Int32), fX10_bits_L4 p0 n4 v1 v2 = some o → ∀ ls : Array Slot, lv_has ls 3 [(0, .int p0), (1, .int v1), (2, .int v2)] → W p l e roX10_bits s m args below meth c s.heap [] 0 0 Q (F0 m 4 ls []) := by
    intro n4
    induction n4 with
    | zero =>
      intro v1 v2 hF
      rw [fX10_bits_L4] at hF
      cases hF
    | succ n4 ih4 =>
      intro v1 v2 hF ls hl
      rw [fX10_bits_L4] at hF
      refine lv_iload_n hx hb dX10_bits_4 rfl (lv_at hl 2 rfl) ?_
      refine lv_bipush (v := 10) hx hb dX10_bits_5 (by decide) ?_
      refine lv_icmp_ge (tgt := 24) hx hb dX10_bits_7 (by decide) (fun c_1 => ?_) (fun c_1 => ?_)
      · have hF := zt c_1 hF
        refine lv_iload_n hx hb dX10_bits_24 rfl (lv_at hl 1 rfl) ?_
        obtain rfl := Option.some.inj hF
        exact hret _ _ rfl dX10_bits_25
      · have hF := zf c_1 hF
        refine lv_iload_n hx hb dX10_bits_10 rfl (lv_at hl 1 rfl) ?_
        refine lv_iload_n hx hb dX10_bits_11 rfl (lv_at hl 0 rfl) ?_
        refine lv_iload_n hx hb dX10_bits_12 rfl (lv_at hl 2 rfl) ?_
        refine lv_ishr hx hb dX10_bits_13 ?_
        refine lv_iconst (v := 1) hx hb dX10_bits_14 (by decide) ?_
        refine lv_iand hx hb dX10_bits_15 ?_
        refine lv_iadd hx hb dX10_bits_16 ?_
        refine z_let hF (fun v1_2 hF => ?_)
        refine lv_istore_n (lv' := [(1, .int v1_2), (0, .int p0), (2, .int v2)]) hx hb dX10_bits_17 rfl hl (by decide) rfl (fun ls hl => ?_)
        refine z_iinc (kv := 1) hx hb 2 dX10_bits_18 hl rfl (by decide) (by decide) (fun g => [(2, .int g), (1, .int v1_2), (0, .int p0)]) (fun _ => rfl) hF (fun v2_3 ls hF hl => ?_)
        refine lv_goto (tgt := 4) hx hb dX10_bits_21 (by decide) ?_
        exact ih4 v1_2 v2_3 hF ls (lv_sub hl [2, 1, 0] rfl)
  unfold fX10_bits at hF
  refine lv_iconst (v := 0) hx hb dX10_bits_0 (by decide) ?_
  refine lv_istore_n (lv' := [(1, .int 0), (0, .int p0)]) hx hb dX10_bits_1 rfl hl (by decide) rfl (fun ls hl => ?_)
  refine lv_iconst (v := 0) hx hb dX10_bits_2 (by decide) ?_
  refine lv_istore_n (lv' := [(2, .int 0), (1, .int 0), (0, .int p0)]) hx hb dX10_bits_3 rfl hl (by decide) rfl (fun ls hl => ?_)
  exact l4 fuel 0 0 hF ls (lv_sub hl [2, 1, 0] rfl)
abbrev roX10_guestIs : Room := { frames := 0, cells := 0, slots := 0, locals := 0 }
set_option maxHeartbeats 4000000 in
set_option maxRecDepth 100000 in
theorem kX10_guestIs (l : Launch) (D : va_G) (ca : Nat → ClassId) (t : Nat → Nat) (ad_M : Nat → Nat) (M_guests : Int32) (M_kind : Nat → Int32) (M_figure : Nat → Int32) (M_told : Nat → Int32) (M_heaps : Int32) (M_holds : Int32) (M_back : Int32) (M_mistakes : Int32) (M_hooks : Int32) (M_letters : Int32) (M_rule : Nat → Int32) (M_at : Int32) (M_well : Int32) (M_sort : Int32) (M_text : Int32) (M_row : Int32) (M_field : Nat → Int32) (M_fields : Int32) (M_begins : Nat → Int32) (M_ruleLetters : Nat → Int32) (M_coming : Nat → Int32) (M_comingMany : Int32) (M_going : Nat → Int32) (M_goingMany : Int32) (M_minute : Nat → Int32) (M_pile : Nat → Int32) (M_high : Nat → Int32) (M_where : Nat → Int32) (M_latest : Int32) (M_lifts : Nat → Int32) (M_begun : Nat → Int32) (M_left : Nat → Int32) (M_has : Nat → Int32) (M_lifted : Nat → Int32) (M_taken : Nat → Int32) (M_above : Nat → Int32) (M_allLifts : Int32) (M_busy : Int32) (M_longest : Nat → Int32) (M_onto : Nat → Int32) (M_worst : Int32) (M_best : Int32) (M_orders : Int32) (M_together : Int32) (M_ofOne : Nat → Int32) (M_ofOther : Nat → Int32) (M_seed : Int32) (M_then : Nat → Int32) (M_was : Nat → Int32) (M_kept : Int32) (M_held : Nat → Int32) (M_kindOn : Nat → Int32) (M_figureOn : Nat → Int32) (M_sorts : Nat → Int32) (M_size : Nat → Int32) (M_items : Nat → Int32) (M_moved : Nat → Int32) (M_thrown : Int32) (p1 : Int32) (p2 : Int32) (p3 : Int32) (fuel : Nat) (o : Int32 × Int32 × (Nat → Int32) × (Nat → Int32) × (Nat → Int32)) (hF : fX10_guestIs fuel M_guests M_kind M_figure M_told p1 p2 p3 = some o) : zMi l D (zT ca) t yX10_guestIs (.code yX10_guestIs cX10_guestIs 4 (some .int) :: zW) roX10_guestIs [.ref (ad_M 0), .int p1, .int p2, .int p3] (wX10_M ca ad_M M_guests M_kind M_figure M_told M_heaps M_holds M_back M_mistakes M_hooks M_letters M_rule M_at M_well M_sort M_text M_row M_field M_fields M_begins M_ruleLetters M_coming M_comingMany M_going M_goingMany M_minute M_pile M_high M_where M_latest M_lifts M_begun M_left M_has M_lifted M_taken M_above M_allLifts M_busy M_longest M_onto M_worst M_best M_orders M_together M_ofOne M_ofOther M_seed M_then M_was M_kept M_held M_kindOn M_figureOn M_sorts M_size M_items M_moved M_thrown) (wX10_M ca ad_M o.2.1 o.2.2.1 o.2.2.2.1 o.2.2.2.2 M_heaps M_holds M_back M_mistakes M_hooks M_letters M_rule M_at M_well M_sort M_text M_row M_field M_fields M_begins M_ruleLetters M_coming M_comingMany M_going M_goingMany M_minute M_pile M_high M_where M_latest M_lifts M_begun M_left M_has M_lifted M_taken M_above M_allLifts M_busy M_longest M_onto M_worst M_best M_orders M_together M_ofOne M_ofOther M_seed M_then M_was M_kept M_held M_kindOn M_figureOn M_sorts M_size M_items M_moved M_thrown) o.1 := by
  refine zMi_of (cc := cX10_guestIs) (maxL := 4) (by decide) rfl (Nat.le_of_ble_eq_true rfl) ?_
  intro p e s m args below meth c A Q ls ⟨hx, hb, hml, hown, hts, hA, hK, hZ, hS⟩ hret hP hD hl
  have hts := fun w h => hts w (List.mem_cons_of_mem _ h)
  have hown : s.vm.findClass RX10 = some m.cls := hown
  have hl : lv_has ls 4 [(0, .ref (ad_M 0)), (1, .int p1), (2, .int p2), (3, .int p3)] := hl
  have hin10 := zin_X10
  unfold fX10_guestIs at hF
  refine lv_aload_n hx hb dX10_guestIs_0 rfl (lv_at hl 0 rfl) ?_
  refine va_get (D := D) (ci := 7) (v := .ref (ad_M 1)) (C := RX10) (T := TX10) (N := 58) hx hb hts hin10 hown hK hP 0 rfl rfl 1 (by decide) (hts _ zm_25) (fun _ h9 => h9) rfl dX10_guestIs_1 ?_
  refine lv_aload_n hx hb dX10_guestIs_4 rfl (lv_at hl 0 rfl) ?_
  refine va_get (D := D) (ci := 7) (v := .int M_guests) (C := RX10) (T := TX10) (N := 58) hx hb hts hin10 hown hK hP 0 rfl rfl 0 (by decide) (hts _ zm_16) (fun _ h9 => h9) rfl dX10_guestIs_5 ?_
  refine lv_iload_n hx hb dX10_guestIs_8 rfl (lv_at hl 1 rfl) ?_
  obtain ⟨h_1, hF⟩ := zgi hF
  refine z_iast hx hb hK hP hD hS 1 0 rfl rfl h_1 dX10_guestIs_9 (fun g => (wX10_M ca ad_M M_guests g M_figure M_told M_heaps M_holds M_back M_mistakes M_hooks M_letters M_rule M_at M_well M_sort M_text M_row M_field M_fields M_begins M_ruleLetters M_coming M_comingMany M_going M_goingMany M_minute M_pile M_high M_where M_latest M_lifts M_begun M_left M_has M_lifted M_taken M_above M_allLifts M_busy M_longest M_onto M_worst M_best M_orders M_together M_ofOne M_ofOther M_seed M_then M_was M_kept M_held M_kindOn M_figureOn M_sorts M_size M_items M_moved M_thrown)) (fun _ => rfl) hF (fun M_kind_2 H locs hF hP hD hS => ?_)
  refine lv_aload_n hx hb dX10_guestIs_10 rfl (lv_at hl 0 rfl) ?_
  refine va_get (D := D) (ci := 7) (v := .ref (ad_M 2)) (C := RX10) (T := TX10) (N := 58) hx hb hts hin10 hown hK hP 0 rfl rfl 2 (by decide) (hts _ zm_26) (fun _ h9 => h9) rfl dX10_guestIs_11 ?_
  refine lv_aload_n hx hb dX10_guestIs_14 rfl (lv_at hl 0 rfl) ?_
  refine va_get (D := D) (ci := 7) (v := .int M_guests) (C := RX10) (T := TX10) (N := 58) hx hb hts hin10 hown hK hP 0 rfl rfl 0 (by decide) (hts _ zm_16) (fun _ h9 => h9) rfl dX10_guestIs_15 ?_
  refine lv_iload_n hx hb dX10_guestIs_18 rfl (lv_at hl 2 rfl) ?_
  refine z_iast hx hb hK hP hD hS 2 0 rfl rfl h_1 dX10_guestIs_19 (fun g => (wX10_M ca ad_M M_guests M_kind_2 g M_told M_heaps M_holds M_back M_mistakes M_hooks M_letters M_rule M_at M_well M_sort M_text M_row M_field M_fields M_begins M_ruleLetters M_coming M_comingMany M_going M_goingMany M_minute M_pile M_high M_where M_latest M_lifts M_begun M_left M_has M_lifted M_taken M_above M_allLifts M_busy M_longest M_onto M_worst M_best M_orders M_together M_ofOne M_ofOther M_seed M_then M_was M_kept M_held M_kindOn M_figureOn M_sorts M_size M_items M_moved M_thrown)) (fun _ => rfl) hF (fun M_figure_3 H locs hF hP hD hS => ?_)
  refine lv_aload_n hx hb dX10_guestIs_20 rfl (lv_at hl 0 rfl) ?_
  refine va_get (D := D) (ci := 7) (v := .ref (ad_M 3)) (C := RX10) (T := TX10) (N := 58) hx hb hts hin10 hown hK hP 0 rfl rfl 3 (by decide) (hts _ zm_31) (fun _ h9 => h9) rfl dX10_guestIs_21 ?_
  refine lv_aload_n hx hb dX10_guestIs_24 rfl (lv_at hl 0 rfl) ?_
  refine va_get (D := D) (ci := 7) (v := .int M_guests) (C := RX10) (T := TX10) (N := 58) hx hb hts hin10 hown hK hP 0 rfl rfl 0 (by decide) (hts _ zm_16) (fun _ h9 => h9) rfl dX10_guestIs_25 ?_
  refine lv_iload_n hx hb dX10_guestIs_28 rfl (lv_at hl 3 rfl) ?_
  refine z_iast hx hb hK hP hD hS 3 0 rfl rfl h_1 dX10_guestIs_29 (fun g => (wX10_M ca ad_M M_guests M_kind_2 M_figure_3 g M_heaps M_holds M_back M_mistakes M_hooks M_letters M_rule M_at M_well M_sort M_text M_row M_field M_fields M_begins M_ruleLetters M_coming M_comingMany M_going M_goingMany M_minute M_pile M_high M_where M_latest M_lifts M_begun M_left M_has M_lifted M_taken M_above M_allLifts M_busy M_longest M_onto M_worst M_best M_orders M_together M_ofOne M_ofOther M_seed M_then M_was M_kept M_held M_kindOn M_figureOn M_sorts M_size M_items M_moved M_thrown)) (fun _ => rfl) hF (fun M_told_4 H locs hF hP hD hS => ?_)
  refine lv_aload_n hx hb dX10_guestIs_30 rfl (lv_at hl 0 rfl) ?_
  refine lv_dup hx hb dX10_guestIs_31 rfl ?_
  refine va_get (D := D) (ci := 7) (v := .int M_guests) (C := RX10) (T := TX10) (N := 58) hx hb hts hin10 hown hK hP 0 rfl rfl 0 (by decide) (hts _ zm_16) (fun _ h9 => h9) rfl dX10_guestIs_32 ?_
  refine lv_iconst (v := 1) hx hb dX10_guestIs_35 (by decide) ?_
  refine lv_iadd hx hb dX10_guestIs_36 ?_
  refine z_let hF (fun guests_5 hF => ?_)
  refine va_put (D := D) (ci := 7) (v := .int guests_5) (C := RX10) (T := TX10) (N := 58) hx hb hts hin10 tyX10 tyX10_ok nmX10 hown hK hP hD hS 0 rfl rfl 0 (by decide) (hts _ zm_16) (fun _ h9 => h9) rfl (tyX10_ok 0 (by decide)) rfl rfl (Nat.le_of_ble_eq_true rfl) dX10_guestIs_37 (fun H locs hP hD hS => ?_)
  have hP : va_P D vwCl (wX10_M ca ad_M guests_5 M_kind_2 M_figure_3 M_told_4 M_heaps M_holds M_back M_mistakes M_hooks M_letters M_rule M_at M_well M_sort M_text M_row M_field M_fields M_begins M_ruleLetters M_coming M_comingMany M_going M_goingMany M_minute M_pile M_high M_where M_latest M_lifts M_begun M_left M_has M_lifted M_taken M_above M_allLifts M_busy M_longest M_onto M_worst M_best M_orders M_together M_ofOne M_ofOther M_seed M_then M_was M_kept M_held M_kindOn M_figureOn M_sorts M_size M_items M_moved M_thrown) H := hP
  have hD : va_D A (wX10_M ca ad_M guests_5 M_kind_2 M_figure_3 M_told_4 M_heaps M_holds M_back M_mistakes M_hooks M_letters M_rule M_at M_well M_sort M_text M_row M_field M_fields M_begins M_ruleLetters M_coming M_comingMany M_going M_goingMany M_minute M_pile M_high M_where M_latest M_lifts M_begun M_left M_has M_lifted M_taken M_above M_allLifts M_busy M_longest M_onto M_worst M_best M_orders M_together M_ofOne M_ofOther M_seed M_then M_was M_kept M_held M_kindOn M_figureOn M_sorts M_size M_items M_moved M_thrown) := hD
  refine lv_aload_n hx hb dX10_guestIs_40 rfl (lv_at hl 0 rfl) ?_
  refine va_get (D := D) (ci := 7) (v := .int guests_5) (C := RX10) (T := TX10) (N := 58) hx hb hts hin10 hown hK hP 0 rfl rfl 0 (by decide) (hts _ zm_16) (fun _ h9 => h9) rfl dX10_guestIs_41 ?_
  refine lv_iconst (v := 1) hx hb dX10_guestIs_44 (by decide) ?_
  refine lv_isub hx hb dX10_guestIs_45 ?_
  obtain rfl := Option.some.inj hF
  exact hret _ _ _ _ hP hD hS rfl dX10_guestIs_46
abbrev roX10_turnHook : Room := { frames := 0, cells := 0, slots := 0, locals := 0 }
set_option maxHeartbeats 4000000 in
set_option maxRecDepth 100000 in
theorem kX10_turnHook (l : Launch) (D : va_G) (ca : Nat → ClassId) (t : Nat → Nat) (ad_M : Nat → Nat) (M_guests : Int32) (M_kind : Nat → Int32) (M_figure : Nat → Int32) (M_told : Nat → Int32) (M_heaps : Int32) (M_holds : Int32) (M_back : Int32) (M_mistakes : Int32) (M_hooks : Int32) (M_letters : Int32) (M_rule : Nat → Int32) (M_at : Int32) (M_well : Int32) (M_sort : Int32) (M_text : Int32) (M_row : Int32) (M_field : Nat → Int32) (M_fields : Int32) (M_begins : Nat → Int32) (M_ruleLetters : Nat → Int32) (M_coming : Nat → Int32) (M_comingMany : Int32) (M_going : Nat → Int32) (M_goingMany : Int32) (M_minute : Nat → Int32) (M_pile : Nat → Int32) (M_high : Nat → Int32) (M_where : Nat → Int32) (M_latest : Int32) (M_lifts : Nat → Int32) (M_begun : Nat → Int32) (M_left : Nat → Int32) (M_has : Nat → Int32) (M_lifted : Nat → Int32) (M_taken : Nat → Int32) (M_above : Nat → Int32) (M_allLifts : Int32) (M_busy : Int32) (M_longest : Nat → Int32) (M_onto : Nat → Int32) (M_worst : Int32) (M_best : Int32) (M_orders : Int32) (M_together : Int32) (M_ofOne : Nat → Int32) (M_ofOther : Nat → Int32) (M_seed : Int32) (M_then : Nat → Int32) (M_was : Nat → Int32) (M_kept : Int32) (M_held : Nat → Int32) (M_kindOn : Nat → Int32) (M_figureOn : Nat → Int32) (M_sorts : Nat → Int32) (M_size : Nat → Int32) (M_items : Nat → Int32) (M_moved : Nat → Int32) (M_thrown : Int32) (p1 : Int32) (fuel : Nat) (o : Int32 × Int32) (hF : fX10_turnHook fuel M_hooks p1 = some o) : zMi l D (zT ca) t yX10_turnHook (.code yX10_turnHook cX10_turnHook 2 (some .int) :: zW) roX10_turnHook [.ref (ad_M 0), .int p1] (wX10_M ca ad_M M_guests M_kind M_figure M_told M_heaps M_holds M_back M_mistakes M_hooks M_letters M_rule M_at M_well M_sort M_text M_row M_field M_fields M_begins M_ruleLetters M_coming M_comingMany M_going M_goingMany M_minute M_pile M_high M_where M_latest M_lifts M_begun M_left M_has M_lifted M_taken M_above M_allLifts M_busy M_longest M_onto M_worst M_best M_orders M_together M_ofOne M_ofOther M_seed M_then M_was M_kept M_held M_kindOn M_figureOn M_sorts M_size M_items M_moved M_thrown) (wX10_M ca ad_M M_guests M_kind M_figure M_told M_heaps M_holds M_back M_mistakes o.2 M_letters M_rule M_at M_well M_sort M_text M_row M_field M_fields M_begins M_ruleLetters M_coming M_comingMany M_going M_goingMany M_minute M_pile M_high M_where M_latest M_lifts M_begun M_left M_has M_lifted M_taken M_above M_allLifts M_busy M_longest M_onto M_worst M_best M_orders M_together M_ofOne M_ofOther M_seed M_then M_was M_kept M_held M_kindOn M_figureOn M_sorts M_size M_items M_moved M_thrown) o.1 := by
  refine zMi_of (cc := cX10_turnHook) (maxL := 2) (by decide) rfl (Nat.le_of_ble_eq_true rfl) ?_
  intro p e s m args below meth c A Q ls ⟨hx, hb, hml, hown, hts, hA, hK, hZ, hS⟩ hret hP hD hl
  have hts := fun w h => hts w (List.mem_cons_of_mem _ h)
  have hown : s.vm.findClass RX10 = some m.cls := hown
  have hl : lv_has ls 2 [(0, .ref (ad_M 0)), (1, .int p1)] := hl
  have hin10 := zin_X10
  unfold fX10_turnHook at hF
  refine lv_aload_n hx hb dX10_turnHook_0 rfl (lv_at hl 0 rfl) ?_
  refine lv_dup hx hb dX10_turnHook_1 rfl ?_
  refine va_get (D := D) (ci := 7) (v := .int M_hooks) (C := RX10) (T := TX10) (N := 58) hx hb hts hin10 hown hK hP 0 rfl rfl 8 (by decide) (hts _ zm_30) (fun _ h9 => h9) rfl dX10_turnHook_2 ?_
  refine lv_iconst (v := 1) hx hb dX10_turnHook_5 (by decide) ?_
  refine lv_iload_n hx hb dX10_turnHook_6 rfl (lv_at hl 1 rfl) ?_
  refine lv_ishl hx hb dX10_turnHook_7 ?_
  refine lv_ixor hx hb dX10_turnHook_8 ?_
  refine z_let hF (fun hooks_1 hF => ?_)
  refine va_put (D := D) (ci := 7) (v := .int hooks_1) (C := RX10) (T := TX10) (N := 58) hx hb hts hin10 tyX10 tyX10_ok nmX10 hown hK hP hD hS 0 rfl rfl 8 (by decide) (hts _ zm_30) (fun _ h9 => h9) rfl (tyX10_ok 8 (by decide)) rfl rfl (Nat.le_of_ble_eq_true rfl) dX10_turnHook_9 (fun H locs hP hD hS => ?_)
  have hP : va_P D vwCl (wX10_M ca ad_M M_guests M_kind M_figure M_told M_heaps M_holds M_back M_mistakes hooks_1 M_letters M_rule M_at M_well M_sort M_text M_row M_field M_fields M_begins M_ruleLetters M_coming M_comingMany M_going M_goingMany M_minute M_pile M_high M_where M_latest M_lifts M_begun M_left M_has M_lifted M_taken M_above M_allLifts M_busy M_longest M_onto M_worst M_best M_orders M_together M_ofOne M_ofOther M_seed M_then M_was M_kept M_held M_kindOn M_figureOn M_sorts M_size M_items M_moved M_thrown) H := hP
  have hD : va_D A (wX10_M ca ad_M M_guests M_kind M_figure M_told M_heaps M_holds M_back M_mistakes hooks_1 M_letters M_rule M_at M_well M_sort M_text M_row M_field M_fields M_begins M_ruleLetters M_coming M_comingMany M_going M_goingMany M_minute M_pile M_high M_where M_latest M_lifts M_begun M_left M_has M_lifted M_taken M_above M_allLifts M_busy M_longest M_onto M_worst M_best M_orders M_together M_ofOne M_ofOther M_seed M_then M_was M_kept M_held M_kindOn M_figureOn M_sorts M_size M_items M_moved M_thrown) := hD
  refine lv_aload_n hx hb dX10_turnHook_12 rfl (lv_at hl 0 rfl) ?_
  refine va_get (D := D) (ci := 7) (v := .int hooks_1) (C := RX10) (T := TX10) (N := 58) hx hb hts hin10 hown hK hP 0 rfl rfl 8 (by decide) (hts _ zm_30) (fun _ h9 => h9) rfl dX10_turnHook_13 ?_
  refine lv_iload_n hx hb dX10_turnHook_16 rfl (lv_at hl 1 rfl) ?_
  refine lv_ishr hx hb dX10_turnHook_17 ?_
  refine lv_iconst (v := 1) hx hb dX10_turnHook_18 (by decide) ?_
  refine lv_iand hx hb dX10_turnHook_19 ?_
  obtain rfl := Option.some.inj hF
  exact hret _ _ _ _ hP hD hS rfl dX10_turnHook_20
abbrev roX10_byteAt : Room := { frames := 0, cells := 0, slots := 0, locals := 0 }
set_option maxHeartbeats 4000000 in
set_option maxRecDepth 100000 in
theorem kX10_byteAt (l : Launch) (D : va_G) (ca : Nat → ClassId) (t : Nat → Nat) (ad_M : Nat → Nat) (M_guests : Int32) (M_kind : Nat → Int32) (M_figure : Nat → Int32) (M_told : Nat → Int32) (M_heaps : Int32) (M_holds : Int32) (M_back : Int32) (M_mistakes : Int32) (M_hooks : Int32) (M_letters : Int32) (M_rule : Nat → Int32) (M_at : Int32) (M_well : Int32) (M_sort : Int32) (M_text : Int32) (M_row : Int32) (M_field : Nat → Int32) (M_fields : Int32) (M_begins : Nat → Int32) (M_ruleLetters : Nat → Int32) (M_coming : Nat → Int32) (M_comingMany : Int32) (M_going : Nat → Int32) (M_goingMany : Int32) (M_minute : Nat → Int32) (M_pile : Nat → Int32) (M_high : Nat → Int32) (M_where : Nat → Int32) (M_latest : Int32) (M_lifts : Nat → Int32) (M_begun : Nat → Int32) (M_left : Nat → Int32) (M_has : Nat → Int32) (M_lifted : Nat → Int32) (M_taken : Nat → Int32) (M_above : Nat → Int32) (M_allLifts : Int32) (M_busy : Int32) (M_longest : Nat → Int32) (M_onto : Nat → Int32) (M_worst : Int32) (M_best : Int32) (M_orders : Int32) (M_together : Int32) (M_ofOne : Nat → Int32) (M_ofOther : Nat → Int32) (M_seed : Int32) (M_then : Nat → Int32) (M_was : Nat → Int32) (M_kept : Int32) (M_held : Nat → Int32) (M_kindOn : Nat → Int32) (M_figureOn : Nat → Int32) (M_sorts : Nat → Int32) (M_size : Nat → Int32) (M_items : Nat → Int32) (M_moved : Nat → Int32) (M_thrown : Int32) (fuel : Nat) (o : Int32) (hF : fX10_byteAt fuel M_at M_text M_row M_items = some o) : zRi l D (zT ca) t yX10_byteAt (.code yX10_byteAt cX10_byteAt 1 (some .int) :: zW) roX10_byteAt [.ref (ad_M 0)] (wX10_M ca ad_M M_guests M_kind M_figure M_told M_heaps M_holds M_back M_mistakes M_hooks M_letters M_rule M_at M_well M_sort M_text M_row M_field M_fields M_begins M_ruleLetters M_coming M_comingMany M_going M_goingMany M_minute M_pile M_high M_where M_latest M_lifts M_begun M_left M_has M_lifted M_taken M_above M_allLifts M_busy M_longest M_onto M_worst M_best M_orders M_together M_ofOne M_ofOther M_seed M_then M_was M_kept M_held M_kindOn M_figureOn M_sorts M_size M_items M_moved M_thrown) o := by
  refine zRi_of (cc := cX10_byteAt) (maxL := 1) (by decide) rfl (Nat.le_of_ble_eq_true rfl) ?_
  intro p e s m args below meth c A Q ls ⟨hx, hb, hml, hown, hts, hA, hK, hZ, hS⟩ hret hP hD hl
  have hts := fun w h => hts w (List.mem_cons_of_mem _ h)
  have hown : s.vm.findClass RX10 = some m.cls := hown
  have hl : lv_has ls 1 [(0, .ref (ad_M 0))] := hl
  have hin10 := zin_X10
  unfold fX10_byteAt at hF
  refine lv_aload_n hx hb dX10_byteAt_0 rfl (lv_at hl 0 rfl) ?_
  refine va_get (D := D) (ci := 7) (v := .int M_at) (C := RX10) (T := TX10) (N := 58) hx hb hts hin10 hown hK hP 0 rfl rfl 11 (by decide) (hts _ zm_32) (fun _ h9 => h9) rfl dX10_byteAt_1 ?_
  refine lv_aload_n hx hb dX10_byteAt_4 rfl (lv_at hl 0 rfl) ?_
  refine va_get (D := D) (ci := 7) (v := .int M_text) (C := RX10) (T := TX10) (N := 58) hx hb hts hin10 hown hK hP 0 rfl rfl 14 (by decide) (hts _ zm_33) (fun _ h9 => h9) rfl dX10_byteAt_5 ?_
  refine lv_icmp_ge (tgt := 31) hx hb dX10_byteAt_8 (by decide) (fun c_1 => ?_) (fun c_1 => ?_)
  · have hF := zt c_1 hF
    refine lv_iconst (v := (-1)) hx hb dX10_byteAt_31 (by decide) ?_
    obtain rfl := Option.some.inj hF
    exact hret _ _ rfl dX10_byteAt_32
  · have hF := zf c_1 hF
    refine lv_aload_n hx hb dX10_byteAt_11 rfl (lv_at hl 0 rfl) ?_
    refine va_get (D := D) (ci := 7) (v := .ref (ad_M 32)) (C := RX10) (T := TX10) (N := 58) hx hb hts hin10 hown hK hP 0 rfl rfl 55 (by decide) (hts _ zm_34) (fun _ h9 => h9) rfl dX10_byteAt_12 ?_
    refine lv_bipush (v := 100) hx hb dX10_byteAt_15 (by decide) ?_
    refine lv_aload_n hx hb dX10_byteAt_17 rfl (lv_at hl 0 rfl) ?_
    refine va_get (D := D) (ci := 7) (v := .int M_row) (C := RX10) (T := TX10) (N := 58) hx hb hts hin10 hown hK hP 0 rfl rfl 15 (by decide) (hts _ zm_35) (fun _ h9 => h9) rfl dX10_byteAt_18 ?_
    refine lv_imul hx hb dX10_byteAt_21 ?_
    refine lv_aload_n hx hb dX10_byteAt_22 rfl (lv_at hl 0 rfl) ?_
    refine va_get (D := D) (ci := 7) (v := .int M_at) (C := RX10) (T := TX10) (N := 58) hx hb hts hin10 hown hK hP 0 rfl rfl 11 (by decide) (hts _ zm_32) (fun _ h9 => h9) rfl dX10_byteAt_23 ?_
    refine lv_iadd hx hb dX10_byteAt_26 ?_
    obtain ⟨h_2, hF⟩ := zgi hF
    refine va_iald hx hb hK hP 32 0 rfl rfl h_2 dX10_byteAt_27 ?_
    refine lv_goto (tgt := 32) hx hb dX10_byteAt_28 (by decide) ?_
    obtain rfl := Option.some.inj hF
    exact hret _ _ rfl dX10_byteAt_32
theorem zdv_X10_byteAt : yX10_byteAt.cls = RX10 ∧ yX10_byteAt.cls ≠ "java/lang/invoke/MethodHandle" ∧ yX10_byteAt.cls ≠ "java/lang/invoke/VarHandle" ∧ (parseMethodDescriptor yX10_byteAt.desc).map (fun d => d.parameters.length) = some 0 := by decide +kernel
abbrev roX10_oneOf_begins : Room := { frames := 1, cells := 0, slots := 0, locals := 20 }
set_option maxHeartbeats 4000000 in
set_option maxRecDepth 100000 in
theorem kX10_oneOf_begins (l : Launch) (D : va_G) (ca : Nat → ClassId) (t : Nat → Nat) (ad_M : Nat → Nat) (M_guests : Int32) (M_kind : Nat → Int32) (M_figure : Nat → Int32) (M_told : Nat → Int32) (M_heaps : Int32) (M_holds : Int32) (M_back : Int32) (M_mistakes : Int32) (M_hooks : Int32) (M_letters : Int32) (M_rule : Nat → Int32) (M_at : Int32) (M_well : Int32) (M_sort : Int32) (M_text : Int32) (M_row : Int32) (M_field : Nat → Int32) (M_fields : Int32) (M_begins : Nat → Int32) (M_ruleLetters : Nat → Int32) (M_coming : Nat → Int32) (M_comingMany : Int32) (M_going : Nat → Int32) (M_goingMany : Int32) (M_minute : Nat → Int32) (M_pile : Nat → Int32) (M_high : Nat → Int32) (M_where : Nat → Int32) (M_latest : Int32) (M_lifts : Nat → Int32) (M_begun : Nat → Int32) (M_left : Nat → Int32) (M_has : Nat → Int32) (M_lifted : Nat → Int32) (M_taken : Nat → Int32) (M_above : Nat → Int32) (M_allLifts : Int32) (M_busy : Int32) (M_longest : Nat → Int32) (M_onto : Nat → Int32) (M_worst : Int32) (M_best : Int32) (M_orders : Int32) (M_together : Int32) (M_ofOne : Nat → Int32) (M_ofOther : Nat → Int32) (M_seed : Int32) (M_then : Nat → Int32) (M_was : Nat → Int32) (M_kept : Int32) (M_held : Nat → Int32) (M_kindOn : Nat → Int32) (M_figureOn : Nat → Int32) (M_sorts : Nat → Int32) (M_size : Nat → Int32) (M_items : Nat → Int32) (M_moved : Nat → Int32) (M_thrown : Int32) (fuel : Nat) (o : Int32 × Int32) (hF : fX10_oneOf_begins fuel M_at M_text M_row M_begins M_items = some o) : zMi l D (zT ca) t yX10_oneOf (.code yX10_oneOf cX10_oneOf 3 (some .int) :: zW) roX10_oneOf_begins [.ref (ad_M 0), .ref (ad_M 6)] (wX10_M ca ad_M M_guests M_kind M_figure M_told M_heaps M_holds M_back M_mistakes M_hooks M_letters M_rule M_at M_well M_sort M_text M_row M_field M_fields M_begins M_ruleLetters M_coming M_comingMany M_going M_goingMany M_minute M_pile M_high M_where M_latest M_lifts M_begun M_left M_has M_lifted M_taken M_above M_allLifts M_busy M_longest M_onto M_worst M_best M_orders M_together M_ofOne M_ofOther M_seed M_then M_was M_kept M_held M_kindOn M_figureOn M_sorts M_size M_items M_moved M_thrown) (wX10_M ca ad_M M_guests M_kind M_figure M_told M_heaps M_holds M_back M_mistakes M_hooks M_letters M_rule o.2 M_well M_sort M_text M_row M_field M_fields M_begins M_ruleLetters M_coming M_comingMany M_going M_goingMany M_minute M_pile M_high M_where M_latest M_lifts M_begun M_left M_has M_lifted M_taken M_above M_allLifts M_busy M_longest M_onto M_worst M_best M_orders M_together M_ofOne M_ofOther M_seed M_then M_was M_kept M_held M_kindOn M_figureOn M_sorts M_size M_items M_moved M_thrown) o.1 := by
  refine zMi_of (cc := cX10_oneOf) (maxL := 3) (by decide) rfl (Nat.le_of_ble_eq_true rfl) ?_
  intro p e s m args below meth c A Q ls ⟨hx, hb, hml, hown, hts, hA, hK, hZ, hS⟩ hret hP hD hl
  have hts := fun w h => hts w (List.mem_cons_of_mem _ h)
  have hown : s.vm.findClass RX10 = some m.cls := hown
  have hl : lv_has ls 3 [(0, .ref (ad_M 0)), (1, .ref (ad_M 6))] := hl
  have hin10 := zin_X10
  have j18 : ∀ (v2 : Int32) (M_at : Int32) (H : Heap) (locs : List Loc), fX10_oneOf_begins_J18 v2 M_at = some o → va_P D vwCl (wX10_M ca ad_M M_guests M_kind M_figure M_told M_heaps M_holds M_back M_mistakes M_hooks M_letters M_rule M_at M_well M_sort M_text M_row M_field M_fields M_begins M_ruleLetters M_coming M_comingMany M_going M_goingMany M_minute M_pile M_high M_where M_latest M_lifts M_begun M_left M_has M_lifted M_taken M_above M_allLifts M_busy M_longest M_onto M_worst M_best M_orders M_together M_ofOne M_ofOther M_seed M_then M_was M_kept M_held M_kindOn M_figureOn M_sorts M_size M_items M_moved M_thrown) H → va_D A (wX10_M ca ad_M M_guests M_kind M_figure M_told M_heaps M_holds M_back M_mistakes M_hooks M_letters M_rule M_at M_well M_sort M_text M_row M_field M_fields M_begins M_ruleLetters M_coming M_comingMany M_going M_goingMany M_minute M_pile M_high M_where M_latest M_lifts M_begun M_left M_has M_lifted M_taken M_above M_allLifts M_busy M_longest M_onto M_worst M_best M_orders M_together M_ofOne M_ofOther M_seed M_then M_was M_kept M_held M_kindOn M_figureOn M_sorts M_size M_items M_moved M_thrown) → va_S A s.heap H locs → ∀ ls : Array Slot, lv_has ls 3 [(0, .ref (ad_M 0)), (2, .int v2)] → W p l e roX10_oneOf_begins s m args below meth c H locs 0 0 Q (F0 m 18 ls []) := by
    intro v2 M_at H locs hF hP hD hS ls hl
    unfold fX10_oneOf_begins_J18 at hF
    refine lv_aload_n hx hb dX10_oneOf_18 rfl (lv_at hl 0 rfl) ?_
    refine lv_dup hx hb dX10_oneOf_19 rfl ?_
    refine va_get (D := D) (ci := 7) (v := .int M_at) (C := RX10) (T := TX10) (N := 58) hx hb hts hin10 hown hK hP 0 rfl rfl 11 (by decide) (hts _ zm_32) (fun _ h9 => h9) rfl dX10_oneOf_20 ?_
    refine lv_iconst (v := 1) hx hb dX10_oneOf_23 (by decide) ?_
    refine lv_iadd hx hb dX10_oneOf_24 ?_
    refine z_let hF (fun at_6 hF => ?_)
    refine va_put (D := D) (ci := 7) (v := .int at_6) (C := RX10) (T := TX10) (N := 58) hx hb hts hin10 tyX10 tyX10_ok nmX10 hown hK hP hD hS 0 rfl rfl 11 (by decide) (hts _ zm_32) (fun _ h9 => h9) rfl (tyX10_ok 11 (by decide)) rfl rfl (Nat.le_of_ble_eq_true rfl) dX10_oneOf_25 (fun H locs hP hD hS => ?_)
    have hP : va_P D vwCl (wX10_M ca ad_M M_guests M_kind M_figure M_told M_heaps M_holds M_back M_mistakes M_hooks M_letters M_rule at_6 M_well M_sort M_text M_row M_field M_fields M_begins M_ruleLetters M_coming M_comingMany M_going M_goingMany M_minute M_pile M_high M_where M_latest M_lifts M_begun M_left M_has M_lifted M_taken M_above M_allLifts M_busy M_longest M_onto M_worst M_best M_orders M_together M_ofOne M_ofOther M_seed M_then M_was M_kept M_held M_kindOn M_figureOn M_sorts M_size M_items M_moved M_thrown) H := hP
    have hD : va_D A (wX10_M ca ad_M M_guests M_kind M_figure M_told M_heaps M_holds M_back M_mistakes M_hooks M_letters M_rule at_6 M_well M_sort M_text M_row M_field M_fields M_begins M_ruleLetters M_coming M_comingMany M_going M_goingMany M_minute M_pile M_high M_where M_latest M_lifts M_begun M_left M_has M_lifted M_taken M_above M_allLifts M_busy M_longest M_onto M_worst M_best M_orders M_together M_ofOne M_ofOther M_seed M_then M_was M_kept M_held M_kindOn M_figureOn M_sorts M_size M_items M_moved M_thrown) := hD
    refine lv_iload_n hx hb dX10_oneOf_28 rfl (lv_at hl 1 rfl) ?_
    obtain rfl := Option.some.inj hF
    exact hret _ _ _ _ hP hD hS rfl dX10_oneOf_29
  have l2 : ∀ (n2 : Nat) (v2 : Int32) (M_at : Int32) (H : Heap) (locs : List Loc), fX10_oneOf_begins_L2 fuel M_text M_row M_begins M_items n2 v2 M_at = some o → va_P D vwCl (wX10_M ca ad_M M_guests M_kind M_figure M_told M_heaps M_holds M_back M_mistakes M_hooks M_letters M_rule M_at M_well M_sort M_text M_row M_field M_fields M_begins M_ruleLetters M_coming M_comingMany M_going M_goingMany M_minute M_pile M_high M_where M_latest M_lifts M_begun M_left M_has M_lifted M_taken M_above M_allLifts M_busy M_longest M_onto M_worst M_best M_orders M_together M_ofOne M_ofOther M_seed M_then M_was M_kept M_held M_kindOn M_figureOn M_sorts M_size M_items M_moved M_thrown) H → va_D A (wX10_M ca ad_M M_guests M_kind M_figure M_told M_heaps M_holds M_back M_mistakes M_hooks M_letters M_rule M_at M_well M_sort M_text M_row M_field M_fields M_begins M_ruleLetters M_coming M_comingMany M_going M_goingMany M_minute M_pile M_high M_where M_latest M_lifts M_begun M_left M_has M_lifted M_taken M_above M_allLifts M_busy M_longest M_onto M_worst M_best M_orders M_together M_ofOne M_ofOther M_seed M_then M_was M_kept M_held M_kindOn M_figureOn M_sorts M_size M_items M_moved M_thrown) → va_S A s.heap H locs → ∀ ls : Array Slot, lv_has ls 3 [(0, .ref (ad_M 0)), (1, .ref (ad_M 6)), (2, .int v2)] → W p l e roX10_oneOf_begins s m args below meth c H locs 0 0 Q (F0 m 2 ls []) := by
    intro n2
    induction n2 with
    | zero =>
      intro v2 M_at H locs hF
      rw [fX10_oneOf_begins_L2] at hF
      cases hF
    | succ n2 ih2 =>
      intro v2 M_at H locs hF hP hD hS ls hl
      rw [fX10_oneOf_begins_L2] at hF
      refine lv_iload_n hx hb dX10_oneOf_2 rfl (lv_at hl 2 rfl) ?_
      refine lv_aload_n hx hb dX10_oneOf_3 rfl (lv_at hl 1 rfl) ?_
      refine va_alen (v := 6) hx hb hK hP 6 2 rfl rfl rfl dX10_oneOf_4 ?_
      refine lv_icmp_ge (tgt := 36) hx hb dX10_oneOf_5 (by decide) (fun c_1 => ?_) (fun c_1 => ?_)
      · have hF := zt c_1 hF
        refine lv_iconst (v := (-1)) hx hb dX10_oneOf_36 (by decide) ?_
        obtain rfl := Option.some.inj hF
        exact hret _ _ _ _ hP hD hS rfl dX10_oneOf_37
      · have hF := zf c_1 hF
        refine lv_aload_n hx hb dX10_oneOf_8 rfl (lv_at hl 0 rfl) ?_
        obtain ⟨o_2, hc_2, hF⟩ := zb hF
        refine zcVR (rest := []) (kX10_byteAt l D ca t ad_M M_guests M_kind M_figure M_told M_heaps M_holds M_back M_mistakes M_hooks M_letters M_rule M_at M_well M_sort M_text M_row M_field M_fields M_begins M_ruleLetters M_coming M_comingMany M_going M_goingMany M_minute M_pile M_high M_where M_latest M_lifts M_begun M_left M_has M_lifted M_taken M_above M_allLifts M_busy M_longest M_onto M_worst M_best M_orders M_together M_ofOne M_ofOther M_seed M_then M_was M_kept M_held M_kindOn M_figureOn M_sorts M_size M_items M_moved M_thrown fuel _ hc_2) ⟨hx, hb, hml, hown, hts⟩ (zcwV hts zm_37 zm_38 zm_39 zm_19 zm_36 rfl rfl zdv_X10_byteAt ⟨Nat.le_of_ble_eq_true rfl, Nat.le_of_ble_eq_true rfl⟩) hA hK hZ hP hD hS [0, 1, 2, 3, 4, 5, 6, 7, 8, 9, 10, 11, 12, 13, 14, 15, 16, 17, 18, 19, 20, 21, 22, 23, 24, 25, 26, 27, 28, 29, 30, 31, 32, 33] rfl rfl 7 0 rfl rfl rfl hl.1 (Nat.le_of_ble_eq_true rfl) dX10_oneOf_9 rfl ?_
        refine lv_aload_n hx hb dX10_oneOf_12 rfl (lv_at hl 1 rfl) ?_
        refine lv_iload_n hx hb dX10_oneOf_13 rfl (lv_at hl 2 rfl) ?_
        obtain ⟨h_3, hF⟩ := zgi hF
        refine va_cald hx hb hK hP 6 2 rfl rfl h_3 dX10_oneOf_14 ?_
        refine lv_icmp_ne (tgt := 30) hx hb dX10_oneOf_15 (by decide) (fun c_4 => ?_) (fun c_4 => ?_)
        · have hF := zf c_4 hF
          refine z_iinc (kv := 1) hx hb 2 dX10_oneOf_30 hl rfl (by decide) (by decide) (fun g => [(2, .int g), (0, .ref (ad_M 0)), (1, .ref (ad_M 6))]) (fun _ => rfl) hF (fun v2_5 ls hF hl => ?_)
          refine lv_goto (tgt := 2) hx hb dX10_oneOf_33 (by decide) ?_
          exact ih2 v2_5 M_at _ _ hF hP hD hS ls (lv_sub hl [1, 2, 0] rfl)
        · have hF := zt c_4 hF
          exact j18 v2 M_at _ _ hF hP hD hS ls (lv_sub hl [0, 2] rfl)
  unfold fX10_oneOf_begins at hF
  refine lv_iconst (v := 0) hx hb dX10_oneOf_0 (by decide) ?_
  refine lv_istore_n (lv' := [(2, .int 0), (0, .ref (ad_M 0)), (1, .ref (ad_M 6))]) hx hb dX10_oneOf_1 rfl hl (by decide) rfl (fun ls hl => ?_)
  exact l2 fuel 0 M_at _ _ hF hP hD hS ls (lv_sub hl [1, 2, 0] rfl)
abbrev roX10_oneOf_ruleLetters : Room := { frames := 1, cells := 0, slots := 0, locals := 20 }
set_option maxHeartbeats 4000000 in
set_option maxRecDepth 100000 in
theorem kX10_oneOf_ruleLetters (l : Launch) (D : va_G) (ca : Nat → ClassId) (t : Nat → Nat) (ad_M : Nat → Nat) (M_guests : Int32) (M_kind : Nat → Int32) (M_figure : Nat → Int32) (M_told : Nat → Int32) (M_heaps : Int32) (M_holds : Int32) (M_back : Int32) (M_mistakes : Int32) (M_hooks : Int32) (M_letters : Int32) (M_rule : Nat → Int32) (M_at : Int32) (M_well : Int32) (M_sort : Int32) (M_text : Int32) (M_row : Int32) (M_field : Nat → Int32) (M_fields : Int32) (M_begins : Nat → Int32) (M_ruleLetters : Nat → Int32) (M_coming : Nat → Int32) (M_comingMany : Int32) (M_going : Nat → Int32) (M_goingMany : Int32) (M_minute : Nat → Int32) (M_pile : Nat → Int32) (M_high : Nat → Int32) (M_where : Nat → Int32) (M_latest : Int32) (M_lifts : Nat → Int32) (M_begun : Nat → Int32) (M_left : Nat → Int32) (M_has : Nat → Int32) (M_lifted : Nat → Int32) (M_taken : Nat → Int32) (M_above : Nat → Int32) (M_allLifts : Int32) (M_busy : Int32) (M_longest : Nat → Int32) (M_onto : Nat → Int32) (M_worst : Int32) (M_best : Int32) (M_orders : Int32) (M_together : Int32) (M_ofOne : Nat → Int32) (M_ofOther : Nat → Int32) (M_seed : Int32) (M_then : Nat → Int32) (M_was : Nat → Int32) (M_kept : Int32) (M_held : Nat → Int32) (M_kindOn : Nat → Int32) (M_figureOn : Nat → Int32) (M_sorts : Nat → Int32) (M_size : Nat → Int32) (M_items : Nat → Int32) (M_moved : Nat → Int32) (M_thrown : Int32) (fuel : Nat) (o : Int32 × Int32) (hF : fX10_oneOf_ruleLetters fuel M_at M_text M_row M_ruleLetters M_items = some o) : zMi l D (zT ca) t yX10_oneOf (.code yX10_oneOf cX10_oneOf 3 (some .int) :: zW) roX10_oneOf_ruleLetters [.ref (ad_M 0), .ref (ad_M 7)] (wX10_M ca ad_M M_guests M_kind M_figure M_told M_heaps M_holds M_back M_mistakes M_hooks M_letters M_rule M_at M_well M_sort M_text M_row M_field M_fields M_begins M_ruleLetters M_coming M_comingMany M_going M_goingMany M_minute M_pile M_high M_where M_latest M_lifts M_begun M_left M_has M_lifted M_taken M_above M_allLifts M_busy M_longest M_onto M_worst M_best M_orders M_together M_ofOne M_ofOther M_seed M_then M_was M_kept M_held M_kindOn M_figureOn M_sorts M_size M_items M_moved M_thrown) (wX10_M ca ad_M M_guests M_kind M_figure M_told M_heaps M_holds M_back M_mistakes M_hooks M_letters M_rule o.2 M_well M_sort M_text M_row M_field M_fields M_begins M_ruleLetters M_coming M_comingMany M_going M_goingMany M_minute M_pile M_high M_where M_latest M_lifts M_begun M_left M_has M_lifted M_taken M_above M_allLifts M_busy M_longest M_onto M_worst M_best M_orders M_together M_ofOne M_ofOther M_seed M_then M_was M_kept M_held M_kindOn M_figureOn M_sorts M_size M_items M_moved M_thrown) o.1 := by
  refine zMi_of (cc := cX10_oneOf) (maxL := 3) (by decide) rfl (Nat.le_of_ble_eq_true rfl) ?_
  intro p e s m args below meth c A Q ls ⟨hx, hb, hml, hown, hts, hA, hK, hZ, hS⟩ hret hP hD hl
  have hts := fun w h => hts w (List.mem_cons_of_mem _ h)
  have hown : s.vm.findClass RX10 = some m.cls := hown
  have hl : lv_has ls 3 [(0, .ref (ad_M 0)), (1, .ref (ad_M 7))] := hl
  have hin10 := zin_X10
  have j18 : ∀ (v2 : Int32) (M_at : Int32) (H : Heap) (locs : List Loc), fX10_oneOf_ruleLetters_J18 v2 M_at = some o → va_P D vwCl (wX10_M ca ad_M M_guests M_kind M_figure M_told M_heaps M_holds M_back M_mistakes M_hooks M_letters M_rule M_at M_well M_sort M_text M_row M_field M_fields M_begins M_ruleLetters M_coming M_comingMany M_going M_goingMany M_minute M_pile M_high M_where M_latest M_lifts M_begun M_left M_has M_lifted M_taken M_above M_allLifts M_busy M_longest M_onto M_worst M_best M_orders M_together M_ofOne M_ofOther M_seed M_then M_was M_kept M_held M_kindOn M_figureOn M_sorts M_size M_items M_moved M_thrown) H → va_D A (wX10_M ca ad_M M_guests M_kind M_figure M_told M_heaps M_holds M_back M_mistakes M_hooks M_letters M_rule M_at M_well M_sort M_text M_row M_field M_fields M_begins M_ruleLetters M_coming M_comingMany M_going M_goingMany M_minute M_pile M_high M_where M_latest M_lifts M_begun M_left M_has M_lifted M_taken M_above M_allLifts M_busy M_longest M_onto M_worst M_best M_orders M_together M_ofOne M_ofOther M_seed M_then M_was M_kept M_held M_kindOn M_figureOn M_sorts M_size M_items M_moved M_thrown) → va_S A s.heap H locs → ∀ ls : Array Slot, lv_has ls 3 [(0, .ref (ad_M 0)), (2, .int v2)] → W p l e roX10_oneOf_ruleLetters s m args below meth c H locs 0 0 Q (F0 m 18 ls []) := by
    intro v2 M_at H locs hF hP hD hS ls hl
    unfold fX10_oneOf_ruleLetters_J18 at hF
    refine lv_aload_n hx hb dX10_oneOf_18 rfl (lv_at hl 0 rfl) ?_
    refine lv_dup hx hb dX10_oneOf_19 rfl ?_
    refine va_get (D := D) (ci := 7) (v := .int M_at) (C := RX10) (T := TX10) (N := 58) hx hb hts hin10 hown hK hP 0 rfl rfl 11 (by decide) (hts _ zm_32) (fun _ h9 => h9) rfl dX10_oneOf_20 ?_
    refine lv_iconst (v := 1) hx hb dX10_oneOf_23 (by decide) ?_
    refine lv_iadd hx hb dX10_oneOf_24 ?_
    refine z_let hF (fun at_6 hF => ?_)
    refine va_put (D := D) (ci := 7) (v := .int at_6) (C := RX10) (T := TX10) (N := 58) hx hb hts hin10 tyX10 tyX10_ok nmX10 hown hK hP hD hS 0 rfl rfl 11 (by decide) (hts _ zm_32) (fun _ h9 => h9) rfl (tyX10_ok 11 (by decide)) rfl rfl (Nat.le_of_ble_eq_true rfl) dX10_oneOf_25 (fun H locs hP hD hS => ?_)
    have hP : va_P D vwCl (wX10_M ca ad_M M_guests M_kind M_figure M_told M_heaps M_holds M_back M_mistakes M_hooks M_letters M_rule at_6 M_well M_sort M_text M_row M_field M_fields M_begins M_ruleLetters M_coming M_comingMany M_going M_goingMany M_minute M_pile M_high M_where M_latest M_lifts M_begun M_left M_has M_lifted M_taken M_above M_allLifts M_busy M_longest M_onto M_worst M_best M_orders M_together M_ofOne M_ofOther M_seed M_then M_was M_kept M_held M_kindOn M_figureOn M_sorts M_size M_items M_moved M_thrown) H := hP
    have hD : va_D A (wX10_M ca ad_M M_guests M_kind M_figure M_told M_heaps M_holds M_back M_mistakes M_hooks M_letters M_rule at_6 M_well M_sort M_text M_row M_field M_fields M_begins M_ruleLetters M_coming M_comingMany M_going M_goingMany M_minute M_pile M_high M_where M_latest M_lifts M_begun M_left M_has M_lifted M_taken M_above M_allLifts M_busy M_longest M_onto M_worst M_best M_orders M_together M_ofOne M_ofOther M_seed M_then M_was M_kept M_held M_kindOn M_figureOn M_sorts M_size M_items M_moved M_thrown) := hD
    refine lv_iload_n hx hb dX10_oneOf_28 rfl (lv_at hl 1 rfl) ?_
    obtain rfl := Option.some.inj hF
    exact hret _ _ _ _ hP hD hS rfl dX10_oneOf_29
  have l2 : ∀ (n2 : Nat) (v2 : Int32) (M_at : Int32) (H : Heap) (locs : List Loc), fX10_oneOf_ruleLetters_L2 fuel M_text M_row M_ruleLetters M_items n2 v2 M_at = some o → va_P D vwCl (wX10_M ca ad_M M_guests M_kind M_figure M_told M_heaps M_holds M_back M_mistakes M_hooks M_letters M_rule M_at M_well M_sort M_text M_row M_field M_fields M_begins M_ruleLetters M_coming M_comingMany M_going M_goingMany M_minute M_pile M_high M_where M_latest M_lifts M_begun M_left M_has M_lifted M_taken M_above M_allLifts M_busy M_longest M_onto M_worst M_best M_orders M_together M_ofOne M_ofOther M_seed M_then M_was M_kept M_held M_kindOn M_figureOn M_sorts M_size M_items M_moved M_thrown) H → va_D A (wX10_M ca ad_M M_guests M_kind M_figure M_told M_heaps M_holds M_back M_mistakes M_hooks M_letters M_rule M_at M_well M_sort M_text M_row M_field M_fields M_begins M_ruleLetters M_coming M_comingMany M_going M_goingMany M_minute M_pile M_high M_where M_latest M_lifts M_begun M_left M_has M_lifted M_taken M_above M_allLifts M_busy M_longest M_onto M_worst M_best M_orders M_together M_ofOne M_ofOther M_seed M_then M_was M_kept M_held M_kindOn M_figureOn M_sorts M_size M_items M_moved M_thrown) → va_S A s.heap H locs → ∀ ls : Array Slot, lv_has ls 3 [(0, .ref (ad_M 0)), (1, .ref (ad_M 7)), (2, .int v2)] → W p l e roX10_oneOf_ruleLetters s m args below meth c H locs 0 0 Q (F0 m 2 ls []) := by
    intro n2
    induction n2 with
    | zero =>
      intro v2 M_at H locs hF
      rw [fX10_oneOf_ruleLetters_L2] at hF
      cases hF
    | succ n2 ih2 =>
      intro v2 M_at H locs hF hP hD hS ls hl
      rw [fX10_oneOf_ruleLetters_L2] at hF
      refine lv_iload_n hx hb dX10_oneOf_2 rfl (lv_at hl 2 rfl) ?_
      refine lv_aload_n hx hb dX10_oneOf_3 rfl (lv_at hl 1 rfl) ?_
      refine va_alen (v := 6) hx hb hK hP 7 2 rfl rfl rfl dX10_oneOf_4 ?_
      refine lv_icmp_ge (tgt := 36) hx hb dX10_oneOf_5 (by decide) (fun c_1 => ?_) (fun c_1 => ?_)
      · have hF := zt c_1 hF
        refine lv_iconst (v := (-1)) hx hb dX10_oneOf_36 (by decide) ?_
        obtain rfl := Option.some.inj hF
        exact hret _ _ _ _ hP hD hS rfl dX10_oneOf_37
      · have hF := zf c_1 hF
        refine lv_aload_n hx hb dX10_oneOf_8 rfl (lv_at hl 0 rfl) ?_
        obtain ⟨o_2, hc_2, hF⟩ := zb hF
        refine zcVR (rest := []) (kX10_byteAt l D ca t ad_M M_guests M_kind M_figure M_told M_heaps M_holds M_back M_mistakes M_hooks M_letters M_rule M_at M_well M_sort M_text M_row M_field M_fields M_begins M_ruleLetters M_coming M_comingMany M_going M_goingMany M_minute M_pile M_high M_where M_latest M_lifts M_begun M_left M_has M_lifted M_taken M_above M_allLifts M_busy M_longest M_onto M_worst M_best M_orders M_together M_ofOne M_ofOther M_seed M_then M_was M_kept M_held M_kindOn M_figureOn M_sorts M_size M_items M_moved M_thrown fuel _ hc_2) ⟨hx, hb, hml, hown, hts⟩ (zcwV hts zm_37 zm_38 zm_39 zm_19 zm_36 rfl rfl zdv_X10_byteAt ⟨Nat.le_of_ble_eq_true rfl, Nat.le_of_ble_eq_true rfl⟩) hA hK hZ hP hD hS [0, 1, 2, 3, 4, 5, 6, 7, 8, 9, 10, 11, 12, 13, 14, 15, 16, 17, 18, 19, 20, 21, 22, 23, 24, 25, 26, 27, 28, 29, 30, 31, 32, 33] rfl rfl 7 0 rfl rfl rfl hl.1 (Nat.le_of_ble_eq_true rfl) dX10_oneOf_9 rfl ?_
        refine lv_aload_n hx hb dX10_oneOf_12 rfl (lv_at hl 1 rfl) ?_
        refine lv_iload_n hx hb dX10_oneOf_13 rfl (lv_at hl 2 rfl) ?_
        obtain ⟨h_3, hF⟩ := zgi hF
        refine va_cald hx hb hK hP 7 2 rfl rfl h_3 dX10_oneOf_14 ?_
        refine lv_icmp_ne (tgt := 30) hx hb dX10_oneOf_15 (by decide) (fun c_4 => ?_) (fun c_4 => ?_)
        · have hF := zf c_4 hF
          refine z_iinc (kv := 1) hx hb 2 dX10_oneOf_30 hl rfl (by decide) (by decide) (fun g => [(2, .int g), (0, .ref (ad_M 0)), (1, .ref (ad_M 7))]) (fun _ => rfl) hF (fun v2_5 ls hF hl => ?_)
          refine lv_goto (tgt := 2) hx hb dX10_oneOf_33 (by decide) ?_
          exact ih2 v2_5 M_at _ _ hF hP hD hS ls (lv_sub hl [1, 2, 0] rfl)
        · have hF := zt c_4 hF
          exact j18 v2 M_at _ _ hF hP hD hS ls (lv_sub hl [0, 2] rfl)
  unfold fX10_oneOf_ruleLetters at hF
  refine lv_iconst (v := 0) hx hb dX10_oneOf_0 (by decide) ?_
  refine lv_istore_n (lv' := [(2, .int 0), (0, .ref (ad_M 0)), (1, .ref (ad_M 7))]) hx hb dX10_oneOf_1 rfl hl (by decide) rfl (fun ls hl => ?_)
  exact l2 fuel 0 M_at _ _ hF hP hD hS ls (lv_sub hl [1, 2, 0] rfl)
abbrev roX10_figure : Room := { frames := 1, cells := 0, slots := 0, locals := 20 }
set_option maxHeartbeats 4000000 in
set_option maxRecDepth 100000 in
theorem kX10_figure (l : Launch) (D : va_G) (ca : Nat → ClassId) (t : Nat → Nat) (ad_M : Nat → Nat) (M_guests : Int32) (M_kind : Nat → Int32) (M_figure : Nat → Int32) (M_told : Nat → Int32) (M_heaps : Int32) (M_holds : Int32) (M_back : Int32) (M_mistakes : Int32) (M_hooks : Int32) (M_letters : Int32) (M_rule : Nat → Int32) (M_at : Int32) (M_well : Int32) (M_sort : Int32) (M_text : Int32) (M_row : Int32) (M_field : Nat → Int32) (M_fields : Int32) (M_begins : Nat → Int32) (M_ruleLetters : Nat → Int32) (M_coming : Nat → Int32) (M_comingMany : Int32) (M_going : Nat → Int32) (M_goingMany : Int32) (M_minute : Nat → Int32) (M_pile : Nat → Int32) (M_high : Nat → Int32) (M_where : Nat → Int32) (M_latest : Int32) (M_lifts : Nat → Int32) (M_begun : Nat → Int32) (M_left : Nat → Int32) (M_has : Nat → Int32) (M_lifted : Nat → Int32) (M_taken : Nat → Int32) (M_above : Nat → Int32) (M_allLifts : Int32) (M_busy : Int32) (M_longest : Nat → Int32) (M_onto : Nat → Int32) (M_worst : Int32) (M_best : Int32) (M_orders : Int32) (M_together : Int32) (M_ofOne : Nat → Int32) (M_ofOther : Nat → Int32) (M_seed : Int32) (M_then : Nat → Int32) (M_was : Nat → Int32) (M_kept : Int32) (M_held : Nat → Int32) (M_kindOn : Nat → Int32) (M_figureOn : Nat → Int32) (M_sorts : Nat → Int32) (M_size : Nat → Int32) (M_items : Nat → Int32) (M_moved : Nat → Int32) (M_thrown : Int32) (fuel : Nat) (o : Int32 × Int32 × Int32) (hF : fX10_figure fuel M_at M_well M_text M_row M_items = some o) : zMi l D (zT ca) t yX10_figure (.code yX10_figure cX10_figure 2 (some .int) :: zW) roX10_figure [.ref (ad_M 0)] (wX10_M ca ad_M M_guests M_kind M_figure M_told M_heaps M_holds M_back M_mistakes M_hooks M_letters M_rule M_at M_well M_sort M_text M_row M_field M_fields M_begins M_ruleLetters M_coming M_comingMany M_going M_goingMany M_minute M_pile M_high M_where M_latest M_lifts M_begun M_left M_has M_lifted M_taken M_above M_allLifts M_busy M_longest M_onto M_worst M_best M_orders M_together M_ofOne M_ofOther M_seed M_then M_was M_kept M_held M_kindOn M_figureOn M_sorts M_size M_items M_moved M_thrown) (wX10_M ca ad_M M_guests M_kind M_figure M_told M_heaps M_holds M_back M_mistakes M_hooks M_letters M_rule o.2.1 o.2.2 M_sort M_text M_row M_field M_fields M_begins M_ruleLetters M_coming M_comingMany M_going M_goingMany M_minute M_pile M_high M_where M_latest M_lifts M_begun M_left M_has M_lifted M_taken M_above M_allLifts M_busy M_longest M_onto M_worst M_best M_orders M_together M_ofOne M_ofOther M_seed M_then M_was M_kept M_held M_kindOn M_figureOn M_sorts M_size M_items M_moved M_thrown) o.1 := by
  refine zMi_of (cc := cX10_figure) (maxL := 2) (by decide) rfl (Nat.le_of_ble_eq_true rfl) ?_
  intro p e s m args below meth c A Q ls ⟨hx, hb, hml, hown, hts, hA, hK, hZ, hS⟩ hret hP hD hl
  have hts := fun w h => hts w (List.mem_cons_of_mem _ h)
  have hown : s.vm.findClass RX10 = some m.cls := hown
  have hl : lv_has ls 2 [(0, .ref (ad_M 0))] := hl
  have hin10 := zin_X10
  have j24 : ∀ (M_at : Int32) (M_well : Int32) (H : Heap) (locs : List Loc), fX10_figure_J24 M_at M_well = some o → va_P D vwCl (wX10_M ca ad_M M_guests M_kind M_figure M_told M_heaps M_holds M_back M_mistakes M_hooks M_letters M_rule M_at M_well M_sort M_text M_row M_field M_fields M_begins M_ruleLetters M_coming M_comingMany M_going M_goingMany M_minute M_pile M_high M_where M_latest M_lifts M_begun M_left M_has M_lifted M_taken M_above M_allLifts M_busy M_longest M_onto M_worst M_best M_orders M_together M_ofOne M_ofOther M_seed M_then M_was M_kept M_held M_kindOn M_figureOn M_sorts M_size M_items M_moved M_thrown) H → va_D A (wX10_M ca ad_M M_guests M_kind M_figure M_told M_heaps M_holds M_back M_mistakes M_hooks M_letters M_rule M_at M_well M_sort M_text M_row M_field M_fields M_begins M_ruleLetters M_coming M_comingMany M_going M_goingMany M_minute M_pile M_high M_where M_latest M_lifts M_begun M_left M_has M_lifted M_taken M_above M_allLifts M_busy M_longest M_onto M_worst M_best M_orders M_together M_ofOne M_ofOther M_seed M_then M_was M_kept M_held M_kindOn M_figureOn M_sorts M_size M_items M_moved M_thrown) → va_S A s.heap H locs → ∀ ls : Array Slot, lv_has ls 2 [(0, .ref (ad_M 0))] → W p l e roX10_figure s m args below meth c H locs 0 0 Q (F0 m 24 ls []) := by
    intro M_at M_well H locs hF hP hD hS ls hl
    unfold fX10_figure_J24 at hF
    refine lv_aload_n hx hb dX10_figure_24 rfl (lv_at hl 0 rfl) ?_
    refine lv_iconst (v := 0) hx hb dX10_figure_25 (by decide) ?_
    refine va_put (D := D) (ci := 7) (v := .int 0) (C := RX10) (T := TX10) (N := 58) hx hb hts hin10 tyX10 tyX10_ok nmX10 hown hK hP hD hS 0 rfl rfl 12 (by decide) (hts _ zm_40) (fun _ h9 => h9) rfl (tyX10_ok 12 (by decide)) rfl rfl (Nat.le_of_ble_eq_true rfl) dX10_figure_26 (fun H locs hP hD hS => ?_)
    have hP : va_P D vwCl (wX10_M ca ad_M M_guests M_kind M_figure M_told M_heaps M_holds M_back M_mistakes M_hooks M_letters M_rule M_at 0 M_sort M_text M_row M_field M_fields M_begins M_ruleLetters M_coming M_comingMany M_going M_goingMany M_minute M_pile M_high M_where M_latest M_lifts M_begun M_left M_has M_lifted M_taken M_above M_allLifts M_busy M_longest M_onto M_worst M_best M_orders M_together M_ofOne M_ofOther M_seed M_then M_was M_kept M_held M_kindOn M_figureOn M_sorts M_size M_items M_moved M_thrown) H := hP
    have hD : va_D A (wX10_M ca ad_M M_guests M_kind M_figure M_told M_heaps M_holds M_back M_mistakes M_hooks M_letters M_rule M_at 0 M_sort M_text M_row M_field M_fields M_begins M_ruleLetters M_coming M_comingMany M_going M_goingMany M_minute M_pile M_high M_where M_latest M_lifts M_begun M_left M_has M_lifted M_taken M_above M_allLifts M_busy M_longest M_onto M_worst M_best M_orders M_together M_ofOne M_ofOther M_seed M_then M_was M_kept M_held M_kindOn M_figureOn M_sorts M_size M_items M_moved M_thrown) := hD
    refine lv_iconst (v := 0) hx hb dX10_figure_29 (by decide) ?_
    obtain rfl := Option.some.inj hF
    exact hret _ _ _ _ hP hD hS rfl dX10_figure_30
  unfold fX10_figure at hF
  refine lv_aload_n hx hb dX10_figure_0 rfl (lv_at hl 0 rfl) ?_
  obtain ⟨o_1, hc_1, hF⟩ := zb hF
  refine zcVR (rest := []) (kX10_byteAt l D ca t ad_M M_guests M_kind M_figure M_told M_heaps M_holds M_back M_mistakes M_hooks M_letters M_rule M_at M_well M_sort M_text M_row M_field M_fields M_begins M_ruleLetters M_coming M_comingMany M_going M_goingMany M_minute M_pile M_high M_where M_latest M_lifts M_begun M_left M_has M_lifted M_taken M_above M_allLifts M_busy M_longest M_onto M_worst M_best M_orders M_together M_ofOne M_ofOther M_seed M_then M_was M_kept M_held M_kindOn M_figureOn M_sorts M_size M_items M_moved M_thrown fuel _ hc_1) ⟨hx, hb, hml, hown, hts⟩ (zcwV hts zm_37 zm_38 zm_39 zm_19 zm_36 rfl rfl zdv_X10_byteAt ⟨Nat.le_of_ble_eq_true rfl, Nat.le_of_ble_eq_true rfl⟩) hA hK hZ hP hD hS [0, 1, 2, 3, 4, 5, 6, 7, 8, 9, 10, 11, 12, 13, 14, 15, 16, 17, 18, 19, 20, 21, 22, 23, 24, 25, 26, 27, 28, 29, 30, 31, 32, 33] rfl rfl 7 0 rfl rfl rfl hl.1 (Nat.le_of_ble_eq_true rfl) dX10_figure_1 rfl ?_
  refine lv_istore_n (lv' := [(1, .int o_1), (0, .ref (ad_M 0))]) hx hb dX10_figure_4 rfl hl (by decide) rfl (fun ls hl => ?_)
  refine lv_aload_n hx hb dX10_figure_5 rfl (lv_at hl 1 rfl) ?_
  refine va_get (D := D) (ci := 7) (v := .int M_well) (C := RX10) (T := TX10) (N := 58) hx hb hts hin10 hown hK hP 0 rfl rfl 12 (by decide) (hts _ zm_40) (fun _ h9 => h9) rfl dX10_figure_6 ?_
  refine lv_if_eq (tgt := 24) hx hb dX10_figure_9 (by decide) (fun c_2 => ?_) (fun c_2 => ?_)
  · have hF := zt c_2 hF
    exact j24 M_at M_well _ _ hF hP hD hS ls (lv_sub hl [1] rfl)
  · have hF := zf c_2 hF
    refine lv_iload_n hx hb dX10_figure_12 rfl (lv_at hl 0 rfl) ?_
    refine lv_bipush (v := 48) hx hb dX10_figure_13 (by decide) ?_
    refine lv_icmp_lt (tgt := 24) hx hb dX10_figure_15 (by decide) (fun c_3 => ?_) (fun c_3 => ?_)
    · have hF := zt c_3 hF
      exact j24 M_at M_well _ _ hF hP hD hS ls (lv_sub hl [1] rfl)
    · have hF := zf c_3 hF
      refine lv_iload_n hx hb dX10_figure_18 rfl (lv_at hl 0 rfl) ?_
      refine lv_bipush (v := 57) hx hb dX10_figure_19 (by decide) ?_
      refine lv_icmp_le (tgt := 31) hx hb dX10_figure_21 (by decide) (fun c_4 => ?_) (fun c_4 => ?_)
      · have hF := zt c_4 hF
        refine lv_aload_n hx hb dX10_figure_31 rfl (lv_at hl 1 rfl) ?_
        refine lv_dup hx hb dX10_figure_32 rfl ?_
        refine va_get (D := D) (ci := 7) (v := .int M_at) (C := RX10) (T := TX10) (N := 58) hx hb hts hin10 hown hK hP 0 rfl rfl 11 (by decide) (hts _ zm_32) (fun _ h9 => h9) rfl dX10_figure_33 ?_
        refine lv_iconst (v := 1) hx hb dX10_figure_36 (by decide) ?_
        refine lv_iadd hx hb dX10_figure_37 ?_
        refine z_let hF (fun at_5 hF => ?_)
        refine va_put (D := D) (ci := 7) (v := .int at_5) (C := RX10) (T := TX10) (N := 58) hx hb hts hin10 tyX10 tyX10_ok nmX10 hown hK hP hD hS 0 rfl rfl 11 (by decide) (hts _ zm_32) (fun _ h9 => h9) rfl (tyX10_ok 11 (by decide)) rfl rfl (Nat.le_of_ble_eq_true rfl) dX10_figure_38 (fun H locs hP hD hS => ?_)
        have hP : va_P D vwCl (wX10_M ca ad_M M_guests M_kind M_figure M_told M_heaps M_holds M_back M_mistakes M_hooks M_letters M_rule at_5 M_well M_sort M_text M_row M_field M_fields M_begins M_ruleLetters M_coming M_comingMany M_going M_goingMany M_minute M_pile M_high M_where M_latest M_lifts M_begun M_left M_has M_lifted M_taken M_above M_allLifts M_busy M_longest M_onto M_worst M_best M_orders M_together M_ofOne M_ofOther M_seed M_then M_was M_kept M_held M_kindOn M_figureOn M_sorts M_size M_items M_moved M_thrown) H := hP
        have hD : va_D A (wX10_M ca ad_M M_guests M_kind M_figure M_told M_heaps M_holds M_back M_mistakes M_hooks M_letters M_rule at_5 M_well M_sort M_text M_row M_field M_fields M_begins M_ruleLetters M_coming M_comingMany M_going M_goingMany M_minute M_pile M_high M_where M_latest M_lifts M_begun M_left M_has M_lifted M_taken M_above M_allLifts M_busy M_longest M_onto M_worst M_best M_orders M_together M_ofOne M_ofOther M_seed M_then M_was M_kept M_held M_kindOn M_figureOn M_sorts M_size M_items M_moved M_thrown) := hD
        refine lv_iload_n hx hb dX10_figure_41 rfl (lv_at hl 0 rfl) ?_
        refine lv_bipush (v := 48) hx hb dX10_figure_42 (by decide) ?_
        refine lv_isub hx hb dX10_figure_44 ?_
        obtain rfl := Option.some.inj hF
        exact hret _ _ _ _ hP hD hS rfl dX10_figure_45
      · have hF := zf c_4 hF
        exact j24 M_at M_well _ _ hF hP hD hS ls (lv_sub hl [1] rfl)
theorem zdv_X10_figure : yX10_figure.cls = RX10 ∧ yX10_figure.cls ≠ "java/lang/invoke/MethodHandle" ∧ yX10_figure.cls ≠ "java/lang/invoke/VarHandle" ∧ (parseMethodDescriptor yX10_figure.desc).map (fun d => d.parameters.length) = some 0 := by decide +kernel
theorem zdv_X10_oneOf : yX10_oneOf.cls = RX10 ∧ yX10_oneOf.cls ≠ "java/lang/invoke/MethodHandle" ∧ yX10_oneOf.cls ≠ "java/lang/invoke/VarHandle" ∧ (parseMethodDescriptor yX10_oneOf.desc).map (fun d => d.parameters.length) = some 1 := by decide +kernel
abbrev roX10_statement : Room := { frames := 2, cells := 0, slots := 0, locals := 42 }
set_option maxHeartbeats 4000000 in
set_option maxRecDepth 100000 in
theorem kX10_statement (l : Launch) (D : va_G) (ca : Nat → ClassId) (t : Nat → Nat) (ad_M : Nat → Nat) (M_guests : Int32) (M_kind : Nat → Int32) (M_figure : Nat → Int32) (M_told : Nat → Int32) (M_heaps : Int32) (M_holds : Int32) (M_back : Int32) (M_mistakes : Int32) (M_hooks : Int32) (M_letters : Int32) (M_rule : Nat → Int32) (M_at : Int32) (M_well : Int32) (M_sort : Int32) (M_text : Int32) (M_row : Int32) (M_field : Nat → Int32) (M_fields : Int32) (M_begins : Nat → Int32) (M_ruleLetters : Nat → Int32) (M_coming : Nat → Int32) (M_comingMany : Int32) (M_going : Nat → Int32) (M_goingMany : Int32) (M_minute : Nat → Int32) (M_pile : Nat → Int32) (M_high : Nat → Int32) (M_where : Nat → Int32) (M_latest : Int32) (M_lifts : Nat → Int32) (M_begun : Nat → Int32) (M_left : Nat → Int32) (M_has : Nat → Int32) (M_lifted : Nat → Int32) (M_taken : Nat → Int32) (M_above : Nat → Int32) (M_allLifts : Int32) (M_busy : Int32) (M_longest : Nat → Int32) (M_onto : Nat → Int32) (M_worst : Int32) (M_best : Int32) (M_orders : Int32) (M_together : Int32) (M_ofOne : Nat → Int32) (M_ofOther : Nat → Int32) (M_seed : Int32) (M_then : Nat → Int32) (M_was : Nat → Int32) (M_kept : Int32) (M_held : Nat → Int32) (M_kindOn : Nat → Int32) (M_figureOn : Nat → Int32) (M_sorts : Nat → Int32) (M_size : Nat → Int32) (M_items : Nat → Int32) (M_moved : Nat → Int32) (M_thrown : Int32) (fuel : Nat) (o : Int32 × Int32 × Int32 × (Nat → Int32) × Int32) (hF : fX10_statement fuel M_at M_well M_sort M_text M_row M_field M_fields M_begins M_ruleLetters M_items = some o) : zMv l D (zT ca) t yX10_statement (.code yX10_statement cX10_statement 2 none :: zW) roX10_statement [.ref (ad_M 0)] (wX10_M ca ad_M M_guests M_kind M_figure M_told M_heaps M_holds M_back M_mistakes M_hooks M_letters M_rule M_at M_well M_sort M_text M_row M_field M_fields M_begins M_ruleLetters M_coming M_comingMany M_going M_goingMany M_minute M_pile M_high M_where M_latest M_lifts M_begun M_left M_has M_lifted M_taken M_above M_allLifts M_busy M_longest M_onto M_worst M_best M_orders M_together M_ofOne M_ofOther M_seed M_then M_was M_kept M_held M_kindOn M_figureOn M_sorts M_size M_items M_moved M_thrown) (wX10_M ca ad_M M_guests M_kind M_figure M_told M_heaps M_holds M_back M_mistakes M_hooks M_letters M_rule o.1 o.2.1 o.2.2.1 M_text M_row o.2.2.2.1 o.2.2.2.2 M_begins M_ruleLetters M_coming M_comingMany M_going M_goingMany M_minute M_pile M_high M_where M_latest M_lifts M_begun M_left M_has M_lifted M_taken M_above M_allLifts M_busy M_longest M_onto M_worst M_best M_orders M_together M_ofOne M_ofOther M_seed M_then M_was M_kept M_held M_kindOn M_figureOn M_sorts M_size M_items M_moved M_thrown) := by
  refine zMv_of (cc := cX10_statement) (maxL := 2) (by decide) rfl (Nat.le_of_ble_eq_true rfl) ?_
  intro p e s m args below meth c A Q ls ⟨hx, hb, hml, hown, hts, hA, hK, hZ, hS⟩ hret hP hD hl
  have hts := fun w h => hts w (List.mem_cons_of_mem _ h)
  have hown : s.vm.findClass RX10 = some m.cls := hown
  have hl : lv_has ls 2 [(0, .ref (ad_M 0))] := hl
  have hin10 := zin_X10
  have j218 : ∀ (M_at : Int32) (M_well : Int32) (M_sort : Int32) (M_field : Nat → Int32) (M_fields : Int32) (H : Heap) (locs : List Loc), fX10_statement_J218 M_at M_well M_sort M_field M_fields = some o → va_P D vwCl (wX10_M ca ad_M M_guests M_kind M_figure M_told M_heaps M_holds M_back M_mistakes M_hooks M_letters M_rule M_at M_well M_sort M_text M_row M_field M_fields M_begins M_ruleLetters M_coming M_comingMany M_going M_goingMany M_minute M_pile M_high M_where M_latest M_lifts M_begun M_left M_has M_lifted M_taken M_above M_allLifts M_busy M_longest M_onto M_worst M_best M_orders M_together M_ofOne M_ofOther M_seed M_then M_was M_kept M_held M_kindOn M_figureOn M_sorts M_size M_items M_moved M_thrown) H → va_D A (wX10_M ca ad_M M_guests M_kind M_figure M_told M_heaps M_holds M_back M_mistakes M_hooks M_letters M_rule M_at M_well M_sort M_text M_row M_field M_fields M_begins M_ruleLetters M_coming M_comingMany M_going M_goingMany M_minute M_pile M_high M_where M_latest M_lifts M_begun M_left M_has M_lifted M_taken M_above M_allLifts M_busy M_longest M_onto M_worst M_best M_orders M_together M_ofOne M_ofOther M_seed M_then M_was M_kept M_held M_kindOn M_figureOn M_sorts M_size M_items M_moved M_thrown) → va_S A s.heap H locs → ∀ ls : Array Slot, lv_has ls 2 [(0, .ref (ad_M 0))] → W p l e roX10_statement s m args below meth c H locs 0 0 Q (F0 m 218 ls []) := by
    intro M_at M_well M_sort M_field M_fields H locs hF hP hD hS ls hl
    unfold fX10_statement_J218 at hF
    refine lv_aload_n hx hb dX10_statement_218 rfl (lv_at hl 0 rfl) ?_
    refine lv_iconst (v := 0) hx hb dX10_statement_219 (by decide) ?_
    refine va_put (D := D) (ci := 7) (v := .int 0) (C := RX10) (T := TX10) (N := 58) hx hb hts hin10 tyX10 tyX10_ok nmX10 hown hK hP hD hS 0 rfl rfl 12 (by decide) (hts _ zm_40) (fun _ h9 => h9) rfl (tyX10_ok 12 (by decide)) rfl rfl (Nat.le_of_ble_eq_true rfl) dX10_statement_220 (fun H locs hP hD hS => ?_)
    have hP : va_P D vwCl (wX10_M ca ad_M M_guests M_kind M_figure M_told M_heaps M_holds M_back M_mistakes M_hooks M_letters M_rule M_at 0 M_sort M_text M_row M_field M_fields M_begins M_ruleLetters M_coming M_comingMany M_going M_goingMany M_minute M_pile M_high M_where M_latest M_lifts M_begun M_left M_has M_lifted M_taken M_above M_allLifts M_busy M_longest M_onto M_worst M_best M_orders M_together M_ofOne M_ofOther M_seed M_then M_was M_kept M_held M_kindOn M_figureOn M_sorts M_size M_items M_moved M_thrown) H := hP
    have hD : va_D A (wX10_M ca ad_M M_guests M_kind M_figure M_told M_heaps M_holds M_back M_mistakes M_hooks M_letters M_rule M_at 0 M_sort M_text M_row M_field M_fields M_begins M_ruleLetters M_coming M_comingMany M_going M_goingMany M_minute M_pile M_high M_where M_latest M_lifts M_begun M_left M_has M_lifted M_taken M_above M_allLifts M_busy M_longest M_onto M_worst M_best M_orders M_together M_ofOne M_ofOther M_seed M_then M_was M_kept M_held M_kindOn M_figureOn M_sorts M_size M_items M_moved M_thrown) := hD
    obtain rfl := Option.some.inj hF
    exact hret _ _ _ _ hP hD hS dX10_statement_223
  have j189 : ∀ (M_at : Int32) (M_well : Int32) (M_sort : Int32) (M_field : Nat → Int32) (M_fields : Int32) (H : Heap) (locs : List Loc), fX10_statement_J189 fuel M_text M_row M_items M_at M_well M_sort M_field M_fields = some o → va_P D vwCl (wX10_M ca ad_M M_guests M_kind M_figure M_told M_heaps M_holds M_back M_mistakes M_hooks M_letters M_rule M_at M_well M_sort M_text M_row M_field M_fields M_begins M_ruleLetters M_coming M_comingMany M_going M_goingMany M_minute M_pile M_high M_where M_latest M_lifts M_begun M_left M_has M_lifted M_taken M_above M_allLifts M_busy M_longest M_onto M_worst M_best M_orders M_together M_ofOne M_ofOther M_seed M_then M_was M_kept M_held M_kindOn M_figureOn M_sorts M_size M_items M_moved M_thrown) H → va_D A (wX10_M ca ad_M M_guests M_kind M_figure M_told M_heaps M_holds M_back M_mistakes M_hooks M_letters M_rule M_at M_well M_sort M_text M_row M_field M_fields M_begins M_ruleLetters M_coming M_comingMany M_going M_goingMany M_minute M_pile M_high M_where M_latest M_lifts M_begun M_left M_has M_lifted M_taken M_above M_allLifts M_busy M_longest M_onto M_worst M_best M_orders M_together M_ofOne M_ofOther M_seed M_then M_was M_kept M_held M_kindOn M_figureOn M_sorts M_size M_items M_moved M_thrown) → va_S A s.heap H locs → ∀ ls : Array Slot, lv_has ls 2 [(0, .ref (ad_M 0))] → W p l e roX10_statement s m args below meth c H locs 0 0 Q (F0 m 189 ls []) := by
    intro M_at M_well M_sort M_field M_fields H locs hF hP hD hS ls hl
    unfold fX10_statement_J189 at hF
    refine lv_aload_n hx hb dX10_statement_189 rfl (lv_at hl 0 rfl) ?_
    refine va_get (D := D) (ci := 7) (v := .int M_well) (C := RX10) (T := TX10) (N := 58) hx hb hts hin10 hown hK hP 0 rfl rfl 12 (by decide) (hts _ zm_40) (fun _ h9 => h9) rfl dX10_statement_190 ?_
    refine lv_if_eq (tgt := 218) hx hb dX10_statement_193 (by decide) (fun c_25 => ?_) (fun c_25 => ?_)
    · have hF := zt c_25 hF
      exact j218 M_at M_well M_sort M_field M_fields _ _ hF hP hD hS ls (lv_sub hl [0] rfl)
    · have hF := zf c_25 hF
      refine lv_aload_n hx hb dX10_statement_196 rfl (lv_at hl 0 rfl) ?_
      obtain ⟨o_26, hc_26, hF⟩ := zb hF
      refine zcVR (rest := []) (kX10_byteAt l D ca t ad_M M_guests M_kind M_figure M_told M_heaps M_holds M_back M_mistakes M_hooks M_letters M_rule M_at M_well M_sort M_text M_row M_field M_fields M_begins M_ruleLetters M_coming M_comingMany M_going M_goingMany M_minute M_pile M_high M_where M_latest M_lifts M_begun M_left M_has M_lifted M_taken M_above M_allLifts M_busy M_longest M_onto M_worst M_best M_orders M_together M_ofOne M_ofOther M_seed M_then M_was M_kept M_held M_kindOn M_figureOn M_sorts M_size M_items M_moved M_thrown fuel _ hc_26) ⟨hx, hb, hml, hown, hts⟩ (zcwV hts zm_37 zm_38 zm_39 zm_19 zm_36 rfl rfl zdv_X10_byteAt ⟨Nat.le_of_ble_eq_true rfl, Nat.le_of_ble_eq_true rfl⟩) hA hK hZ hP hD hS [0, 1, 2, 3, 4, 5, 6, 7, 8, 9, 10, 11, 12, 13, 14, 15, 16, 17, 18, 19, 20, 21, 22, 23, 24, 25, 26, 27, 28, 29, 30, 31, 32, 33] rfl rfl 7 0 rfl rfl rfl hl.1 (Nat.le_of_ble_eq_true rfl) dX10_statement_197 rfl ?_
      refine lv_bipush (v := 59) hx hb dX10_statement_200 (by decide) ?_
      refine lv_icmp_ne (tgt := 218) hx hb dX10_statement_202 (by decide) (fun c_27 => ?_) (fun c_27 => ?_)
      · have hF := zf c_27 hF
        exact j218 M_at M_well M_sort M_field M_fields _ _ hF hP hD hS ls (lv_sub hl [0] rfl)
      · have hF := zt c_27 hF
        refine lv_aload_n hx hb dX10_statement_205 rfl (lv_at hl 0 rfl) ?_
        refine lv_dup hx hb dX10_statement_206 rfl ?_
        refine va_get (D := D) (ci := 7) (v := .int M_at) (C := RX10) (T := TX10) (N := 58) hx hb hts hin10 hown hK hP 0 rfl rfl 11 (by decide) (hts _ zm_32) (fun _ h9 => h9) rfl dX10_statement_207 ?_
        refine lv_iconst (v := 1) hx hb dX10_statement_210 (by decide) ?_
        refine lv_iadd hx hb dX10_statement_211 ?_
        refine z_let hF (fun at_28 hF => ?_)
        refine va_put (D := D) (ci := 7) (v := .int at_28) (C := RX10) (T := TX10) (N := 58) hx hb hts hin10 tyX10 tyX10_ok nmX10 hown hK hP hD hS 0 rfl rfl 11 (by decide) (hts _ zm_32) (fun _ h9 => h9) rfl (tyX10_ok 11 (by decide)) rfl rfl (Nat.le_of_ble_eq_true rfl) dX10_statement_212 (fun H locs hP hD hS => ?_)
        have hP : va_P D vwCl (wX10_M ca ad_M M_guests M_kind M_figure M_told M_heaps M_holds M_back M_mistakes M_hooks M_letters M_rule at_28 M_well M_sort M_text M_row M_field M_fields M_begins M_ruleLetters M_coming M_comingMany M_going M_goingMany M_minute M_pile M_high M_where M_latest M_lifts M_begun M_left M_has M_lifted M_taken M_above M_allLifts M_busy M_longest M_onto M_worst M_best M_orders M_together M_ofOne M_ofOther M_seed M_then M_was M_kept M_held M_kindOn M_figureOn M_sorts M_size M_items M_moved M_thrown) H := hP
        have hD : va_D A (wX10_M ca ad_M M_guests M_kind M_figure M_told M_heaps M_holds M_back M_mistakes M_hooks M_letters M_rule at_28 M_well M_sort M_text M_row M_field M_fields M_begins M_ruleLetters M_coming M_comingMany M_going M_goingMany M_minute M_pile M_high M_where M_latest M_lifts M_begun M_left M_has M_lifted M_taken M_above M_allLifts M_busy M_longest M_onto M_worst M_best M_orders M_together M_ofOne M_ofOther M_seed M_then M_was M_kept M_held M_kindOn M_figureOn M_sorts M_size M_items M_moved M_thrown) := hD
        refine lv_goto (tgt := 223) hx hb dX10_statement_215 (by decide) ?_
        obtain rfl := Option.some.inj hF
        exact hret _ _ _ _ hP hD hS dX10_statement_223
  have l139 : ∀ (n139 : Nat) (v1 : Int32) (M_at : Int32) (M_well : Int32) (M_sort : Int32) (M_field : Nat → Int32) (M_fields : Int32) (H : Heap) (locs : List Loc), fX10_statement_L139 fuel M_text M_row M_ruleLetters M_items n139 v1 M_at M_well M_sort M_field M_fields = some o → va_P D vwCl (wX10_M ca ad_M M_guests M_kind M_figure M_told M_heaps M_holds M_back M_mistakes M_hooks M_letters M_rule M_at M_well M_sort M_text M_row M_field M_fields M_begins M_ruleLetters M_coming M_comingMany M_going M_goingMany M_minute M_pile M_high M_where M_latest M_lifts M_begun M_left M_has M_lifted M_taken M_above M_allLifts M_busy M_longest M_onto M_worst M_best M_orders M_together M_ofOne M_ofOther M_seed M_then M_was M_kept M_held M_kindOn M_figureOn M_sorts M_size M_items M_moved M_thrown) H → va_D A (wX10_M ca ad_M M_guests M_kind M_figure M_told M_heaps M_holds M_back M_mistakes M_hooks M_letters M_rule M_at M_well M_sort M_text M_row M_field M_fields M_begins M_ruleLetters M_coming M_comingMany M_going M_goingMany M_minute M_pile M_high M_where M_latest M_lifts M_begun M_left M_has M_lifted M_taken M_above M_allLifts M_busy M_longest M_onto M_worst M_best M_orders M_together M_ofOne M_ofOther M_seed M_then M_was M_kept M_held M_kindOn M_figureOn M_sorts M_size M_items M_moved M_thrown) → va_S A s.heap H locs → ∀ ls : Array Slot, lv_has ls 2 [(0, .ref (ad_M 0)), (1, .int v1)] → W p l e roX10_statement s m args below meth c H locs 0 0 Q (F0 m 139 ls []) := by
    intro n139
    induction n139 with
    | zero =>
      intro v1 M_at M_well M_sort M_field M_fields H locs hF
      rw [fX10_statement_L139] at hF
      cases hF
    | succ n139 ih139 =>
      intro v1 M_at M_well M_sort M_field M_fields H locs hF hP hD hS ls hl
      rw [fX10_statement_L139] at hF
      refine lv_iload_n hx hb dX10_statement_139 rfl (lv_at hl 1 rfl) ?_
      refine lv_iconst (v := (-1)) hx hb dX10_statement_140 (by decide) ?_
      refine lv_icmp_eq (tgt := 189) hx hb dX10_statement_141 (by decide) (fun c_19 => ?_) (fun c_19 => ?_)
      · have hF := zt c_19 hF
        exact j189 M_at M_well M_sort M_field M_fields _ _ hF hP hD hS ls (lv_sub hl [0] rfl)
      · have hF := zf c_19 hF
        refine lv_aload_n hx hb dX10_statement_144 rfl (lv_at hl 0 rfl) ?_
        refine va_get (D := D) (ci := 7) (v := .ref (ad_M 5)) (C := RX10) (T := TX10) (N := 58) hx hb hts hin10 hown hK hP 0 rfl rfl 16 (by decide) (hts _ zm_48) (fun _ h9 => h9) rfl dX10_statement_145 ?_
        refine lv_aload_n hx hb dX10_statement_148 rfl (lv_at hl 0 rfl) ?_
        refine va_get (D := D) (ci := 7) (v := .int M_fields) (C := RX10) (T := TX10) (N := 58) hx hb hts hin10 hown hK hP 0 rfl rfl 17 (by decide) (hts _ zm_47) (fun _ h9 => h9) rfl dX10_statement_149 ?_
        refine lv_iload_n hx hb dX10_statement_152 rfl (lv_at hl 1 rfl) ?_
        obtain ⟨h_20, hF⟩ := zgi hF
        refine z_iast hx hb hK hP hD hS 5 0 rfl rfl h_20 dX10_statement_153 (fun g => (wX10_M ca ad_M M_guests M_kind M_figure M_told M_heaps M_holds M_back M_mistakes M_hooks M_letters M_rule M_at M_well M_sort M_text M_row g M_fields M_begins M_ruleLetters M_coming M_comingMany M_going M_goingMany M_minute M_pile M_high M_where M_latest M_lifts M_begun M_left M_has M_lifted M_taken M_above M_allLifts M_busy M_longest M_onto M_worst M_best M_orders M_together M_ofOne M_ofOther M_seed M_then M_was M_kept M_held M_kindOn M_figureOn M_sorts M_size M_items M_moved M_thrown)) (fun _ => rfl) hF (fun M_field_21 H locs hF hP hD hS => ?_)
        refine lv_aload_n hx hb dX10_statement_154 rfl (lv_at hl 0 rfl) ?_
        refine lv_dup hx hb dX10_statement_155 rfl ?_
        refine va_get (D := D) (ci := 7) (v := .int M_fields) (C := RX10) (T := TX10) (N := 58) hx hb hts hin10 hown hK hP 0 rfl rfl 17 (by decide) (hts _ zm_47) (fun _ h9 => h9) rfl dX10_statement_156 ?_
        refine lv_iconst (v := 1) hx hb dX10_statement_159 (by decide) ?_
        refine lv_iadd hx hb dX10_statement_160 ?_
        refine z_let hF (fun fields_22 hF => ?_)
        refine va_put (D := D) (ci := 7) (v := .int fields_22) (C := RX10) (T := TX10) (N := 58) hx hb hts hin10 tyX10 tyX10_ok nmX10 hown hK hP hD hS 0 rfl rfl 17 (by decide) (hts _ zm_47) (fun _ h9 => h9) rfl (tyX10_ok 17 (by decide)) rfl rfl (Nat.le_of_ble_eq_true rfl) dX10_statement_161 (fun H locs hP hD hS => ?_)
        have hP : va_P D vwCl (wX10_M ca ad_M M_guests M_kind M_figure M_told M_heaps M_holds M_back M_mistakes M_hooks M_letters M_rule M_at M_well M_sort M_text M_row M_field_21 fields_22 M_begins M_ruleLetters M_coming M_comingMany M_going M_goingMany M_minute M_pile M_high M_where M_latest M_lifts M_begun M_left M_has M_lifted M_taken M_above M_allLifts M_busy M_longest M_onto M_worst M_best M_orders M_together M_ofOne M_ofOther M_seed M_then M_was M_kept M_held M_kindOn M_figureOn M_sorts M_size M_items M_moved M_thrown) H := hP
        have hD : va_D A (wX10_M ca ad_M M_guests M_kind M_figure M_told M_heaps M_holds M_back M_mistakes M_hooks M_letters M_rule M_at M_well M_sort M_text M_row M_field_21 fields_22 M_begins M_ruleLetters M_coming M_comingMany M_going M_goingMany M_minute M_pile M_high M_where M_latest M_lifts M_begun M_left M_has M_lifted M_taken M_above M_allLifts M_busy M_longest M_onto M_worst M_best M_orders M_together M_ofOne M_ofOther M_seed M_then M_was M_kept M_held M_kindOn M_figureOn M_sorts M_size M_items M_moved M_thrown) := hD
        refine lv_aload_n hx hb dX10_statement_164 rfl (lv_at hl 0 rfl) ?_
        refine va_get (D := D) (ci := 7) (v := .int fields_22) (C := RX10) (T := TX10) (N := 58) hx hb hts hin10 hown hK hP 0 rfl rfl 17 (by decide) (hts _ zm_47) (fun _ h9 => h9) rfl dX10_statement_165 ?_
        refine lv_bipush (v := 6) hx hb dX10_statement_168 (by decide) ?_
        refine lv_icmp_ge (tgt := 184) hx hb dX10_statement_170 (by decide) (fun c_23 => ?_) (fun c_23 => ?_)
        · have hF := zt c_23 hF
          refine lv_iconst (v := (-1)) hx hb dX10_statement_184 (by decide) ?_
          refine lv_istore_n (lv' := [(1, .int (-1)), (0, .ref (ad_M 0))]) hx hb dX10_statement_185 rfl hl (by decide) rfl (fun ls hl => ?_)
          refine lv_goto (tgt := 139) hx hb dX10_statement_186 (by decide) ?_
          exact ih139 (-1) M_at M_well M_sort M_field_21 fields_22 _ _ hF hP hD hS ls (lv_sub hl [1, 0] rfl)
        · have hF := zf c_23 hF
          refine lv_aload_n hx hb dX10_statement_173 rfl (lv_at hl 0 rfl) ?_
          refine lv_aload_n hx hb dX10_statement_174 rfl (lv_at hl 0 rfl) ?_
          refine va_get (D := D) (ci := 7) (v := .ref (ad_M 7)) (C := RX10) (T := TX10) (N := 58) hx hb hts hin10 hown hK hP 0 rfl rfl 19 (by decide) (hts _ zm_53) (fun _ h9 => h9) rfl dX10_statement_175 ?_
          obtain ⟨o_24, hc_24, hF⟩ := zb hF
          refine zcVi (rest := []) (ws' := (wX10_M ca ad_M M_guests M_kind M_figure M_told M_heaps M_holds M_back M_mistakes M_hooks M_letters M_rule o_24.2 M_well M_sort M_text M_row M_field_21 fields_22 M_begins M_ruleLetters M_coming M_comingMany M_going M_goingMany M_minute M_pile M_high M_where M_latest M_lifts M_begun M_left M_has M_lifted M_taken M_above M_allLifts M_busy M_longest M_onto M_worst M_best M_orders M_together M_ofOne M_ofOther M_seed M_then M_was M_kept M_held M_kindOn M_figureOn M_sorts M_size M_items M_moved M_thrown)) (kX10_oneOf_ruleLetters l D ca t ad_M M_guests M_kind M_figure M_told M_heaps M_holds M_back M_mistakes M_hooks M_letters M_rule M_at M_well M_sort M_text M_row M_field_21 fields_22 M_begins M_ruleLetters M_coming M_comingMany M_going M_goingMany M_minute M_pile M_high M_where M_latest M_lifts M_begun M_left M_has M_lifted M_taken M_above M_allLifts M_busy M_longest M_onto M_worst M_best M_orders M_together M_ofOne M_ofOther M_seed M_then M_was M_kept M_held M_kindOn M_figureOn M_sorts M_size M_items M_moved M_thrown fuel _ hc_24) ⟨hx, hb, hml, hown, hts⟩ (zcwV hts zm_43 zm_44 zm_45 zm_19 zm_42 rfl rfl zdv_X10_oneOf ⟨Nat.le_of_ble_eq_true rfl, Nat.le_of_ble_eq_true rfl⟩) hA hK hZ hP hD hS [0, 1, 2, 3, 4, 5, 6, 7, 8, 9, 10, 11, 12, 13, 14, 15, 16, 17, 18, 19, 20, 21, 22, 23, 24, 25, 26, 27, 28, 29, 30, 31, 32, 33] [] [0, 1, 2, 3, 4, 5, 6, 7, 8, 9, 10, 11, 12, 13, 14, 15, 16, 17, 18, 19, 20, 21, 22, 23, 24, 25, 26, 27, 28, 29, 30, 31, 32, 33] rfl rfl rfl rfl rfl rfl rfl 7 0 rfl rfl rfl hl.1 (Nat.le_of_ble_eq_true rfl) dX10_statement_178 rfl (fun H locs hP hD hS => ?_)
          refine lv_goto (tgt := 185) hx hb dX10_statement_181 (by decide) ?_
          refine lv_istore_n (lv' := [(1, .int o_24.1), (0, .ref (ad_M 0))]) hx hb dX10_statement_185 rfl hl (by decide) rfl (fun ls hl => ?_)
          refine lv_goto (tgt := 139) hx hb dX10_statement_186 (by decide) ?_
          exact ih139 o_24.1 o_24.2 M_well M_sort M_field_21 fields_22 _ _ hF hP hD hS ls (lv_sub hl [1, 0] rfl)
  have j122 : ∀ (M_at : Int32) (M_well : Int32) (M_sort : Int32) (M_field : Nat → Int32) (M_fields : Int32) (H : Heap) (locs : List Loc), fX10_statement_J122 fuel M_text M_row M_ruleLetters M_items M_at M_well M_sort M_field M_fields = some o → va_P D vwCl (wX10_M ca ad_M M_guests M_kind M_figure M_told M_heaps M_holds M_back M_mistakes M_hooks M_letters M_rule M_at M_well M_sort M_text M_row M_field M_fields M_begins M_ruleLetters M_coming M_comingMany M_going M_goingMany M_minute M_pile M_high M_where M_latest M_lifts M_begun M_left M_has M_lifted M_taken M_above M_allLifts M_busy M_longest M_onto M_worst M_best M_orders M_together M_ofOne M_ofOther M_seed M_then M_was M_kept M_held M_kindOn M_figureOn M_sorts M_size M_items M_moved M_thrown) H → va_D A (wX10_M ca ad_M M_guests M_kind M_figure M_told M_heaps M_holds M_back M_mistakes M_hooks M_letters M_rule M_at M_well M_sort M_text M_row M_field M_fields M_begins M_ruleLetters M_coming M_comingMany M_going M_goingMany M_minute M_pile M_high M_where M_latest M_lifts M_begun M_left M_has M_lifted M_taken M_above M_allLifts M_busy M_longest M_onto M_worst M_best M_orders M_together M_ofOne M_ofOther M_seed M_then M_was M_kept M_held M_kindOn M_figureOn M_sorts M_size M_items M_moved M_thrown) → va_S A s.heap H locs → ∀ ls : Array Slot, lv_has ls 2 [(0, .ref (ad_M 0))] → W p l e roX10_statement s m args below meth c H locs 0 0 Q (F0 m 122 ls []) := by
    intro M_at M_well M_sort M_field M_fields H locs hF hP hD hS ls hl
    unfold fX10_statement_J122 at hF
    refine lv_aload_n hx hb dX10_statement_122 rfl (lv_at hl 0 rfl) ?_
    refine va_get (D := D) (ci := 7) (v := .int M_sort) (C := RX10) (T := TX10) (N := 58) hx hb hts hin10 hown hK hP 0 rfl rfl 13 (by decide) (hts _ zm_46) (fun _ h9 => h9) rfl dX10_statement_123 ?_
    refine lv_iconst (v := 5) hx hb dX10_statement_126 (by decide) ?_
    refine lv_icmp_ne (tgt := 189) hx hb dX10_statement_127 (by decide) (fun c_17 => ?_) (fun c_17 => ?_)
    · have hF := zf c_17 hF
      exact j189 M_at M_well M_sort M_field M_fields _ _ hF hP hD hS ls (lv_sub hl [0] rfl)
    · have hF := zt c_17 hF
      refine lv_aload_n hx hb dX10_statement_130 rfl (lv_at hl 0 rfl) ?_
      refine lv_aload_n hx hb dX10_statement_131 rfl (lv_at hl 0 rfl) ?_
      refine va_get (D := D) (ci := 7) (v := .ref (ad_M 7)) (C := RX10) (T := TX10) (N := 58) hx hb hts hin10 hown hK hP 0 rfl rfl 19 (by decide) (hts _ zm_53) (fun _ h9 => h9) rfl dX10_statement_132 ?_
      obtain ⟨o_18, hc_18, hF⟩ := zb hF
      refine zcVi (rest := []) (ws' := (wX10_M ca ad_M M_guests M_kind M_figure M_told M_heaps M_holds M_back M_mistakes M_hooks M_letters M_rule o_18.2 M_well M_sort M_text M_row M_field M_fields M_begins M_ruleLetters M_coming M_comingMany M_going M_goingMany M_minute M_pile M_high M_where M_latest M_lifts M_begun M_left M_has M_lifted M_taken M_above M_allLifts M_busy M_longest M_onto M_worst M_best M_orders M_together M_ofOne M_ofOther M_seed M_then M_was M_kept M_held M_kindOn M_figureOn M_sorts M_size M_items M_moved M_thrown)) (kX10_oneOf_ruleLetters l D ca t ad_M M_guests M_kind M_figure M_told M_heaps M_holds M_back M_mistakes M_hooks M_letters M_rule M_at M_well M_sort M_text M_row M_field M_fields M_begins M_ruleLetters M_coming M_comingMany M_going M_goingMany M_minute M_pile M_high M_where M_latest M_lifts M_begun M_left M_has M_lifted M_taken M_above M_allLifts M_busy M_longest M_onto M_worst M_best M_orders M_together M_ofOne M_ofOther M_seed M_then M_was M_kept M_held M_kindOn M_figureOn M_sorts M_size M_items M_moved M_thrown fuel _ hc_18) ⟨hx, hb, hml, hown, hts⟩ (zcwV hts zm_43 zm_44 zm_45 zm_19 zm_42 rfl rfl zdv_X10_oneOf ⟨Nat.le_of_ble_eq_true rfl, Nat.le_of_ble_eq_true rfl⟩) hA hK hZ hP hD hS [0, 1, 2, 3, 4, 5, 6, 7, 8, 9, 10, 11, 12, 13, 14, 15, 16, 17, 18, 19, 20, 21, 22, 23, 24, 25, 26, 27, 28, 29, 30, 31, 32, 33] [] [0, 1, 2, 3, 4, 5, 6, 7, 8, 9, 10, 11, 12, 13, 14, 15, 16, 17, 18, 19, 20, 21, 22, 23, 24, 25, 26, 27, 28, 29, 30, 31, 32, 33] rfl rfl rfl rfl rfl rfl rfl 7 0 rfl rfl rfl hl.1 (Nat.le_of_ble_eq_true rfl) dX10_statement_135 rfl (fun H locs hP hD hS => ?_)
      refine lv_istore_n (lv' := [(1, .int o_18.1), (0, .ref (ad_M 0))]) hx hb dX10_statement_138 rfl hl (by decide) rfl (fun ls hl => ?_)
      exact l139 fuel o_18.1 o_18.2 M_well M_sort M_field M_fields _ _ hF hP hD hS ls (lv_sub hl [1, 0] rfl)
  have j95 : ∀ (M_at : Int32) (M_well : Int32) (M_sort : Int32) (M_field : Nat → Int32) (M_fields : Int32) (H : Heap) (locs : List Loc), fX10_statement_J95 fuel M_text M_row M_ruleLetters M_items M_at M_well M_sort M_field M_fields = some o → va_P D vwCl (wX10_M ca ad_M M_guests M_kind M_figure M_told M_heaps M_holds M_back M_mistakes M_hooks M_letters M_rule M_at M_well M_sort M_text M_row M_field M_fields M_begins M_ruleLetters M_coming M_comingMany M_going M_goingMany M_minute M_pile M_high M_where M_latest M_lifts M_begun M_left M_has M_lifted M_taken M_above M_allLifts M_busy M_longest M_onto M_worst M_best M_orders M_together M_ofOne M_ofOther M_seed M_then M_was M_kept M_held M_kindOn M_figureOn M_sorts M_size M_items M_moved M_thrown) H → va_D A (wX10_M ca ad_M M_guests M_kind M_figure M_told M_heaps M_holds M_back M_mistakes M_hooks M_letters M_rule M_at M_well M_sort M_text M_row M_field M_fields M_begins M_ruleLetters M_coming M_comingMany M_going M_goingMany M_minute M_pile M_high M_where M_latest M_lifts M_begun M_left M_has M_lifted M_taken M_above M_allLifts M_busy M_longest M_onto M_worst M_best M_orders M_together M_ofOne M_ofOther M_seed M_then M_was M_kept M_held M_kindOn M_figureOn M_sorts M_size M_items M_moved M_thrown) → va_S A s.heap H locs → ∀ ls : Array Slot, lv_has ls 2 [(0, .ref (ad_M 0))] → W p l e roX10_statement s m args below meth c H locs 0 0 Q (F0 m 95 ls []) := by
    intro M_at M_well M_sort M_field M_fields H locs hF hP hD hS ls hl
    unfold fX10_statement_J95 at hF
    refine lv_aload_n hx hb dX10_statement_95 rfl (lv_at hl 0 rfl) ?_
    refine va_get (D := D) (ci := 7) (v := .int M_sort) (C := RX10) (T := TX10) (N := 58) hx hb hts hin10 hown hK hP 0 rfl rfl 13 (by decide) (hts _ zm_46) (fun _ h9 => h9) rfl dX10_statement_96 ?_
    refine lv_if_ne (tgt := 122) hx hb dX10_statement_99 (by decide) (fun c_14 => ?_) (fun c_14 => ?_)
    · have hF := zf c_14 hF
      exact j122 M_at M_well M_sort M_field M_fields _ _ hF hP hD hS ls (lv_sub hl [0] rfl)
    · have hF := zt c_14 hF
      refine lv_aload_n hx hb dX10_statement_102 rfl (lv_at hl 0 rfl) ?_
      refine va_get (D := D) (ci := 7) (v := .ref (ad_M 5)) (C := RX10) (T := TX10) (N := 58) hx hb hts hin10 hown hK hP 0 rfl rfl 16 (by decide) (hts _ zm_48) (fun _ h9 => h9) rfl dX10_statement_103 ?_
      refine lv_iconst (v := 2) hx hb dX10_statement_106 (by decide) ?_
      refine lv_bipush (v := 10) hx hb dX10_statement_107 (by decide) ?_
      refine lv_aload_n hx hb dX10_statement_109 rfl (lv_at hl 0 rfl) ?_
      refine va_get (D := D) (ci := 7) (v := .ref (ad_M 5)) (C := RX10) (T := TX10) (N := 58) hx hb hts hin10 hown hK hP 0 rfl rfl 16 (by decide) (hts _ zm_48) (fun _ h9 => h9) rfl dX10_statement_110 ?_
      refine lv_iconst (v := 2) hx hb dX10_statement_113 (by decide) ?_
      refine z_ialdK 2 hx hb hK hP 5 0 rfl rfl (zin_ok (by decide)) (by decide) dX10_statement_114 ?_
      refine lv_imul hx hb dX10_statement_115 ?_
      refine lv_aload_n hx hb dX10_statement_116 rfl (lv_at hl 0 rfl) ?_
      obtain ⟨o_15, hc_15, hF⟩ := zb hF
      refine zcVi (rest := [.int ((10 * (M_field 2))), .int 2, .ref (ad_M 5)]) (ws' := (wX10_M ca ad_M M_guests M_kind M_figure M_told M_heaps M_holds M_back M_mistakes M_hooks M_letters M_rule o_15.2.1 o_15.2.2 M_sort M_text M_row M_field M_fields M_begins M_ruleLetters M_coming M_comingMany M_going M_goingMany M_minute M_pile M_high M_where M_latest M_lifts M_begun M_left M_has M_lifted M_taken M_above M_allLifts M_busy M_longest M_onto M_worst M_best M_orders M_together M_ofOne M_ofOther M_seed M_then M_was M_kept M_held M_kindOn M_figureOn M_sorts M_size M_items M_moved M_thrown)) (kX10_figure l D ca t ad_M M_guests M_kind M_figure M_told M_heaps M_holds M_back M_mistakes M_hooks M_letters M_rule M_at M_well M_sort M_text M_row M_field M_fields M_begins M_ruleLetters M_coming M_comingMany M_going M_goingMany M_minute M_pile M_high M_where M_latest M_lifts M_begun M_left M_has M_lifted M_taken M_above M_allLifts M_busy M_longest M_onto M_worst M_best M_orders M_together M_ofOne M_ofOther M_seed M_then M_was M_kept M_held M_kindOn M_figureOn M_sorts M_size M_items M_moved M_thrown fuel _ hc_15) ⟨hx, hb, hml, hown, hts⟩ (zcwV hts zm_50 zm_51 zm_52 zm_19 zm_49 rfl rfl zdv_X10_figure ⟨Nat.le_of_ble_eq_true rfl, Nat.le_of_ble_eq_true rfl⟩) hA hK hZ hP hD hS [0, 1, 2, 3, 4, 5, 6, 7, 8, 9, 10, 11, 12, 13, 14, 15, 16, 17, 18, 19, 20, 21, 22, 23, 24, 25, 26, 27, 28, 29, 30, 31, 32, 33] [] [0, 1, 2, 3, 4, 5, 6, 7, 8, 9, 10, 11, 12, 13, 14, 15, 16, 17, 18, 19, 20, 21, 22, 23, 24, 25, 26, 27, 28, 29, 30, 31, 32, 33] rfl rfl rfl rfl rfl rfl rfl 7 0 rfl rfl rfl hl.1 (Nat.le_of_ble_eq_true rfl) dX10_statement_117 rfl (fun H locs hP hD hS => ?_)
      refine lv_iadd hx hb dX10_statement_120 ?_
      refine z_iastK 2 hx hb hK hP hD hS 5 0 rfl rfl (zin_ok (by decide)) (by decide) dX10_statement_121 (fun g => (wX10_M ca ad_M M_guests M_kind M_figure M_told M_heaps M_holds M_back M_mistakes M_hooks M_letters M_rule o_15.2.1 o_15.2.2 M_sort M_text M_row g M_fields M_begins M_ruleLetters M_coming M_comingMany M_going M_goingMany M_minute M_pile M_high M_where M_latest M_lifts M_begun M_left M_has M_lifted M_taken M_above M_allLifts M_busy M_longest M_onto M_worst M_best M_orders M_together M_ofOne M_ofOther M_seed M_then M_was M_kept M_held M_kindOn M_figureOn M_sorts M_size M_items M_moved M_thrown)) (fun _ => rfl) hF (fun M_field_16 H locs hF hP hD hS => ?_)
      exact j122 o_15.2.1 o_15.2.2 M_sort M_field_16 M_fields _ _ hF hP hD hS ls (lv_sub hl [0] rfl)
  have l71 : ∀ (n71 : Nat) (v1 : Int32) (M_at : Int32) (M_well : Int32) (M_sort : Int32) (M_field : Nat → Int32) (M_fields : Int32) (H : Heap) (locs : List Loc), fX10_statement_L71 fuel M_text M_row M_ruleLetters M_items n71 v1 M_at M_well M_sort M_field M_fields = some o → va_P D vwCl (wX10_M ca ad_M M_guests M_kind M_figure M_told M_heaps M_holds M_back M_mistakes M_hooks M_letters M_rule M_at M_well M_sort M_text M_row M_field M_fields M_begins M_ruleLetters M_coming M_comingMany M_going M_goingMany M_minute M_pile M_high M_where M_latest M_lifts M_begun M_left M_has M_lifted M_taken M_above M_allLifts M_busy M_longest M_onto M_worst M_best M_orders M_together M_ofOne M_ofOther M_seed M_then M_was M_kept M_held M_kindOn M_figureOn M_sorts M_size M_items M_moved M_thrown) H → va_D A (wX10_M ca ad_M M_guests M_kind M_figure M_told M_heaps M_holds M_back M_mistakes M_hooks M_letters M_rule M_at M_well M_sort M_text M_row M_field M_fields M_begins M_ruleLetters M_coming M_comingMany M_going M_goingMany M_minute M_pile M_high M_where M_latest M_lifts M_begun M_left M_has M_lifted M_taken M_above M_allLifts M_busy M_longest M_onto M_worst M_best M_orders M_together M_ofOne M_ofOther M_seed M_then M_was M_kept M_held M_kindOn M_figureOn M_sorts M_size M_items M_moved M_thrown) → va_S A s.heap H locs → ∀ ls : Array Slot, lv_has ls 2 [(0, .ref (ad_M 0)), (1, .int v1)] → W p l e roX10_statement s m args below meth c H locs 0 0 Q (F0 m 71 ls []) := by
    intro n71
    induction n71 with
    | zero =>
      intro v1 M_at M_well M_sort M_field M_fields H locs hF
      rw [fX10_statement_L71] at hF
      cases hF
    | succ n71 ih71 =>
      intro v1 M_at M_well M_sort M_field M_fields H locs hF hP hD hS ls hl
      rw [fX10_statement_L71] at hF
      refine lv_iload_n hx hb dX10_statement_71 rfl (lv_at hl 1 rfl) ?_
      refine lv_aload_n hx hb dX10_statement_72 rfl (lv_at hl 0 rfl) ?_
      refine va_get (D := D) (ci := 7) (v := .int M_fields) (C := RX10) (T := TX10) (N := 58) hx hb hts hin10 hown hK hP 0 rfl rfl 17 (by decide) (hts _ zm_47) (fun _ h9 => h9) rfl dX10_statement_73 ?_
      refine lv_icmp_ge (tgt := 95) hx hb dX10_statement_76 (by decide) (fun c_9 => ?_) (fun c_9 => ?_)
      · have hF := zt c_9 hF
        exact j95 M_at M_well M_sort M_field M_fields _ _ hF hP hD hS ls (lv_sub hl [0] rfl)
      · have hF := zf c_9 hF
        refine lv_aload_n hx hb dX10_statement_79 rfl (lv_at hl 0 rfl) ?_
        refine va_get (D := D) (ci := 7) (v := .ref (ad_M 5)) (C := RX10) (T := TX10) (N := 58) hx hb hts hin10 hown hK hP 0 rfl rfl 16 (by decide) (hts _ zm_48) (fun _ h9 => h9) rfl dX10_statement_80 ?_
        refine lv_iload_n hx hb dX10_statement_83 rfl (lv_at hl 1 rfl) ?_
        refine lv_aload_n hx hb dX10_statement_84 rfl (lv_at hl 0 rfl) ?_
        obtain ⟨o_10, hc_10, hF⟩ := zb hF
        refine zcVi (rest := [.int v1, .ref (ad_M 5)]) (ws' := (wX10_M ca ad_M M_guests M_kind M_figure M_told M_heaps M_holds M_back M_mistakes M_hooks M_letters M_rule o_10.2.1 o_10.2.2 M_sort M_text M_row M_field M_fields M_begins M_ruleLetters M_coming M_comingMany M_going M_goingMany M_minute M_pile M_high M_where M_latest M_lifts M_begun M_left M_has M_lifted M_taken M_above M_allLifts M_busy M_longest M_onto M_worst M_best M_orders M_together M_ofOne M_ofOther M_seed M_then M_was M_kept M_held M_kindOn M_figureOn M_sorts M_size M_items M_moved M_thrown)) (kX10_figure l D ca t ad_M M_guests M_kind M_figure M_told M_heaps M_holds M_back M_mistakes M_hooks M_letters M_rule M_at M_well M_sort M_text M_row M_field M_fields M_begins M_ruleLetters M_coming M_comingMany M_going M_goingMany M_minute M_pile M_high M_where M_latest M_lifts M_begun M_left M_has M_lifted M_taken M_above M_allLifts M_busy M_longest M_onto M_worst M_best M_orders M_together M_ofOne M_ofOther M_seed M_then M_was M_kept M_held M_kindOn M_figureOn M_sorts M_size M_items M_moved M_thrown fuel _ hc_10) ⟨hx, hb, hml, hown, hts⟩ (zcwV hts zm_50 zm_51 zm_52 zm_19 zm_49 rfl rfl zdv_X10_figure ⟨Nat.le_of_ble_eq_true rfl, Nat.le_of_ble_eq_true rfl⟩) hA hK hZ hP hD hS [0, 1, 2, 3, 4, 5, 6, 7, 8, 9, 10, 11, 12, 13, 14, 15, 16, 17, 18, 19, 20, 21, 22, 23, 24, 25, 26, 27, 28, 29, 30, 31, 32, 33] [] [0, 1, 2, 3, 4, 5, 6, 7, 8, 9, 10, 11, 12, 13, 14, 15, 16, 17, 18, 19, 20, 21, 22, 23, 24, 25, 26, 27, 28, 29, 30, 31, 32, 33] rfl rfl rfl rfl rfl rfl rfl 7 0 rfl rfl rfl hl.1 (Nat.le_of_ble_eq_true rfl) dX10_statement_85 rfl (fun H locs hP hD hS => ?_)
        obtain ⟨h_11, hF⟩ := zgi hF
        refine z_iast hx hb hK hP hD hS 5 0 rfl rfl h_11 dX10_statement_88 (fun g => (wX10_M ca ad_M M_guests M_kind M_figure M_told M_heaps M_holds M_back M_mistakes M_hooks M_letters M_rule o_10.2.1 o_10.2.2 M_sort M_text M_row g M_fields M_begins M_ruleLetters M_coming M_comingMany M_going M_goingMany M_minute M_pile M_high M_where M_latest M_lifts M_begun M_left M_has M_lifted M_taken M_above M_allLifts M_busy M_longest M_onto M_worst M_best M_orders M_together M_ofOne M_ofOther M_seed M_then M_was M_kept M_held M_kindOn M_figureOn M_sorts M_size M_items M_moved M_thrown)) (fun _ => rfl) hF (fun M_field_12 H locs hF hP hD hS => ?_)
        refine z_iinc (kv := 1) hx hb 1 dX10_statement_89 hl rfl (by decide) (by decide) (fun g => [(1, .int g), (0, .ref (ad_M 0))]) (fun _ => rfl) hF (fun v1_13 ls hF hl => ?_)
        refine lv_goto (tgt := 71) hx hb dX10_statement_92 (by decide) ?_
        exact ih71 v1_13 o_10.2.1 o_10.2.2 M_sort M_field_12 M_fields _ _ hF hP hD hS ls (lv_sub hl [1, 0] rfl)
  unfold fX10_statement at hF
  refine lv_aload_n hx hb dX10_statement_0 rfl (lv_at hl 0 rfl) ?_
  refine lv_aload_n hx hb dX10_statement_1 rfl (lv_at hl 0 rfl) ?_
  refine lv_aload_n hx hb dX10_statement_2 rfl (lv_at hl 0 rfl) ?_
  refine va_get (D := D) (ci := 7) (v := .ref (ad_M 6)) (C := RX10) (T := TX10) (N := 58) hx hb hts hin10 hown hK hP 0 rfl rfl 18 (by decide) (hts _ zm_41) (fun _ h9 => h9) rfl dX10_statement_3 ?_
  obtain ⟨o_1, hc_1, hF⟩ := zb hF
  refine zcVi (rest := [.ref (ad_M 0)]) (ws' := (wX10_M ca ad_M M_guests M_kind M_figure M_told M_heaps M_holds M_back M_mistakes M_hooks M_letters M_rule o_1.2 M_well M_sort M_text M_row M_field M_fields M_begins M_ruleLetters M_coming M_comingMany M_going M_goingMany M_minute M_pile M_high M_where M_latest M_lifts M_begun M_left M_has M_lifted M_taken M_above M_allLifts M_busy M_longest M_onto M_worst M_best M_orders M_together M_ofOne M_ofOther M_seed M_then M_was M_kept M_held M_kindOn M_figureOn M_sorts M_size M_items M_moved M_thrown)) (kX10_oneOf_begins l D ca t ad_M M_guests M_kind M_figure M_told M_heaps M_holds M_back M_mistakes M_hooks M_letters M_rule M_at M_well M_sort M_text M_row M_field M_fields M_begins M_ruleLetters M_coming M_comingMany M_going M_goingMany M_minute M_pile M_high M_where M_latest M_lifts M_begun M_left M_has M_lifted M_taken M_above M_allLifts M_busy M_longest M_onto M_worst M_best M_orders M_together M_ofOne M_ofOther M_seed M_then M_was M_kept M_held M_kindOn M_figureOn M_sorts M_size M_items M_moved M_thrown fuel _ hc_1) ⟨hx, hb, hml, hown, hts⟩ (zcwV hts zm_43 zm_44 zm_45 zm_19 zm_42 rfl rfl zdv_X10_oneOf ⟨Nat.le_of_ble_eq_true rfl, Nat.le_of_ble_eq_true rfl⟩) hA hK hZ hP hD hS [0, 1, 2, 3, 4, 5, 6, 7, 8, 9, 10, 11, 12, 13, 14, 15, 16, 17, 18, 19, 20, 21, 22, 23, 24, 25, 26, 27, 28, 29, 30, 31, 32, 33] [] [0, 1, 2, 3, 4, 5, 6, 7, 8, 9, 10, 11, 12, 13, 14, 15, 16, 17, 18, 19, 20, 21, 22, 23, 24, 25, 26, 27, 28, 29, 30, 31, 32, 33] rfl rfl rfl rfl rfl rfl rfl 7 0 rfl rfl rfl hl.1 (Nat.le_of_ble_eq_true rfl) dX10_statement_6 rfl (fun H locs hP hD hS => ?_)
  refine va_put (D := D) (ci := 7) (v := .int o_1.1) (C := RX10) (T := TX10) (N := 58) hx hb hts hin10 tyX10 tyX10_ok nmX10 hown hK hP hD hS 0 rfl rfl 13 (by decide) (hts _ zm_46) (fun _ h9 => h9) rfl (tyX10_ok 13 (by decide)) rfl rfl (Nat.le_of_ble_eq_true rfl) dX10_statement_9 (fun H locs hP hD hS => ?_)
  have hP : va_P D vwCl (wX10_M ca ad_M M_guests M_kind M_figure M_told M_heaps M_holds M_back M_mistakes M_hooks M_letters M_rule o_1.2 M_well o_1.1 M_text M_row M_field M_fields M_begins M_ruleLetters M_coming M_comingMany M_going M_goingMany M_minute M_pile M_high M_where M_latest M_lifts M_begun M_left M_has M_lifted M_taken M_above M_allLifts M_busy M_longest M_onto M_worst M_best M_orders M_together M_ofOne M_ofOther M_seed M_then M_was M_kept M_held M_kindOn M_figureOn M_sorts M_size M_items M_moved M_thrown) H := hP
  have hD : va_D A (wX10_M ca ad_M M_guests M_kind M_figure M_told M_heaps M_holds M_back M_mistakes M_hooks M_letters M_rule o_1.2 M_well o_1.1 M_text M_row M_field M_fields M_begins M_ruleLetters M_coming M_comingMany M_going M_goingMany M_minute M_pile M_high M_where M_latest M_lifts M_begun M_left M_has M_lifted M_taken M_above M_allLifts M_busy M_longest M_onto M_worst M_best M_orders M_together M_ofOne M_ofOther M_seed M_then M_was M_kept M_held M_kindOn M_figureOn M_sorts M_size M_items M_moved M_thrown) := hD
  refine lv_aload_n hx hb dX10_statement_12 rfl (lv_at hl 0 rfl) ?_
  refine lv_aload_n hx hb dX10_statement_13 rfl (lv_at hl 0 rfl) ?_
  refine va_get (D := D) (ci := 7) (v := .int o_1.1) (C := RX10) (T := TX10) (N := 58) hx hb hts hin10 hown hK hP 0 rfl rfl 13 (by decide) (hts _ zm_46) (fun _ h9 => h9) rfl dX10_statement_14 ?_
  refine lv_iconst (v := (-1)) hx hb dX10_statement_17 (by decide) ?_
  refine lv_icmp_eq (tgt := 25) hx hb dX10_statement_18 (by decide) (fun c_2 => ?_) (fun c_2 => ?_)
  · have hF := zt c_2 hF
    refine lv_iconst (v := 0) hx hb dX10_statement_25 (by decide) ?_
    refine va_put (D := D) (ci := 7) (v := .int 0) (C := RX10) (T := TX10) (N := 58) hx hb hts hin10 tyX10 tyX10_ok nmX10 hown hK hP hD hS 0 rfl rfl 12 (by decide) (hts _ zm_40) (fun _ h9 => h9) rfl (tyX10_ok 12 (by decide)) rfl rfl (Nat.le_of_ble_eq_true rfl) dX10_statement_26 (fun H locs hP hD hS => ?_)
    have hP : va_P D vwCl (wX10_M ca ad_M M_guests M_kind M_figure M_told M_heaps M_holds M_back M_mistakes M_hooks M_letters M_rule o_1.2 0 o_1.1 M_text M_row M_field M_fields M_begins M_ruleLetters M_coming M_comingMany M_going M_goingMany M_minute M_pile M_high M_where M_latest M_lifts M_begun M_left M_has M_lifted M_taken M_above M_allLifts M_busy M_longest M_onto M_worst M_best M_orders M_together M_ofOne M_ofOther M_seed M_then M_was M_kept M_held M_kindOn M_figureOn M_sorts M_size M_items M_moved M_thrown) H := hP
    have hD : va_D A (wX10_M ca ad_M M_guests M_kind M_figure M_told M_heaps M_holds M_back M_mistakes M_hooks M_letters M_rule o_1.2 0 o_1.1 M_text M_row M_field M_fields M_begins M_ruleLetters M_coming M_comingMany M_going M_goingMany M_minute M_pile M_high M_where M_latest M_lifts M_begun M_left M_has M_lifted M_taken M_above M_allLifts M_busy M_longest M_onto M_worst M_best M_orders M_together M_ofOne M_ofOther M_seed M_then M_was M_kept M_held M_kindOn M_figureOn M_sorts M_size M_items M_moved M_thrown) := hD
    refine lv_aload_n hx hb dX10_statement_29 rfl (lv_at hl 0 rfl) ?_
    refine lv_aload_n hx hb dX10_statement_30 rfl (lv_at hl 0 rfl) ?_
    refine va_get (D := D) (ci := 7) (v := .int o_1.1) (C := RX10) (T := TX10) (N := 58) hx hb hts hin10 hown hK hP 0 rfl rfl 13 (by decide) (hts _ zm_46) (fun _ h9 => h9) rfl dX10_statement_31 ?_
    refine lv_if_ne (tgt := 41) hx hb dX10_statement_34 (by decide) (fun c_3 => ?_) (fun c_3 => ?_)
    · have hF := zf c_3 hF
      refine lv_aload_n hx hb dX10_statement_41 rfl (lv_at hl 0 rfl) ?_
      refine va_get (D := D) (ci := 7) (v := .int o_1.1) (C := RX10) (T := TX10) (N := 58) hx hb hts hin10 hown hK hP 0 rfl rfl 13 (by decide) (hts _ zm_46) (fun _ h9 => h9) rfl dX10_statement_42 ?_
      refine lv_iconst (v := 1) hx hb dX10_statement_45 (by decide) ?_
      refine lv_icmp_ne (tgt := 53) hx hb dX10_statement_46 (by decide) (fun c_4 => ?_) (fun c_4 => ?_)
      · have hF := zf c_4 hF
        refine lv_aload_n hx hb dX10_statement_53 rfl (lv_at hl 0 rfl) ?_
        refine va_get (D := D) (ci := 7) (v := .int o_1.1) (C := RX10) (T := TX10) (N := 58) hx hb hts hin10 hown hK hP 0 rfl rfl 13 (by decide) (hts _ zm_46) (fun _ h9 => h9) rfl dX10_statement_54 ?_
        refine lv_iconst (v := 5) hx hb dX10_statement_57 (by decide) ?_
        refine lv_icmp_ne (tgt := 65) hx hb dX10_statement_58 (by decide) (fun c_5 => ?_) (fun c_5 => ?_)
        · have hF := zf c_5 hF
          refine lv_iconst (v := 1) hx hb dX10_statement_65 (by decide) ?_
          refine va_put (D := D) (ci := 7) (v := .int 1) (C := RX10) (T := TX10) (N := 58) hx hb hts hin10 tyX10 tyX10_ok nmX10 hown hK hP hD hS 0 rfl rfl 17 (by decide) (hts _ zm_47) (fun _ h9 => h9) rfl (tyX10_ok 17 (by decide)) rfl rfl (Nat.le_of_ble_eq_true rfl) dX10_statement_66 (fun H locs hP hD hS => ?_)
          have hP : va_P D vwCl (wX10_M ca ad_M M_guests M_kind M_figure M_told M_heaps M_holds M_back M_mistakes M_hooks M_letters M_rule o_1.2 0 o_1.1 M_text M_row M_field 1 M_begins M_ruleLetters M_coming M_comingMany M_going M_goingMany M_minute M_pile M_high M_where M_latest M_lifts M_begun M_left M_has M_lifted M_taken M_above M_allLifts M_busy M_longest M_onto M_worst M_best M_orders M_together M_ofOne M_ofOther M_seed M_then M_was M_kept M_held M_kindOn M_figureOn M_sorts M_size M_items M_moved M_thrown) H := hP
          have hD : va_D A (wX10_M ca ad_M M_guests M_kind M_figure M_told M_heaps M_holds M_back M_mistakes M_hooks M_letters M_rule o_1.2 0 o_1.1 M_text M_row M_field 1 M_begins M_ruleLetters M_coming M_comingMany M_going M_goingMany M_minute M_pile M_high M_where M_latest M_lifts M_begun M_left M_has M_lifted M_taken M_above M_allLifts M_busy M_longest M_onto M_worst M_best M_orders M_together M_ofOne M_ofOther M_seed M_then M_was M_kept M_held M_kindOn M_figureOn M_sorts M_size M_items M_moved M_thrown) := hD
          refine lv_iconst (v := 0) hx hb dX10_statement_69 (by decide) ?_
          refine lv_istore_n (lv' := [(1, .int 0), (0, .ref (ad_M 0))]) hx hb dX10_statement_70 rfl hl (by decide) rfl (fun ls hl => ?_)
          exact l71 fuel 0 o_1.2 0 o_1.1 M_field 1 _ _ hF hP hD hS ls (lv_sub hl [1, 0] rfl)
        · have hF := zt c_5 hF
          refine lv_iconst (v := 0) hx hb dX10_statement_61 (by decide) ?_
          refine lv_goto (tgt := 66) hx hb dX10_statement_62 (by decide) ?_
          refine va_put (D := D) (ci := 7) (v := .int 0) (C := RX10) (T := TX10) (N := 58) hx hb hts hin10 tyX10 tyX10_ok nmX10 hown hK hP hD hS 0 rfl rfl 17 (by decide) (hts _ zm_47) (fun _ h9 => h9) rfl (tyX10_ok 17 (by decide)) rfl rfl (Nat.le_of_ble_eq_true rfl) dX10_statement_66 (fun H locs hP hD hS => ?_)
          have hP : va_P D vwCl (wX10_M ca ad_M M_guests M_kind M_figure M_told M_heaps M_holds M_back M_mistakes M_hooks M_letters M_rule o_1.2 0 o_1.1 M_text M_row M_field 0 M_begins M_ruleLetters M_coming M_comingMany M_going M_goingMany M_minute M_pile M_high M_where M_latest M_lifts M_begun M_left M_has M_lifted M_taken M_above M_allLifts M_busy M_longest M_onto M_worst M_best M_orders M_together M_ofOne M_ofOther M_seed M_then M_was M_kept M_held M_kindOn M_figureOn M_sorts M_size M_items M_moved M_thrown) H := hP
          have hD : va_D A (wX10_M ca ad_M M_guests M_kind M_figure M_told M_heaps M_holds M_back M_mistakes M_hooks M_letters M_rule o_1.2 0 o_1.1 M_text M_row M_field 0 M_begins M_ruleLetters M_coming M_comingMany M_going M_goingMany M_minute M_pile M_high M_where M_latest M_lifts M_begun M_left M_has M_lifted M_taken M_above M_allLifts M_busy M_longest M_onto M_worst M_best M_orders M_together M_ofOne M_ofOther M_seed M_then M_was M_kept M_held M_kindOn M_figureOn M_sorts M_size M_items M_moved M_thrown) := hD
          refine lv_iconst (v := 0) hx hb dX10_statement_69 (by decide) ?_
          refine lv_istore_n (lv' := [(1, .int 0), (0, .ref (ad_M 0))]) hx hb dX10_statement_70 rfl hl (by decide) rfl (fun ls hl => ?_)
          exact l71 fuel 0 o_1.2 0 o_1.1 M_field 0 _ _ hF hP hD hS ls (lv_sub hl [1, 0] rfl)
      · have hF := zt c_4 hF
        refine lv_iconst (v := 2) hx hb dX10_statement_49 (by decide) ?_
        refine lv_goto (tgt := 66) hx hb dX10_statement_50 (by decide) ?_
        refine va_put (D := D) (ci := 7) (v := .int 2) (C := RX10) (T := TX10) (N := 58) hx hb hts hin10 tyX10 tyX10_ok nmX10 hown hK hP hD hS 0 rfl rfl 17 (by decide) (hts _ zm_47) (fun _ h9 => h9) rfl (tyX10_ok 17 (by decide)) rfl rfl (Nat.le_of_ble_eq_true rfl) dX10_statement_66 (fun H locs hP hD hS => ?_)
        have hP : va_P D vwCl (wX10_M ca ad_M M_guests M_kind M_figure M_told M_heaps M_holds M_back M_mistakes M_hooks M_letters M_rule o_1.2 0 o_1.1 M_text M_row M_field 2 M_begins M_ruleLetters M_coming M_comingMany M_going M_goingMany M_minute M_pile M_high M_where M_latest M_lifts M_begun M_left M_has M_lifted M_taken M_above M_allLifts M_busy M_longest M_onto M_worst M_best M_orders M_together M_ofOne M_ofOther M_seed M_then M_was M_kept M_held M_kindOn M_figureOn M_sorts M_size M_items M_moved M_thrown) H := hP
        have hD : va_D A (wX10_M ca ad_M M_guests M_kind M_figure M_told M_heaps M_holds M_back M_mistakes M_hooks M_letters M_rule o_1.2 0 o_1.1 M_text M_row M_field 2 M_begins M_ruleLetters M_coming M_comingMany M_going M_goingMany M_minute M_pile M_high M_where M_latest M_lifts M_begun M_left M_has M_lifted M_taken M_above M_allLifts M_busy M_longest M_onto M_worst M_best M_orders M_together M_ofOne M_ofOther M_seed M_then M_was M_kept M_held M_kindOn M_figureOn M_sorts M_size M_items M_moved M_thrown) := hD
        refine lv_iconst (v := 0) hx hb dX10_statement_69 (by decide) ?_
        refine lv_istore_n (lv' := [(1, .int 0), (0, .ref (ad_M 0))]) hx hb dX10_statement_70 rfl hl (by decide) rfl (fun ls hl => ?_)
        exact l71 fuel 0 o_1.2 0 o_1.1 M_field 2 _ _ hF hP hD hS ls (lv_sub hl [1, 0] rfl)
    · have hF := zt c_3 hF
      refine lv_iconst (v := 3) hx hb dX10_statement_37 (by decide) ?_
      refine lv_goto (tgt := 66) hx hb dX10_statement_38 (by decide) ?_
      refine va_put (D := D) (ci := 7) (v := .int 3) (C := RX10) (T := TX10) (N := 58) hx hb hts hin10 tyX10 tyX10_ok nmX10 hown hK hP hD hS 0 rfl rfl 17 (by decide) (hts _ zm_47) (fun _ h9 => h9) rfl (tyX10_ok 17 (by decide)) rfl rfl (Nat.le_of_ble_eq_true rfl) dX10_statement_66 (fun H locs hP hD hS => ?_)
      have hP : va_P D vwCl (wX10_M ca ad_M M_guests M_kind M_figure M_told M_heaps M_holds M_back M_mistakes M_hooks M_letters M_rule o_1.2 0 o_1.1 M_text M_row M_field 3 M_begins M_ruleLetters M_coming M_comingMany M_going M_goingMany M_minute M_pile M_high M_where M_latest M_lifts M_begun M_left M_has M_lifted M_taken M_above M_allLifts M_busy M_longest M_onto M_worst M_best M_orders M_together M_ofOne M_ofOther M_seed M_then M_was M_kept M_held M_kindOn M_figureOn M_sorts M_size M_items M_moved M_thrown) H := hP
      have hD : va_D A (wX10_M ca ad_M M_guests M_kind M_figure M_told M_heaps M_holds M_back M_mistakes M_hooks M_letters M_rule o_1.2 0 o_1.1 M_text M_row M_field 3 M_begins M_ruleLetters M_coming M_comingMany M_going M_goingMany M_minute M_pile M_high M_where M_latest M_lifts M_begun M_left M_has M_lifted M_taken M_above M_allLifts M_busy M_longest M_onto M_worst M_best M_orders M_together M_ofOne M_ofOther M_seed M_then M_was M_kept M_held M_kindOn M_figureOn M_sorts M_size M_items M_moved M_thrown) := hD
      refine lv_iconst (v := 0) hx hb dX10_statement_69 (by decide) ?_
      refine lv_istore_n (lv' := [(1, .int 0), (0, .ref (ad_M 0))]) hx hb dX10_statement_70 rfl hl (by decide) rfl (fun ls hl => ?_)
      exact l71 fuel 0 o_1.2 0 o_1.1 M_field 3 _ _ hF hP hD hS ls (lv_sub hl [1, 0] rfl)
  · have hF := zf c_2 hF
    refine lv_iconst (v := 1) hx hb dX10_statement_21 (by decide) ?_
    refine lv_goto (tgt := 26) hx hb dX10_statement_22 (by decide) ?_
    refine va_put (D := D) (ci := 7) (v := .int 1) (C := RX10) (T := TX10) (N := 58) hx hb hts hin10 tyX10 tyX10_ok nmX10 hown hK hP hD hS 0 rfl rfl 12 (by decide) (hts _ zm_40) (fun _ h9 => h9) rfl (tyX10_ok 12 (by decide)) rfl rfl (Nat.le_of_ble_eq_true rfl) dX10_statement_26 (fun H locs hP hD hS => ?_)
    have hP : va_P D vwCl (wX10_M ca ad_M M_guests M_kind M_figure M_told M_heaps M_holds M_back M_mistakes M_hooks M_letters M_rule o_1.2 1 o_1.1 M_text M_row M_field M_fields M_begins M_ruleLetters M_coming M_comingMany M_going M_goingMany M_minute M_pile M_high M_where M_latest M_lifts M_begun M_left M_has M_lifted M_taken M_above M_allLifts M_busy M_longest M_onto M_worst M_best M_orders M_together M_ofOne M_ofOther M_seed M_then M_was M_kept M_held M_kindOn M_figureOn M_sorts M_size M_items M_moved M_thrown) H := hP
    have hD : va_D A (wX10_M ca ad_M M_guests M_kind M_figure M_told M_heaps M_holds M_back M_mistakes M_hooks M_letters M_rule o_1.2 1 o_1.1 M_text M_row M_field M_fields M_begins M_ruleLetters M_coming M_comingMany M_going M_goingMany M_minute M_pile M_high M_where M_latest M_lifts M_begun M_left M_has M_lifted M_taken M_above M_allLifts M_busy M_longest M_onto M_worst M_best M_orders M_together M_ofOne M_ofOther M_seed M_then M_was M_kept M_held M_kindOn M_figureOn M_sorts M_size M_items M_moved M_thrown) := hD
    refine lv_aload_n hx hb dX10_statement_29 rfl (lv_at hl 0 rfl) ?_
    refine lv_aload_n hx hb dX10_statement_30 rfl (lv_at hl 0 rfl) ?_
    refine va_get (D := D) (ci := 7) (v := .int o_1.1) (C := RX10) (T := TX10) (N := 58) hx hb hts hin10 hown hK hP 0 rfl rfl 13 (by decide) (hts _ zm_46) (fun _ h9 => h9) rfl dX10_statement_31 ?_
    refine lv_if_ne (tgt := 41) hx hb dX10_statement_34 (by decide) (fun c_6 => ?_) (fun c_6 => ?_)
    · have hF := zf c_6 hF
      refine lv_aload_n hx hb dX10_statement_41 rfl (lv_at hl 0 rfl) ?_
      refine va_get (D := D) (ci := 7) (v := .int o_1.1) (C := RX10) (T := TX10) (N := 58) hx hb hts hin10 hown hK hP 0 rfl rfl 13 (by decide) (hts _ zm_46) (fun _ h9 => h9) rfl dX10_statement_42 ?_
      refine lv_iconst (v := 1) hx hb dX10_statement_45 (by decide) ?_
      refine lv_icmp_ne (tgt := 53) hx hb dX10_statement_46 (by decide) (fun c_7 => ?_) (fun c_7 => ?_)
      · have hF := zf c_7 hF
        refine lv_aload_n hx hb dX10_statement_53 rfl (lv_at hl 0 rfl) ?_
        refine va_get (D := D) (ci := 7) (v := .int o_1.1) (C := RX10) (T := TX10) (N := 58) hx hb hts hin10 hown hK hP 0 rfl rfl 13 (by decide) (hts _ zm_46) (fun _ h9 => h9) rfl dX10_statement_54 ?_
        refine lv_iconst (v := 5) hx hb dX10_statement_57 (by decide) ?_
        refine lv_icmp_ne (tgt := 65) hx hb dX10_statement_58 (by decide) (fun c_8 => ?_) (fun c_8 => ?_)
        · have hF := zf c_8 hF
          refine lv_iconst (v := 1) hx hb dX10_statement_65 (by decide) ?_
          refine va_put (D := D) (ci := 7) (v := .int 1) (C := RX10) (T := TX10) (N := 58) hx hb hts hin10 tyX10 tyX10_ok nmX10 hown hK hP hD hS 0 rfl rfl 17 (by decide) (hts _ zm_47) (fun _ h9 => h9) rfl (tyX10_ok 17 (by decide)) rfl rfl (Nat.le_of_ble_eq_true rfl) dX10_statement_66 (fun H locs hP hD hS => ?_)
          have hP : va_P D vwCl (wX10_M ca ad_M M_guests M_kind M_figure M_told M_heaps M_holds M_back M_mistakes M_hooks M_letters M_rule o_1.2 1 o_1.1 M_text M_row M_field 1 M_begins M_ruleLetters M_coming M_comingMany M_going M_goingMany M_minute M_pile M_high M_where M_latest M_lifts M_begun M_left M_has M_lifted M_taken M_above M_allLifts M_busy M_longest M_onto M_worst M_best M_orders M_together M_ofOne M_ofOther M_seed M_then M_was M_kept M_held M_kindOn M_figureOn M_sorts M_size M_items M_moved M_thrown) H := hP
          have hD : va_D A (wX10_M ca ad_M M_guests M_kind M_figure M_told M_heaps M_holds M_back M_mistakes M_hooks M_letters M_rule o_1.2 1 o_1.1 M_text M_row M_field 1 M_begins M_ruleLetters M_coming M_comingMany M_going M_goingMany M_minute M_pile M_high M_where M_latest M_lifts M_begun M_left M_has M_lifted M_taken M_above M_allLifts M_busy M_longest M_onto M_worst M_best M_orders M_together M_ofOne M_ofOther M_seed M_then M_was M_kept M_held M_kindOn M_figureOn M_sorts M_size M_items M_moved M_thrown) := hD
          refine lv_iconst (v := 0) hx hb dX10_statement_69 (by decide) ?_
          refine lv_istore_n (lv' := [(1, .int 0), (0, .ref (ad_M 0))]) hx hb dX10_statement_70 rfl hl (by decide) rfl (fun ls hl => ?_)
          exact l71 fuel 0 o_1.2 1 o_1.1 M_field 1 _ _ hF hP hD hS ls (lv_sub hl [1, 0] rfl)
        · have hF := zt c_8 hF
          refine lv_iconst (v := 0) hx hb dX10_statement_61 (by decide) ?_
          refine lv_goto (tgt := 66) hx hb dX10_statement_62 (by decide) ?_
          refine va_put (D := D) (ci := 7) (v := .int 0) (C := RX10) (T := TX10) (N := 58) hx hb hts hin10 tyX10 tyX10_ok nmX10 hown hK hP hD hS 0 rfl rfl 17 (by decide) (hts _ zm_47) (fun _ h9 => h9) rfl (tyX10_ok 17 (by decide)) rfl rfl (Nat.le_of_ble_eq_true rfl) dX10_statement_66 (fun H locs hP hD hS => ?_)
          have hP : va_P D vwCl (wX10_M ca ad_M M_guests M_kind M_figure M_told M_heaps M_holds M_back M_mistakes M_hooks M_letters M_rule o_1.2 1 o_1.1 M_text M_row M_field 0 M_begins M_ruleLetters M_coming M_comingMany M_going M_goingMany M_minute M_pile M_high M_where M_latest M_lifts M_begun M_left M_has M_lifted M_taken M_above M_allLifts M_busy M_longest M_onto M_worst M_best M_orders M_together M_ofOne M_ofOther M_seed M_then M_was M_kept M_held M_kindOn M_figureOn M_sorts M_size M_items M_moved M_thrown) H := hP
          have hD : va_D A (wX10_M ca ad_M M_guests M_kind M_figure M_told M_heaps M_holds M_back M_mistakes M_hooks M_letters M_rule o_1.2 1 o_1.1 M_text M_row M_field 0 M_begins M_ruleLetters M_coming M_comingMany M_going M_goingMany M_minute M_pile M_high M_where M_latest M_lifts M_begun M_left M_has M_lifted M_taken M_above M_allLifts M_busy M_longest M_onto M_worst M_best M_orders M_together M_ofOne M_ofOther M_seed M_then M_was M_kept M_held M_kindOn M_figureOn M_sorts M_size M_items M_moved M_thrown) := hD
          refine lv_iconst (v := 0) hx hb dX10_statement_69 (by decide) ?_
          refine lv_istore_n (lv' := [(1, .int 0), (0, .ref (ad_M 0))]) hx hb dX10_statement_70 rfl hl (by decide) rfl (fun ls hl => ?_)
          exact l71 fuel 0 o_1.2 1 o_1.1 M_field 0 _ _ hF hP hD hS ls (lv_sub hl [1, 0] rfl)
      · have hF := zt c_7 hF
        refine lv_iconst (v := 2) hx hb dX10_statement_49 (by decide) ?_
        refine lv_goto (tgt := 66) hx hb dX10_statement_50 (by decide) ?_
        refine va_put (D := D) (ci := 7) (v := .int 2) (C := RX10) (T := TX10) (N := 58) hx hb hts hin10 tyX10 tyX10_ok nmX10 hown hK hP hD hS 0 rfl rfl 17 (by decide) (hts _ zm_47) (fun _ h9 => h9) rfl (tyX10_ok 17 (by decide)) rfl rfl (Nat.le_of_ble_eq_true rfl) dX10_statement_66 (fun H locs hP hD hS => ?_)
        have hP : va_P D vwCl (wX10_M ca ad_M M_guests M_kind M_figure M_told M_heaps M_holds M_back M_mistakes M_hooks M_letters M_rule o_1.2 1 o_1.1 M_text M_row M_field 2 M_begins M_ruleLetters M_coming M_comingMany M_going M_goingMany M_minute M_pile M_high M_where M_latest M_lifts M_begun M_left M_has M_lifted M_taken M_above M_allLifts M_busy M_longest M_onto M_worst M_best M_orders M_together M_ofOne M_ofOther M_seed M_then M_was M_kept M_held M_kindOn M_figureOn M_sorts M_size M_items M_moved M_thrown) H := hP
        have hD : va_D A (wX10_M ca ad_M M_guests M_kind M_figure M_told M_heaps M_holds M_back M_mistakes M_hooks M_letters M_rule o_1.2 1 o_1.1 M_text M_row M_field 2 M_begins M_ruleLetters M_coming M_comingMany M_going M_goingMany M_minute M_pile M_high M_where M_latest M_lifts M_begun M_left M_has M_lifted M_taken M_above M_allLifts M_busy M_longest M_onto M_worst M_best M_orders M_together M_ofOne M_ofOther M_seed M_then M_was M_kept M_held M_kindOn M_figureOn M_sorts M_size M_items M_moved M_thrown) := hD
        refine lv_iconst (v := 0) hx hb dX10_statement_69 (by decide) ?_
        refine lv_istore_n (lv' := [(1, .int 0), (0, .ref (ad_M 0))]) hx hb dX10_statement_70 rfl hl (by decide) rfl (fun ls hl => ?_)
        exact l71 fuel 0 o_1.2 1 o_1.1 M_field 2 _ _ hF hP hD hS ls (lv_sub hl [1, 0] rfl)
    · have hF := zt c_6 hF
      refine lv_iconst (v := 3) hx hb dX10_statement_37 (by decide) ?_
      refine lv_goto (tgt := 66) hx hb dX10_statement_38 (by decide) ?_
      refine va_put (D := D) (ci := 7) (v := .int 3) (C := RX10) (T := TX10) (N := 58) hx hb hts hin10 tyX10 tyX10_ok nmX10 hown hK hP hD hS 0 rfl rfl 17 (by decide) (hts _ zm_47) (fun _ h9 => h9) rfl (tyX10_ok 17 (by decide)) rfl rfl (Nat.le_of_ble_eq_true rfl) dX10_statement_66 (fun H locs hP hD hS => ?_)
      have hP : va_P D vwCl (wX10_M ca ad_M M_guests M_kind M_figure M_told M_heaps M_holds M_back M_mistakes M_hooks M_letters M_rule o_1.2 1 o_1.1 M_text M_row M_field 3 M_begins M_ruleLetters M_coming M_comingMany M_going M_goingMany M_minute M_pile M_high M_where M_latest M_lifts M_begun M_left M_has M_lifted M_taken M_above M_allLifts M_busy M_longest M_onto M_worst M_best M_orders M_together M_ofOne M_ofOther M_seed M_then M_was M_kept M_held M_kindOn M_figureOn M_sorts M_size M_items M_moved M_thrown) H := hP
      have hD : va_D A (wX10_M ca ad_M M_guests M_kind M_figure M_told M_heaps M_holds M_back M_mistakes M_hooks M_letters M_rule o_1.2 1 o_1.1 M_text M_row M_field 3 M_begins M_ruleLetters M_coming M_comingMany M_going M_goingMany M_minute M_pile M_high M_where M_latest M_lifts M_begun M_left M_has M_lifted M_taken M_above M_allLifts M_busy M_longest M_onto M_worst M_best M_orders M_together M_ofOne M_ofOther M_seed M_then M_was M_kept M_held M_kindOn M_figureOn M_sorts M_size M_items M_moved M_thrown) := hD
      refine lv_iconst (v := 0) hx hb dX10_statement_69 (by decide) ?_
      refine lv_istore_n (lv' := [(1, .int 0), (0, .ref (ad_M 0))]) hx hb dX10_statement_70 rfl hl (by decide) rfl (fun ls hl => ?_)
      exact l71 fuel 0 o_1.2 1 o_1.1 M_field 3 _ _ hF hP hD hS ls (lv_sub hl [1, 0] rfl)
theorem zds_X10_bits : yX10_bits.cls ≠ "java/lang/invoke/MethodHandle" ∧ yX10_bits.cls ≠ "java/lang/invoke/VarHandle" ∧ (parseMethodDescriptor yX10_bits.desc).map (fun d => d.parameters.length) = some 1 := by decide +kernel
theorem zdv_X10_guestIs : yX10_guestIs.cls = RX10 ∧ yX10_guestIs.cls ≠ "java/lang/invoke/MethodHandle" ∧ yX10_guestIs.cls ≠ "java/lang/invoke/VarHandle" ∧ (parseMethodDescriptor yX10_guestIs.desc).map (fun d => d.parameters.length) = some 3 := by decide +kernel
theorem zdv_X10_hangs : yX10_hangs.cls = RX10 ∧ yX10_hangs.cls ≠ "java/lang/invoke/MethodHandle" ∧ yX10_hangs.cls ≠ "java/lang/invoke/VarHandle" ∧ (parseMethodDescriptor yX10_hangs.desc).map (fun d => d.parameters.length) = some 1 := by decide +kernel
theorem zdv_X10_isGuest : yX10_isGuest.cls = RX10 ∧ yX10_isGuest.cls ≠ "java/lang/invoke/MethodHandle" ∧ yX10_isGuest.cls ≠ "java/lang/invoke/VarHandle" ∧ (parseMethodDescriptor yX10_isGuest.desc).map (fun d => d.parameters.length) = some 1 := by decide +kernel
theorem zdv_X10_turnHook : yX10_turnHook.cls = RX10 ∧ yX10_turnHook.cls ≠ "java/lang/invoke/MethodHandle" ∧ yX10_turnHook.cls ≠ "java/lang/invoke/VarHandle" ∧ (parseMethodDescriptor yX10_turnHook.desc).map (fun d => d.parameters.length) = some 1 := by decide +kernel
abbrev roX10_takes : Room := { frames := 2, cells := 0, slots := 0, locals := 43 }
set_option maxHeartbeats 4000000 in
set_option maxRecDepth 100000 in
theorem kX10_takes (l : Launch) (D : va_G) (ca : Nat → ClassId) (t : Nat → Nat) (ad_M : Nat → Nat) (M_guests : Int32) (M_kind : Nat → Int32) (M_figure : Nat → Int32) (M_told : Nat → Int32) (M_heaps : Int32) (M_holds : Int32) (M_back : Int32) (M_mistakes : Int32) (M_hooks : Int32) (M_letters : Int32) (M_rule : Nat → Int32) (M_at : Int32) (M_well : Int32) (M_sort : Int32) (M_text : Int32) (M_row : Int32) (M_field : Nat → Int32) (M_fields : Int32) (M_begins : Nat → Int32) (M_ruleLetters : Nat → Int32) (M_coming : Nat → Int32) (M_comingMany : Int32) (M_going : Nat → Int32) (M_goingMany : Int32) (M_minute : Nat → Int32) (M_pile : Nat → Int32) (M_high : Nat → Int32) (M_where : Nat → Int32) (M_latest : Int32) (M_lifts : Nat → Int32) (M_begun : Nat → Int32) (M_left : Nat → Int32) (M_has : Nat → Int32) (M_lifted : Nat → Int32) (M_taken : Nat → Int32) (M_above : Nat → Int32) (M_allLifts : Int32) (M_busy : Int32) (M_longest : Nat → Int32) (M_onto : Nat → Int32) (M_worst : Int32) (M_best : Int32) (M_orders : Int32) (M_together : Int32) (M_ofOne : Nat → Int32) (M_ofOther : Nat → Int32) (M_seed : Int32) (M_then : Nat → Int32) (M_was : Nat → Int32) (M_kept : Int32) (M_held : Nat → Int32) (M_kindOn : Nat → Int32) (M_figureOn : Nat → Int32) (M_sorts : Nat → Int32) (M_size : Nat → Int32) (M_items : Nat → Int32) (M_moved : Nat → Int32) (M_thrown : Int32) (fuel : Nat) (o : Int32 × Int32 × (Nat → Int32) × (Nat → Int32) × (Nat → Int32) × Int32 × Int32 × Int32 × Int32 × Int32 × Int32 × (Nat → Int32)) (hF : fX10_takes fuel M_guests M_kind M_figure M_told M_heaps M_holds M_back M_mistakes M_hooks M_letters M_rule M_sort M_field M_fields = some o) : zMi l D (zT ca) t yX10_takes (.code yX10_takes cX10_takes 2 (some .boolean) :: zW) roX10_takes [.ref (ad_M 0)] (wX10_M ca ad_M M_guests M_kind M_figure M_told M_heaps M_holds M_back M_mistakes M_hooks M_letters M_rule M_at M_well M_sort M_text M_row M_field M_fields M_begins M_ruleLetters M_coming M_comingMany M_going M_goingMany M_minute M_pile M_high M_where M_latest M_lifts M_begun M_left M_has M_lifted M_taken M_above M_allLifts M_busy M_longest M_onto M_worst M_best M_orders M_together M_ofOne M_ofOther M_seed M_then M_was M_kept M_held M_kindOn M_figureOn M_sorts M_size M_items M_moved M_thrown) (wX10_M ca ad_M o.2.1 o.2.2.1 o.2.2.2.1 o.2.2.2.2.1 o.2.2.2.2.2.1 o.2.2.2.2.2.2.1 o.2.2.2.2.2.2.2.1 o.2.2.2.2.2.2.2.2.1 o.2.2.2.2.2.2.2.2.2.1 o.2.2.2.2.2.2.2.2.2.2.1 o.2.2.2.2.2.2.2.2.2.2.2 M_at M_well M_sort M_text M_row M_field M_fields M_begins M_ruleLetters M_coming M_comingMany M_going M_goingMany M_minute M_pile M_high M_where M_latest M_lifts M_begun M_left M_has M_lifted M_taken M_above M_allLifts M_busy M_longest M_onto M_worst M_best M_orders M_together M_ofOne M_ofOther M_seed M_then M_was M_kept M_held M_kindOn M_figureOn M_sorts M_size M_items M_moved M_thrown) o.1 := by
  refine zMi_of (cc := cX10_takes) (maxL := 2) (by decide) rfl (Nat.le_of_ble_eq_true rfl) ?_
  intro p e s m args below meth c A Q ls ⟨hx, hb, hml, hown, hts, hA, hK, hZ, hS⟩ hret hP hD hl
  have hts := fun w h => hts w (List.mem_cons_of_mem _ h)
  have hown : s.vm.findClass RX10 = some m.cls := hown
  have hl : lv_has ls 2 [(0, .ref (ad_M 0))] := hl
  have hin10 := zin_X10
  have l242 : ∀ (n242 : Nat) (v1 : Int32) (M_guests : Int32) (M_kind : Nat → Int32) (M_figure : Nat → Int32) (M_told : Nat → Int32) (M_heaps : Int32) (M_holds : Int32) (M_back : Int32) (M_mistakes : Int32) (M_hooks : Int32) (M_letters : Int32) (M_rule : Nat → Int32) (H : Heap) (locs : List Loc), fX10_takes_L242 M_field M_fields n242 v1 M_guests M_kind M_figure M_told M_heaps M_holds M_back M_mistakes M_hooks M_letters M_rule = some o → va_P D vwCl (wX10_M ca ad_M M_guests M_kind M_figure M_told M_heaps M_holds M_back M_mistakes M_hooks M_letters M_rule M_at M_well M_sort M_text M_row M_field M_fields M_begins M_ruleLetters M_coming M_comingMany M_going M_goingMany M_minute M_pile M_high M_where M_latest M_lifts M_begun M_left M_has M_lifted M_taken M_above M_allLifts M_busy M_longest M_onto M_worst M_best M_orders M_together M_ofOne M_ofOther M_seed M_then M_was M_kept M_held M_kindOn M_figureOn M_sorts M_size M_items M_moved M_thrown) H → va_D A (wX10_M ca ad_M M_guests M_kind M_figure M_told M_heaps M_holds M_back M_mistakes M_hooks M_letters M_rule M_at M_well M_sort M_text M_row M_field M_fields M_begins M_ruleLetters M_coming M_comingMany M_going M_goingMany M_minute M_pile M_high M_where M_latest M_lifts M_begun M_left M_has M_lifted M_taken M_above M_allLifts M_busy M_longest M_onto M_worst M_best M_orders M_together M_ofOne M_ofOther M_seed M_then M_was M_kept M_held M_kindOn M_figureOn M_sorts M_size M_items M_moved M_thrown) → va_S A s.heap H locs → ∀ ls : Array Slot, lv_has ls 2 [(0, .ref (ad_M 0)), (1, .int v1)] → W p l e roX10_takes s m args below meth c H locs 0 0 Q (F0 m 242 ls []) := by
    intro n242
    induction n242 with
    | zero =>
      intro v1 M_guests M_kind M_figure M_told M_heaps M_holds M_back M_mistakes M_hooks M_letters M_rule H locs hF
      rw [fX10_takes_L242] at hF
      cases hF
    | succ n242 ih242 =>
      intro v1 M_guests M_kind M_figure M_told M_heaps M_holds M_back M_mistakes M_hooks M_letters M_rule H locs hF hP hD hS ls hl
      rw [fX10_takes_L242] at hF
      refine lv_iload_n hx hb dX10_takes_242 rfl (lv_at hl 1 rfl) ?_
      refine lv_aload_n hx hb dX10_takes_243 rfl (lv_at hl 0 rfl) ?_
      refine va_get (D := D) (ci := 7) (v := .int M_fields) (C := RX10) (T := TX10) (N := 58) hx hb hts hin10 hown hK hP 0 rfl rfl 17 (by decide) (hts _ zm_47) (fun _ h9 => h9) rfl dX10_takes_244 ?_
      refine lv_icmp_ge (tgt := 268) hx hb dX10_takes_247 (by decide) (fun c_25 => ?_) (fun c_25 => ?_)
      · have hF := zt c_25 hF
        refine lv_iconst (v := 1) hx hb dX10_takes_268 (by decide) ?_
        obtain rfl := Option.some.inj hF
        exact hret _ _ _ _ hP hD hS (zbool (Or.inr rfl)) dX10_takes_269
      · have hF := zf c_25 hF
        refine lv_aload_n hx hb dX10_takes_250 rfl (lv_at hl 0 rfl) ?_
        refine va_get (D := D) (ci := 7) (v := .ref (ad_M 4)) (C := RX10) (T := TX10) (N := 58) hx hb hts hin10 hown hK hP 0 rfl rfl 10 (by decide) (hts _ zm_78) (fun _ h9 => h9) rfl dX10_takes_251 ?_
        refine lv_iload_n hx hb dX10_takes_254 rfl (lv_at hl 1 rfl) ?_
        refine lv_aload_n hx hb dX10_takes_255 rfl (lv_at hl 0 rfl) ?_
        refine va_get (D := D) (ci := 7) (v := .ref (ad_M 5)) (C := RX10) (T := TX10) (N := 58) hx hb hts hin10 hown hK hP 0 rfl rfl 16 (by decide) (hts _ zm_48) (fun _ h9 => h9) rfl dX10_takes_256 ?_
        refine lv_iload_n hx hb dX10_takes_259 rfl (lv_at hl 1 rfl) ?_
        obtain ⟨h_26, hF⟩ := zgi hF
        refine va_iald hx hb hK hP 5 0 rfl rfl h_26 dX10_takes_260 ?_
        refine z_iast hx hb hK hP hD hS 4 0 rfl rfl h_26 dX10_takes_261 (fun g => (wX10_M ca ad_M M_guests M_kind M_figure M_told M_heaps M_holds M_back M_mistakes M_hooks M_letters g M_at M_well M_sort M_text M_row M_field M_fields M_begins M_ruleLetters M_coming M_comingMany M_going M_goingMany M_minute M_pile M_high M_where M_latest M_lifts M_begun M_left M_has M_lifted M_taken M_above M_allLifts M_busy M_longest M_onto M_worst M_best M_orders M_together M_ofOne M_ofOther M_seed M_then M_was M_kept M_held M_kindOn M_figureOn M_sorts M_size M_items M_moved M_thrown)) (fun _ => rfl) hF (fun M_rule_27 H locs hF hP hD hS => ?_)
        refine z_iinc (kv := 1) hx hb 1 dX10_takes_262 hl rfl (by decide) (by decide) (fun g => [(1, .int g), (0, .ref (ad_M 0))]) (fun _ => rfl) hF (fun v1_28 ls hF hl => ?_)
        refine lv_goto (tgt := 242) hx hb dX10_takes_265 (by decide) ?_
        exact ih242 v1_28 M_guests M_kind M_figure M_told M_heaps M_holds M_back M_mistakes M_hooks M_letters M_rule_27 _ _ hF hP hD hS ls (lv_sub hl [1, 0] rfl)
  have j219 : ∀ (M_guests : Int32) (M_kind : Nat → Int32) (M_figure : Nat → Int32) (M_told : Nat → Int32) (M_heaps : Int32) (M_holds : Int32) (M_back : Int32) (M_mistakes : Int32) (M_hooks : Int32) (M_letters : Int32) (M_rule : Nat → Int32) (H : Heap) (locs : List Loc), fX10_takes_J219 fuel M_field M_guests M_kind M_figure M_told M_heaps M_holds M_back M_mistakes M_hooks M_letters M_rule = some o → va_P D vwCl (wX10_M ca ad_M M_guests M_kind M_figure M_told M_heaps M_holds M_back M_mistakes M_hooks M_letters M_rule M_at M_well M_sort M_text M_row M_field M_fields M_begins M_ruleLetters M_coming M_comingMany M_going M_goingMany M_minute M_pile M_high M_where M_latest M_lifts M_begun M_left M_has M_lifted M_taken M_above M_allLifts M_busy M_longest M_onto M_worst M_best M_orders M_together M_ofOne M_ofOther M_seed M_then M_was M_kept M_held M_kindOn M_figureOn M_sorts M_size M_items M_moved M_thrown) H → va_D A (wX10_M ca ad_M M_guests M_kind M_figure M_told M_heaps M_holds M_back M_mistakes M_hooks M_letters M_rule M_at M_well M_sort M_text M_row M_field M_fields M_begins M_ruleLetters M_coming M_comingMany M_going M_goingMany M_minute M_pile M_high M_where M_latest M_lifts M_begun M_left M_has M_lifted M_taken M_above M_allLifts M_busy M_longest M_onto M_worst M_best M_orders M_together M_ofOne M_ofOther M_seed M_then M_was M_kept M_held M_kindOn M_figureOn M_sorts M_size M_items M_moved M_thrown) → va_S A s.heap H locs → ∀ ls : Array Slot, lv_has ls 2 [(0, .ref (ad_M 0))] → W p l e roX10_takes s m args below meth c H locs 0 0 Q (F0 m 219 ls []) := by
    intro M_guests M_kind M_figure M_told M_heaps M_holds M_back M_mistakes M_hooks M_letters M_rule H locs hF hP hD hS ls hl
    unfold fX10_takes_J219 at hF
    refine lv_aload_n hx hb dX10_takes_219 rfl (lv_at hl 0 rfl) ?_
    refine lv_aload_n hx hb dX10_takes_220 rfl (lv_at hl 0 rfl) ?_
    refine va_get (D := D) (ci := 7) (v := .ref (ad_M 5)) (C := RX10) (T := TX10) (N := 58) hx hb hts hin10 hown hK hP 0 rfl rfl 16 (by decide) (hts _ zm_48) (fun _ h9 => h9) rfl dX10_takes_221 ?_
    refine lv_iconst (v := 0) hx hb dX10_takes_224 (by decide) ?_
    refine z_ialdK 0 hx hb hK hP 5 0 rfl rfl (zin_ok (by decide)) (by decide) dX10_takes_225 ?_
    obtain ⟨o_24, hc_24, hF⟩ := zb hF
    refine zcVi (rest := []) (ws' := (wX10_M ca ad_M M_guests M_kind M_figure M_told M_heaps M_holds M_back M_mistakes o_24.2 M_letters M_rule M_at M_well M_sort M_text M_row M_field M_fields M_begins M_ruleLetters M_coming M_comingMany M_going M_goingMany M_minute M_pile M_high M_where M_latest M_lifts M_begun M_left M_has M_lifted M_taken M_above M_allLifts M_busy M_longest M_onto M_worst M_best M_orders M_together M_ofOne M_ofOther M_seed M_then M_was M_kept M_held M_kindOn M_figureOn M_sorts M_size M_items M_moved M_thrown)) (kX10_turnHook l D ca t ad_M M_guests M_kind M_figure M_told M_heaps M_holds M_back M_mistakes M_hooks M_letters M_rule M_at M_well M_sort M_text M_row M_field M_fields M_begins M_ruleLetters M_coming M_comingMany M_going M_goingMany M_minute M_pile M_high M_where M_latest M_lifts M_begun M_left M_has M_lifted M_taken M_above M_allLifts M_busy M_longest M_onto M_worst M_best M_orders M_together M_ofOne M_ofOther M_seed M_then M_was M_kept M_held M_kindOn M_figureOn M_sorts M_size M_items M_moved M_thrown (M_field 0) fuel _ hc_24) ⟨hx, hb, hml, hown, hts⟩ (zcwV hts zm_75 zm_76 zm_77 zm_19 zm_74 rfl rfl zdv_X10_turnHook ⟨Nat.le_of_ble_eq_true rfl, Nat.le_of_ble_eq_true rfl⟩) hA hK hZ hP hD hS [0, 1, 2, 3, 4, 5, 6, 7, 8, 9, 10, 11, 12, 13, 14, 15, 16, 17, 18, 19, 20, 21, 22, 23, 24, 25, 26, 27, 28, 29, 30, 31, 32, 33] [] [0, 1, 2, 3, 4, 5, 6, 7, 8, 9, 10, 11, 12, 13, 14, 15, 16, 17, 18, 19, 20, 21, 22, 23, 24, 25, 26, 27, 28, 29, 30, 31, 32, 33] rfl rfl rfl rfl rfl rfl rfl 7 0 rfl rfl rfl hl.1 (Nat.le_of_ble_eq_true rfl) dX10_takes_226 rfl (fun H locs hP hD hS => ?_)
    refine lv_pop hx hb dX10_takes_229 rfl ?_
    refine lv_iconst (v := 1) hx hb dX10_takes_230 (by decide) ?_
    obtain rfl := Option.some.inj hF
    exact hret _ _ _ _ hP hD hS (zbool (Or.inr rfl)) dX10_takes_231
  unfold fX10_takes at hF
  refine lv_aload_n hx hb dX10_takes_0 rfl (lv_at hl 0 rfl) ?_
  refine va_get (D := D) (ci := 7) (v := .int M_sort) (C := RX10) (T := TX10) (N := 58) hx hb hts hin10 hown hK hP 0 rfl rfl 13 (by decide) (hts _ zm_46) (fun _ h9 => h9) rfl dX10_takes_1 ?_
  by_cases c_1 : M_sort = 0
  · have hF := zt c_1 hF
    refine lv_tableIn (tgt := 40) (off := 36) hx hb dX10_takes_4 (by rw [c_1]; decide) (by rw [c_1]; decide) (by rw [c_1]; rfl) (by decide) ?_
    refine lv_aload_n hx hb dX10_takes_40 rfl (lv_at hl 0 rfl) ?_
    refine va_get (D := D) (ci := 7) (v := .ref (ad_M 5)) (C := RX10) (T := TX10) (N := 58) hx hb hts hin10 hown hK hP 0 rfl rfl 16 (by decide) (hts _ zm_48) (fun _ h9 => h9) rfl dX10_takes_41 ?_
    refine lv_iconst (v := 0) hx hb dX10_takes_44 (by decide) ?_
    refine z_ialdK 0 hx hb hK hP 5 0 rfl rfl (zin_ok (by decide)) (by decide) dX10_takes_45 ?_
    refine lv_bipush (v := 7) hx hb dX10_takes_46 (by decide) ?_
    refine lv_icmp_gt (tgt := 60) hx hb dX10_takes_48 (by decide) (fun c_2 => ?_) (fun c_2 => ?_)
    · have hF := zt c_2 hF
      refine lv_iconst (v := 0) hx hb dX10_takes_60 (by decide) ?_
      obtain rfl := Option.some.inj hF
      exact hret _ _ _ _ hP hD hS (zbool (Or.inl rfl)) dX10_takes_61
    · have hF := zf c_2 hF
      refine lv_aload_n hx hb dX10_takes_51 rfl (lv_at hl 0 rfl) ?_
      refine va_get (D := D) (ci := 7) (v := .int M_guests) (C := RX10) (T := TX10) (N := 58) hx hb hts hin10 hown hK hP 0 rfl rfl 0 (by decide) (hts _ zm_16) (fun _ h9 => h9) rfl dX10_takes_52 ?_
      refine lv_bipush (v := 10) hx hb dX10_takes_55 (by decide) ?_
      refine lv_icmp_ne (tgt := 62) hx hb dX10_takes_57 (by decide) (fun c_3 => ?_) (fun c_3 => ?_)
      · have hF := zf c_3 hF
        refine lv_aload_n hx hb dX10_takes_62 rfl (lv_at hl 0 rfl) ?_
        refine lv_aload_n hx hb dX10_takes_63 rfl (lv_at hl 0 rfl) ?_
        refine va_get (D := D) (ci := 7) (v := .ref (ad_M 5)) (C := RX10) (T := TX10) (N := 58) hx hb hts hin10 hown hK hP 0 rfl rfl 16 (by decide) (hts _ zm_48) (fun _ h9 => h9) rfl dX10_takes_64 ?_
        refine lv_iconst (v := 0) hx hb dX10_takes_67 (by decide) ?_
        refine z_ialdK 0 hx hb hK hP 5 0 rfl rfl (zin_ok (by decide)) (by decide) dX10_takes_68 ?_
        refine lv_aload_n hx hb dX10_takes_69 rfl (lv_at hl 0 rfl) ?_
        refine va_get (D := D) (ci := 7) (v := .ref (ad_M 5)) (C := RX10) (T := TX10) (N := 58) hx hb hts hin10 hown hK hP 0 rfl rfl 16 (by decide) (hts _ zm_48) (fun _ h9 => h9) rfl dX10_takes_70 ?_
        refine lv_iconst (v := 1) hx hb dX10_takes_73 (by decide) ?_
        refine z_ialdK 1 hx hb hK hP 5 0 rfl rfl (zin_ok (by decide)) (by decide) dX10_takes_74 ?_
        refine lv_aload_n hx hb dX10_takes_75 rfl (lv_at hl 0 rfl) ?_
        refine va_get (D := D) (ci := 7) (v := .ref (ad_M 5)) (C := RX10) (T := TX10) (N := 58) hx hb hts hin10 hown hK hP 0 rfl rfl 16 (by decide) (hts _ zm_48) (fun _ h9 => h9) rfl dX10_takes_76 ?_
        refine lv_iconst (v := 2) hx hb dX10_takes_79 (by decide) ?_
        refine z_ialdK 2 hx hb hK hP 5 0 rfl rfl (zin_ok (by decide)) (by decide) dX10_takes_80 ?_
        obtain ⟨o_4, hc_4, hF⟩ := zb hF
        refine zcVi (rest := []) (ws' := (wX10_M ca ad_M o_4.2.1 o_4.2.2.1 o_4.2.2.2.1 o_4.2.2.2.2 M_heaps M_holds M_back M_mistakes M_hooks M_letters M_rule M_at M_well M_sort M_text M_row M_field M_fields M_begins M_ruleLetters M_coming M_comingMany M_going M_goingMany M_minute M_pile M_high M_where M_latest M_lifts M_begun M_left M_has M_lifted M_taken M_above M_allLifts M_busy M_longest M_onto M_worst M_best M_orders M_together M_ofOne M_ofOther M_seed M_then M_was M_kept M_held M_kindOn M_figureOn M_sorts M_size M_items M_moved M_thrown)) (kX10_guestIs l D ca t ad_M M_guests M_kind M_figure M_told M_heaps M_holds M_back M_mistakes M_hooks M_letters M_rule M_at M_well M_sort M_text M_row M_field M_fields M_begins M_ruleLetters M_coming M_comingMany M_going M_goingMany M_minute M_pile M_high M_where M_latest M_lifts M_begun M_left M_has M_lifted M_taken M_above M_allLifts M_busy M_longest M_onto M_worst M_best M_orders M_together M_ofOne M_ofOther M_seed M_then M_was M_kept M_held M_kindOn M_figureOn M_sorts M_size M_items M_moved M_thrown (M_field 0) (M_field 1) (M_field 2) fuel _ hc_4) ⟨hx, hb, hml, hown, hts⟩ (zcwV hts zm_55 zm_56 zm_57 zm_19 zm_54 rfl rfl zdv_X10_guestIs ⟨Nat.le_of_ble_eq_true rfl, Nat.le_of_ble_eq_true rfl⟩) hA hK hZ hP hD hS [0, 1, 2, 3, 4, 5, 6, 7, 8, 9, 10, 11, 12, 13, 14, 15, 16, 17, 18, 19, 20, 21, 22, 23, 24, 25, 26, 27, 28, 29, 30, 31, 32, 33] [] [0, 1, 2, 3, 4, 5, 6, 7, 8, 9, 10, 11, 12, 13, 14, 15, 16, 17, 18, 19, 20, 21, 22, 23, 24, 25, 26, 27, 28, 29, 30, 31, 32, 33] rfl rfl rfl rfl rfl rfl rfl 7 0 rfl rfl rfl hl.1 (Nat.le_of_ble_eq_true rfl) dX10_takes_81 rfl (fun H locs hP hD hS => ?_)
        refine lv_pop hx hb dX10_takes_84 rfl ?_
        refine lv_iconst (v := 1) hx hb dX10_takes_85 (by decide) ?_
        obtain rfl := Option.some.inj hF
        exact hret _ _ _ _ hP hD hS (zbool (Or.inr rfl)) dX10_takes_86
      · have hF := zt c_3 hF
        refine lv_iconst (v := 0) hx hb dX10_takes_60 (by decide) ?_
        obtain rfl := Option.some.inj hF
        exact hret _ _ _ _ hP hD hS (zbool (Or.inl rfl)) dX10_takes_61
  · have hF := zf c_1 hF
    by_cases c_5 : M_sort = 1
    · have hF := zt c_5 hF
      refine lv_tableIn (tgt := 87) (off := 83) hx hb dX10_takes_4 (by rw [c_5]; decide) (by rw [c_5]; decide) (by rw [c_5]; rfl) (by decide) ?_
      refine lv_aload_n hx hb dX10_takes_87 rfl (lv_at hl 0 rfl) ?_
      refine lv_aload_n hx hb dX10_takes_88 rfl (lv_at hl 0 rfl) ?_
      refine va_get (D := D) (ci := 7) (v := .ref (ad_M 5)) (C := RX10) (T := TX10) (N := 58) hx hb hts hin10 hown hK hP 0 rfl rfl 16 (by decide) (hts _ zm_48) (fun _ h9 => h9) rfl dX10_takes_89 ?_
      refine lv_iconst (v := 0) hx hb dX10_takes_92 (by decide) ?_
      refine z_ialdK 0 hx hb hK hP 5 0 rfl rfl (zin_ok (by decide)) (by decide) dX10_takes_93 ?_
      refine z_let hF (fun heaps_6 hF => ?_)
      refine va_put (D := D) (ci := 7) (v := .int heaps_6) (C := RX10) (T := TX10) (N := 58) hx hb hts hin10 tyX10 tyX10_ok nmX10 hown hK hP hD hS 0 rfl rfl 4 (by decide) (hts _ zm_58) (fun _ h9 => h9) rfl (tyX10_ok 4 (by decide)) rfl rfl (Nat.le_of_ble_eq_true rfl) dX10_takes_94 (fun H locs hP hD hS => ?_)
      have hP : va_P D vwCl (wX10_M ca ad_M M_guests M_kind M_figure M_told heaps_6 M_holds M_back M_mistakes M_hooks M_letters M_rule M_at M_well M_sort M_text M_row M_field M_fields M_begins M_ruleLetters M_coming M_comingMany M_going M_goingMany M_minute M_pile M_high M_where M_latest M_lifts M_begun M_left M_has M_lifted M_taken M_above M_allLifts M_busy M_longest M_onto M_worst M_best M_orders M_together M_ofOne M_ofOther M_seed M_then M_was M_kept M_held M_kindOn M_figureOn M_sorts M_size M_items M_moved M_thrown) H := hP
      have hD : va_D A (wX10_M ca ad_M M_guests M_kind M_figure M_told heaps_6 M_holds M_back M_mistakes M_hooks M_letters M_rule M_at M_well M_sort M_text M_row M_field M_fields M_begins M_ruleLetters M_coming M_comingMany M_going M_goingMany M_minute M_pile M_high M_where M_latest M_lifts M_begun M_left M_has M_lifted M_taken M_above M_allLifts M_busy M_longest M_onto M_worst M_best M_orders M_together M_ofOne M_ofOther M_seed M_then M_was M_kept M_held M_kindOn M_figureOn M_sorts M_size M_items M_moved M_thrown) := hD
      refine lv_aload_n hx hb dX10_takes_97 rfl (lv_at hl 0 rfl) ?_
      refine lv_aload_n hx hb dX10_takes_98 rfl (lv_at hl 0 rfl) ?_
      refine va_get (D := D) (ci := 7) (v := .ref (ad_M 5)) (C := RX10) (T := TX10) (N := 58) hx hb hts hin10 hown hK hP 0 rfl rfl 16 (by decide) (hts _ zm_48) (fun _ h9 => h9) rfl dX10_takes_99 ?_
      refine lv_iconst (v := 1) hx hb dX10_takes_102 (by decide) ?_
      refine z_ialdK 1 hx hb hK hP 5 0 rfl rfl (zin_ok (by decide)) (by decide) dX10_takes_103 ?_
      refine z_let hF (fun holds_7 hF => ?_)
      refine va_put (D := D) (ci := 7) (v := .int holds_7) (C := RX10) (T := TX10) (N := 58) hx hb hts hin10 tyX10 tyX10_ok nmX10 hown hK hP hD hS 0 rfl rfl 5 (by decide) (hts _ zm_59) (fun _ h9 => h9) rfl (tyX10_ok 5 (by decide)) rfl rfl (Nat.le_of_ble_eq_true rfl) dX10_takes_104 (fun H locs hP hD hS => ?_)
      have hP : va_P D vwCl (wX10_M ca ad_M M_guests M_kind M_figure M_told heaps_6 holds_7 M_back M_mistakes M_hooks M_letters M_rule M_at M_well M_sort M_text M_row M_field M_fields M_begins M_ruleLetters M_coming M_comingMany M_going M_goingMany M_minute M_pile M_high M_where M_latest M_lifts M_begun M_left M_has M_lifted M_taken M_above M_allLifts M_busy M_longest M_onto M_worst M_best M_orders M_together M_ofOne M_ofOther M_seed M_then M_was M_kept M_held M_kindOn M_figureOn M_sorts M_size M_items M_moved M_thrown) H := hP
      have hD : va_D A (wX10_M ca ad_M M_guests M_kind M_figure M_told heaps_6 holds_7 M_back M_mistakes M_hooks M_letters M_rule M_at M_well M_sort M_text M_row M_field M_fields M_begins M_ruleLetters M_coming M_comingMany M_going M_goingMany M_minute M_pile M_high M_where M_latest M_lifts M_begun M_left M_has M_lifted M_taken M_above M_allLifts M_busy M_longest M_onto M_worst M_best M_orders M_together M_ofOne M_ofOther M_seed M_then M_was M_kept M_held M_kindOn M_figureOn M_sorts M_size M_items M_moved M_thrown) := hD
      refine lv_aload_n hx hb dX10_takes_107 rfl (lv_at hl 0 rfl) ?_
      refine va_get (D := D) (ci := 7) (v := .int heaps_6) (C := RX10) (T := TX10) (N := 58) hx hb hts hin10 hown hK hP 0 rfl rfl 4 (by decide) (hts _ zm_58) (fun _ h9 => h9) rfl dX10_takes_108 ?_
      refine lv_iconst (v := 1) hx hb dX10_takes_111 (by decide) ?_
      refine lv_iconst (v := 3) hx hb dX10_takes_112 (by decide) ?_
      obtain ⟨o_8, hc_8, hF⟩ := zb hF
      refine zcSR (rest := []) (kX10_isIn l D ca t heaps_6 1 3 fuel _ hc_8) ⟨hx, hb, hml, hown, hts⟩ (zcwS hts zm_20 zm_18 zm_19 zm_17 rfl rfl zds_X10_isIn ⟨Nat.le_of_ble_eq_true rfl, Nat.le_of_ble_eq_true rfl⟩) hA hK hZ hP hD hS [] rfl rfl rfl hl.1 (Nat.le_of_ble_eq_true rfl) dX10_takes_113 rfl ?_
      refine lv_if_eq (tgt := 130) hx hb dX10_takes_116 (by decide) (fun c_9 => ?_) (fun c_9 => ?_)
      · have hF := zt c_9 hF
        refine lv_iconst (v := 0) hx hb dX10_takes_130 (by decide) ?_
        obtain rfl := Option.some.inj hF
        exact hret _ _ _ _ hP hD hS (zbool (Or.inl rfl)) dX10_takes_131
      · have hF := zf c_9 hF
        refine lv_aload_n hx hb dX10_takes_119 rfl (lv_at hl 0 rfl) ?_
        refine va_get (D := D) (ci := 7) (v := .int holds_7) (C := RX10) (T := TX10) (N := 58) hx hb hts hin10 hown hK hP 0 rfl rfl 5 (by decide) (hts _ zm_59) (fun _ h9 => h9) rfl dX10_takes_120 ?_
        refine lv_if_le (tgt := 130) hx hb dX10_takes_123 (by decide) (fun c_10 => ?_) (fun c_10 => ?_)
        · have hF := zt c_10 hF
          refine lv_iconst (v := 0) hx hb dX10_takes_130 (by decide) ?_
          obtain rfl := Option.some.inj hF
          exact hret _ _ _ _ hP hD hS (zbool (Or.inl rfl)) dX10_takes_131
        · have hF := zf c_10 hF
          refine lv_iconst (v := 1) hx hb dX10_takes_126 (by decide) ?_
          refine lv_goto (tgt := 131) hx hb dX10_takes_127 (by decide) ?_
          obtain rfl := Option.some.inj hF
          exact hret _ _ _ _ hP hD hS (zbool (Or.inr rfl)) dX10_takes_131
    · have hF := zf c_5 hF
      by_cases c_11 : M_sort = 2
      · have hF := zt c_11 hF
        refine lv_tableIn (tgt := 132) (off := 128) hx hb dX10_takes_4 (by rw [c_11]; decide) (by rw [c_11]; decide) (by rw [c_11]; rfl) (by decide) ?_
        refine lv_aload_n hx hb dX10_takes_132 rfl (lv_at hl 0 rfl) ?_
        refine lv_aload_n hx hb dX10_takes_133 rfl (lv_at hl 0 rfl) ?_
        refine va_get (D := D) (ci := 7) (v := .ref (ad_M 5)) (C := RX10) (T := TX10) (N := 58) hx hb hts hin10 hown hK hP 0 rfl rfl 16 (by decide) (hts _ zm_48) (fun _ h9 => h9) rfl dX10_takes_134 ?_
        refine lv_iconst (v := 0) hx hb dX10_takes_137 (by decide) ?_
        refine z_ialdK 0 hx hb hK hP 5 0 rfl rfl (zin_ok (by decide)) (by decide) dX10_takes_138 ?_
        refine z_let hF (fun back_12 hF => ?_)
        refine va_put (D := D) (ci := 7) (v := .int back_12) (C := RX10) (T := TX10) (N := 58) hx hb hts hin10 tyX10 tyX10_ok nmX10 hown hK hP hD hS 0 rfl rfl 6 (by decide) (hts _ zm_60) (fun _ h9 => h9) rfl (tyX10_ok 6 (by decide)) rfl rfl (Nat.le_of_ble_eq_true rfl) dX10_takes_139 (fun H locs hP hD hS => ?_)
        have hP : va_P D vwCl (wX10_M ca ad_M M_guests M_kind M_figure M_told M_heaps M_holds back_12 M_mistakes M_hooks M_letters M_rule M_at M_well M_sort M_text M_row M_field M_fields M_begins M_ruleLetters M_coming M_comingMany M_going M_goingMany M_minute M_pile M_high M_where M_latest M_lifts M_begun M_left M_has M_lifted M_taken M_above M_allLifts M_busy M_longest M_onto M_worst M_best M_orders M_together M_ofOne M_ofOther M_seed M_then M_was M_kept M_held M_kindOn M_figureOn M_sorts M_size M_items M_moved M_thrown) H := hP
        have hD : va_D A (wX10_M ca ad_M M_guests M_kind M_figure M_told M_heaps M_holds back_12 M_mistakes M_hooks M_letters M_rule M_at M_well M_sort M_text M_row M_field M_fields M_begins M_ruleLetters M_coming M_comingMany M_going M_goingMany M_minute M_pile M_high M_where M_latest M_lifts M_begun M_left M_has M_lifted M_taken M_above M_allLifts M_busy M_longest M_onto M_worst M_best M_orders M_together M_ofOne M_ofOther M_seed M_then M_was M_kept M_held M_kindOn M_figureOn M_sorts M_size M_items M_moved M_thrown) := hD
        refine lv_aload_n hx hb dX10_takes_142 rfl (lv_at hl 0 rfl) ?_
        refine va_get (D := D) (ci := 7) (v := .int back_12) (C := RX10) (T := TX10) (N := 58) hx hb hts hin10 hown hK hP 0 rfl rfl 6 (by decide) (hts _ zm_60) (fun _ h9 => h9) rfl dX10_takes_143 ?_
        refine lv_iconst (v := 3) hx hb dX10_takes_146 (by decide) ?_
        refine lv_icmp_ge (tgt := 154) hx hb dX10_takes_147 (by decide) (fun c_13 => ?_) (fun c_13 => ?_)
        · have hF := zt c_13 hF
          refine lv_iconst (v := 0) hx hb dX10_takes_154 (by decide) ?_
          obtain rfl := Option.some.inj hF
          exact hret _ _ _ _ hP hD hS (zbool (Or.inl rfl)) dX10_takes_155
        · have hF := zf c_13 hF
          refine lv_iconst (v := 1) hx hb dX10_takes_150 (by decide) ?_
          refine lv_goto (tgt := 155) hx hb dX10_takes_151 (by decide) ?_
          obtain rfl := Option.some.inj hF
          exact hret _ _ _ _ hP hD hS (zbool (Or.inr rfl)) dX10_takes_155
      · have hF := zf c_11 hF
        by_cases c_14 : M_sort = 3
        · have hF := zt c_14 hF
          refine lv_tableIn (tgt := 156) (off := 152) hx hb dX10_takes_4 (by rw [c_14]; decide) (by rw [c_14]; decide) (by rw [c_14]; rfl) (by decide) ?_
          refine lv_aload_n hx hb dX10_takes_156 rfl (lv_at hl 0 rfl) ?_
          refine lv_aload_n hx hb dX10_takes_157 rfl (lv_at hl 0 rfl) ?_
          refine va_get (D := D) (ci := 7) (v := .ref (ad_M 5)) (C := RX10) (T := TX10) (N := 58) hx hb hts hin10 hown hK hP 0 rfl rfl 16 (by decide) (hts _ zm_48) (fun _ h9 => h9) rfl dX10_takes_158 ?_
          refine lv_iconst (v := 0) hx hb dX10_takes_161 (by decide) ?_
          refine z_ialdK 0 hx hb hK hP 5 0 rfl rfl (zin_ok (by decide)) (by decide) dX10_takes_162 ?_
          refine z_let hF (fun mistakes_15 hF => ?_)
          refine va_put (D := D) (ci := 7) (v := .int mistakes_15) (C := RX10) (T := TX10) (N := 58) hx hb hts hin10 tyX10 tyX10_ok nmX10 hown hK hP hD hS 0 rfl rfl 7 (by decide) (hts _ zm_61) (fun _ h9 => h9) rfl (tyX10_ok 7 (by decide)) rfl rfl (Nat.le_of_ble_eq_true rfl) dX10_takes_163 (fun H locs hP hD hS => ?_)
          have hP : va_P D vwCl (wX10_M ca ad_M M_guests M_kind M_figure M_told M_heaps M_holds M_back mistakes_15 M_hooks M_letters M_rule M_at M_well M_sort M_text M_row M_field M_fields M_begins M_ruleLetters M_coming M_comingMany M_going M_goingMany M_minute M_pile M_high M_where M_latest M_lifts M_begun M_left M_has M_lifted M_taken M_above M_allLifts M_busy M_longest M_onto M_worst M_best M_orders M_together M_ofOne M_ofOther M_seed M_then M_was M_kept M_held M_kindOn M_figureOn M_sorts M_size M_items M_moved M_thrown) H := hP
          have hD : va_D A (wX10_M ca ad_M M_guests M_kind M_figure M_told M_heaps M_holds M_back mistakes_15 M_hooks M_letters M_rule M_at M_well M_sort M_text M_row M_field M_fields M_begins M_ruleLetters M_coming M_comingMany M_going M_goingMany M_minute M_pile M_high M_where M_latest M_lifts M_begun M_left M_has M_lifted M_taken M_above M_allLifts M_busy M_longest M_onto M_worst M_best M_orders M_together M_ofOne M_ofOther M_seed M_then M_was M_kept M_held M_kindOn M_figureOn M_sorts M_size M_items M_moved M_thrown) := hD
          refine lv_aload_n hx hb dX10_takes_166 rfl (lv_at hl 0 rfl) ?_
          refine va_get (D := D) (ci := 7) (v := .int mistakes_15) (C := RX10) (T := TX10) (N := 58) hx hb hts hin10 hown hK hP 0 rfl rfl 7 (by decide) (hts _ zm_61) (fun _ h9 => h9) rfl dX10_takes_167 ?_
          refine lv_iconst (v := 2) hx hb dX10_takes_170 (by decide) ?_
          refine lv_icmp_ge (tgt := 178) hx hb dX10_takes_171 (by decide) (fun c_16 => ?_) (fun c_16 => ?_)
          · have hF := zt c_16 hF
            refine lv_iconst (v := 0) hx hb dX10_takes_178 (by decide) ?_
            obtain rfl := Option.some.inj hF
            exact hret _ _ _ _ hP hD hS (zbool (Or.inl rfl)) dX10_takes_179
          · have hF := zf c_16 hF
            refine lv_iconst (v := 1) hx hb dX10_takes_174 (by decide) ?_
            refine lv_goto (tgt := 179) hx hb dX10_takes_175 (by decide) ?_
            obtain rfl := Option.some.inj hF
            exact hret _ _ _ _ hP hD hS (zbool (Or.inr rfl)) dX10_takes_179
        · have hF := zf c_14 hF
          by_cases c_17 : M_sort = 4
          · have hF := zt c_17 hF
            refine lv_tableIn (tgt := 180) (off := 176) hx hb dX10_takes_4 (by rw [c_17]; decide) (by rw [c_17]; decide) (by rw [c_17]; rfl) (by decide) ?_
            refine lv_aload_n hx hb dX10_takes_180 rfl (lv_at hl 0 rfl) ?_
            refine lv_aload_n hx hb dX10_takes_181 rfl (lv_at hl 0 rfl) ?_
            refine va_get (D := D) (ci := 7) (v := .ref (ad_M 5)) (C := RX10) (T := TX10) (N := 58) hx hb hts hin10 hown hK hP 0 rfl rfl 16 (by decide) (hts _ zm_48) (fun _ h9 => h9) rfl dX10_takes_182 ?_
            refine lv_iconst (v := 0) hx hb dX10_takes_185 (by decide) ?_
            refine z_ialdK 0 hx hb hK hP 5 0 rfl rfl (zin_ok (by decide)) (by decide) dX10_takes_186 ?_
            obtain ⟨o_18, hc_18, hF⟩ := zb hF
            refine zcVR (rest := []) (kX10_isGuest l D ca t ad_M M_guests M_kind M_figure M_told M_heaps M_holds M_back M_mistakes M_hooks M_letters M_rule M_at M_well M_sort M_text M_row M_field M_fields M_begins M_ruleLetters M_coming M_comingMany M_going M_goingMany M_minute M_pile M_high M_where M_latest M_lifts M_begun M_left M_has M_lifted M_taken M_above M_allLifts M_busy M_longest M_onto M_worst M_best M_orders M_together M_ofOne M_ofOther M_seed M_then M_was M_kept M_held M_kindOn M_figureOn M_sorts M_size M_items M_moved M_thrown (M_field 0) fuel _ hc_18) ⟨hx, hb, hml, hown, hts⟩ (zcwV hts zm_63 zm_64 zm_65 zm_19 zm_62 rfl rfl zdv_X10_isGuest ⟨Nat.le_of_ble_eq_true rfl, Nat.le_of_ble_eq_true rfl⟩) hA hK hZ hP hD hS [0, 1, 2, 3, 4, 5, 6, 7, 8, 9, 10, 11, 12, 13, 14, 15, 16, 17, 18, 19, 20, 21, 22, 23, 24, 25, 26, 27, 28, 29, 30, 31, 32, 33] rfl rfl 7 0 rfl rfl rfl hl.1 (Nat.le_of_ble_eq_true rfl) dX10_takes_187 rfl ?_
            refine lv_if_eq (tgt := 217) hx hb dX10_takes_190 (by decide) (fun c_19 => ?_) (fun c_19 => ?_)
            · have hF := zt c_19 hF
              refine lv_iconst (v := 0) hx hb dX10_takes_217 (by decide) ?_
              obtain rfl := Option.some.inj hF
              exact hret _ _ _ _ hP hD hS (zbool (Or.inl rfl)) dX10_takes_218
            · have hF := zf c_19 hF
              refine lv_aload_n hx hb dX10_takes_193 rfl (lv_at hl 0 rfl) ?_
              refine lv_aload_n hx hb dX10_takes_194 rfl (lv_at hl 0 rfl) ?_
              refine va_get (D := D) (ci := 7) (v := .ref (ad_M 5)) (C := RX10) (T := TX10) (N := 58) hx hb hts hin10 hown hK hP 0 rfl rfl 16 (by decide) (hts _ zm_48) (fun _ h9 => h9) rfl dX10_takes_195 ?_
              refine lv_iconst (v := 0) hx hb dX10_takes_198 (by decide) ?_
              refine z_ialdK 0 hx hb hK hP 5 0 rfl rfl (zin_ok (by decide)) (by decide) dX10_takes_199 ?_
              obtain ⟨o_20, hc_20, hF⟩ := zb hF
              refine zcVR (rest := []) (kX10_hangs l D ca t ad_M M_guests M_kind M_figure M_told M_heaps M_holds M_back M_mistakes M_hooks M_letters M_rule M_at M_well M_sort M_text M_row M_field M_fields M_begins M_ruleLetters M_coming M_comingMany M_going M_goingMany M_minute M_pile M_high M_where M_latest M_lifts M_begun M_left M_has M_lifted M_taken M_above M_allLifts M_busy M_longest M_onto M_worst M_best M_orders M_together M_ofOne M_ofOther M_seed M_then M_was M_kept M_held M_kindOn M_figureOn M_sorts M_size M_items M_moved M_thrown (M_field 0) fuel _ hc_20) ⟨hx, hb, hml, hown, hts⟩ (zcwV hts zm_67 zm_68 zm_69 zm_19 zm_66 rfl rfl zdv_X10_hangs ⟨Nat.le_of_ble_eq_true rfl, Nat.le_of_ble_eq_true rfl⟩) hA hK hZ hP hD hS [0, 1, 2, 3, 4, 5, 6, 7, 8, 9, 10, 11, 12, 13, 14, 15, 16, 17, 18, 19, 20, 21, 22, 23, 24, 25, 26, 27, 28, 29, 30, 31, 32, 33] rfl rfl 7 0 rfl rfl rfl hl.1 (Nat.le_of_ble_eq_true rfl) dX10_takes_200 rfl ?_
              refine lv_if_ne (tgt := 219) hx hb dX10_takes_203 (by decide) (fun c_21 => ?_) (fun c_21 => ?_)
              · have hF := zf c_21 hF
                exact j219 M_guests M_kind M_figure M_told M_heaps M_holds M_back M_mistakes M_hooks M_letters M_rule _ _ hF hP hD hS ls (lv_sub hl [0] rfl)
              · have hF := zt c_21 hF
                refine lv_aload_n hx hb dX10_takes_206 rfl (lv_at hl 0 rfl) ?_
                refine va_get (D := D) (ci := 7) (v := .int M_hooks) (C := RX10) (T := TX10) (N := 58) hx hb hts hin10 hown hK hP 0 rfl rfl 8 (by decide) (hts _ zm_30) (fun _ h9 => h9) rfl dX10_takes_207 ?_
                obtain ⟨o_22, hc_22, hF⟩ := zb hF
                refine zcSR (rest := []) (kX10_bits l D ca t M_hooks fuel _ hc_22) ⟨hx, hb, hml, hown, hts⟩ (zcwS hts zm_72 zm_71 zm_19 zm_70 rfl rfl zds_X10_bits ⟨Nat.le_of_ble_eq_true rfl, Nat.le_of_ble_eq_true rfl⟩) hA hK hZ hP hD hS [] rfl rfl rfl hl.1 (Nat.le_of_ble_eq_true rfl) dX10_takes_210 rfl ?_
                refine lv_iconst (v := 3) hx hb dX10_takes_213 (by decide) ?_
                refine lv_icmp_ne (tgt := 219) hx hb dX10_takes_214 (by decide) (fun c_23 => ?_) (fun c_23 => ?_)
                · have hF := zf c_23 hF
                  exact j219 M_guests M_kind M_figure M_told M_heaps M_holds M_back M_mistakes M_hooks M_letters M_rule _ _ hF hP hD hS ls (lv_sub hl [0] rfl)
                · have hF := zt c_23 hF
                  refine lv_iconst (v := 0) hx hb dX10_takes_217 (by decide) ?_
                  obtain rfl := Option.some.inj hF
                  exact hret _ _ _ _ hP hD hS (zbool (Or.inl rfl)) dX10_takes_218
          · have hF := zf c_17 hF
            refine lv_tableOut (tgt := 232) hx hb dX10_takes_4 (ztab (lo := 0) (hi := 4) (fun k h1 h2 => by rcases (show k = 0 ∨ k = 1 ∨ k = 2 ∨ k = 3 ∨ k = 4 by omega) with rfl | rfl | rfl | rfl | rfl <;> first | exact c_1 | exact c_5 | exact c_11 | exact c_14 | exact c_17)) (by decide) ?_
            refine lv_aload_n hx hb dX10_takes_232 rfl (lv_at hl 0 rfl) ?_
            refine lv_aload_n hx hb dX10_takes_233 rfl (lv_at hl 0 rfl) ?_
            refine va_get (D := D) (ci := 7) (v := .int M_fields) (C := RX10) (T := TX10) (N := 58) hx hb hts hin10 hown hK hP 0 rfl rfl 17 (by decide) (hts _ zm_47) (fun _ h9 => h9) rfl dX10_takes_234 ?_
            refine va_put (D := D) (ci := 7) (v := .int M_fields) (C := RX10) (T := TX10) (N := 58) hx hb hts hin10 tyX10 tyX10_ok nmX10 hown hK hP hD hS 0 rfl rfl 9 (by decide) (hts _ zm_73) (fun _ h9 => h9) rfl (tyX10_ok 9 (by decide)) rfl rfl (Nat.le_of_ble_eq_true rfl) dX10_takes_237 (fun H locs hP hD hS => ?_)
            have hP : va_P D vwCl (wX10_M ca ad_M M_guests M_kind M_figure M_told M_heaps M_holds M_back M_mistakes M_hooks M_fields M_rule M_at M_well M_sort M_text M_row M_field M_fields M_begins M_ruleLetters M_coming M_comingMany M_going M_goingMany M_minute M_pile M_high M_where M_latest M_lifts M_begun M_left M_has M_lifted M_taken M_above M_allLifts M_busy M_longest M_onto M_worst M_best M_orders M_together M_ofOne M_ofOther M_seed M_then M_was M_kept M_held M_kindOn M_figureOn M_sorts M_size M_items M_moved M_thrown) H := hP
            have hD : va_D A (wX10_M ca ad_M M_guests M_kind M_figure M_told M_heaps M_holds M_back M_mistakes M_hooks M_fields M_rule M_at M_well M_sort M_text M_row M_field M_fields M_begins M_ruleLetters M_coming M_comingMany M_going M_goingMany M_minute M_pile M_high M_where M_latest M_lifts M_begun M_left M_has M_lifted M_taken M_above M_allLifts M_busy M_longest M_onto M_worst M_best M_orders M_together M_ofOne M_ofOther M_seed M_then M_was M_kept M_held M_kindOn M_figureOn M_sorts M_size M_items M_moved M_thrown) := hD
            refine lv_iconst (v := 0) hx hb dX10_takes_240 (by decide) ?_
            refine lv_istore_n (lv' := [(1, .int 0), (0, .ref (ad_M 0))]) hx hb dX10_takes_241 rfl hl (by decide) rfl (fun ls hl => ?_)
            exact l242 fuel 0 M_guests M_kind M_figure M_told M_heaps M_holds M_back M_mistakes M_hooks M_fields M_rule _ _ hF hP hD hS ls (lv_sub hl [1, 0] rfl)
abbrev roX10_leaves : Room := { frames := 2, cells := 0, slots := 0, locals := 43 }
set_option maxHeartbeats 4000000 in
set_option maxRecDepth 100000 in
theorem kX10_leaves (l : Launch) (D : va_G) (ca : Nat → ClassId) (t : Nat → Nat) (ad_M : Nat → Nat) (M_guests : Int32) (M_kind : Nat → Int32) (M_figure : Nat → Int32) (M_told : Nat → Int32) (M_heaps : Int32) (M_holds : Int32) (M_back : Int32) (M_mistakes : Int32) (M_hooks : Int32) (M_letters : Int32) (M_rule : Nat → Int32) (M_at : Int32) (M_well : Int32) (M_sort : Int32) (M_text : Int32) (M_row : Int32) (M_field : Nat → Int32) (M_fields : Int32) (M_begins : Nat → Int32) (M_ruleLetters : Nat → Int32) (M_coming : Nat → Int32) (M_comingMany : Int32) (M_going : Nat → Int32) (M_goingMany : Int32) (M_minute : Nat → Int32) (M_pile : Nat → Int32) (M_high : Nat → Int32) (M_where : Nat → Int32) (M_latest : Int32) (M_lifts : Nat → Int32) (M_begun : Nat → Int32) (M_left : Nat → Int32) (M_has : Nat → Int32) (M_lifted : Nat → Int32) (M_taken : Nat → Int32) (M_above : Nat → Int32) (M_allLifts : Int32) (M_busy : Int32) (M_longest : Nat → Int32) (M_onto : Nat → Int32) (M_worst : Int32) (M_best : Int32) (M_orders : Int32) (M_together : Int32) (M_ofOne : Nat → Int32) (M_ofOther : Nat → Int32) (M_seed : Int32) (M_then : Nat → Int32) (M_was : Nat → Int32) (M_kept : Int32) (M_held : Nat → Int32) (M_kindOn : Nat → Int32) (M_figureOn : Nat → Int32) (M_sorts : Nat → Int32) (M_size : Nat → Int32) (M_items : Nat → Int32) (M_moved : Nat → Int32) (M_thrown : Int32) (p1 : Int32) (fuel : Nat) (o : Int32 × Int32 × (Nat → Int32) × (Nat → Int32) × (Nat → Int32) × Int32) (hF : fX10_leaves fuel M_guests M_kind M_figure M_told M_hooks p1 = some o) : zMi l D (zT ca) t yX10_leaves (.code yX10_leaves cX10_leaves 3 (some .int) :: zW) roX10_leaves [.ref (ad_M 0), .int p1] (wX10_M ca ad_M M_guests M_kind M_figure M_told M_heaps M_holds M_back M_mistakes M_hooks M_letters M_rule M_at M_well M_sort M_text M_row M_field M_fields M_begins M_ruleLetters M_coming M_comingMany M_going M_goingMany M_minute M_pile M_high M_where M_latest M_lifts M_begun M_left M_has M_lifted M_taken M_above M_allLifts M_busy M_longest M_onto M_worst M_best M_orders M_together M_ofOne M_ofOther M_seed M_then M_was M_kept M_held M_kindOn M_figureOn M_sorts M_size M_items M_moved M_thrown) (wX10_M ca ad_M o.2.1 o.2.2.1 o.2.2.2.1 o.2.2.2.2.1 M_heaps M_holds M_back M_mistakes o.2.2.2.2.2 M_letters M_rule M_at M_well M_sort M_text M_row M_field M_fields M_begins M_ruleLetters M_coming M_comingMany M_going M_goingMany M_minute M_pile M_high M_where M_latest M_lifts M_begun M_left M_has M_lifted M_taken M_above M_allLifts M_busy M_longest M_onto M_worst M_best M_orders M_together M_ofOne M_ofOther M_seed M_then M_was M_kept M_held M_kindOn M_figureOn M_sorts M_size M_items M_moved M_thrown) o.1 := by
  refine zMi_of (cc := cX10_leaves) (maxL := 3) (by decide) rfl (Nat.le_of_ble_eq_true rfl) ?_
  intro p e s m args below meth c A Q ls ⟨hx, hb, hml, hown, hts, hA, hK, hZ, hS⟩ hret hP hD hl
  have hts := fun w h => hts w (List.mem_cons_of_mem _ h)
  have hown : s.vm.findClass RX10 = some m.cls := hown
  have hl : lv_has ls 3 [(0, .ref (ad_M 0)), (1, .int p1)] := hl
  have hin10 := zin_X10
  have j70 : ∀ (M_guests : Int32) (M_kind : Nat → Int32) (M_figure : Nat → Int32) (M_told : Nat → Int32) (M_hooks : Int32) (H : Heap) (locs : List Loc), fX10_leaves_J70 p1 M_guests M_kind M_figure M_told M_hooks = some o → va_P D vwCl (wX10_M ca ad_M M_guests M_kind M_figure M_told M_heaps M_holds M_back M_mistakes M_hooks M_letters M_rule M_at M_well M_sort M_text M_row M_field M_fields M_begins M_ruleLetters M_coming M_comingMany M_going M_goingMany M_minute M_pile M_high M_where M_latest M_lifts M_begun M_left M_has M_lifted M_taken M_above M_allLifts M_busy M_longest M_onto M_worst M_best M_orders M_together M_ofOne M_ofOther M_seed M_then M_was M_kept M_held M_kindOn M_figureOn M_sorts M_size M_items M_moved M_thrown) H → va_D A (wX10_M ca ad_M M_guests M_kind M_figure M_told M_heaps M_holds M_back M_mistakes M_hooks M_letters M_rule M_at M_well M_sort M_text M_row M_field M_fields M_begins M_ruleLetters M_coming M_comingMany M_going M_goingMany M_minute M_pile M_high M_where M_latest M_lifts M_begun M_left M_has M_lifted M_taken M_above M_allLifts M_busy M_longest M_onto M_worst M_best M_orders M_together M_ofOne M_ofOther M_seed M_then M_was M_kept M_held M_kindOn M_figureOn M_sorts M_size M_items M_moved M_thrown) → va_S A s.heap H locs → ∀ ls : Array Slot, lv_has ls 3 [(0, .ref (ad_M 0)), (1, .int p1)] → W p l e roX10_leaves s m args below meth c H locs 0 0 Q (F0 m 70 ls []) := by
    intro M_guests M_kind M_figure M_told M_hooks H locs hF hP hD hS ls hl
    unfold fX10_leaves_J70 at hF
    refine lv_aload_n hx hb dX10_leaves_70 rfl (lv_at hl 0 rfl) ?_
    refine lv_dup hx hb dX10_leaves_71 rfl ?_
    refine va_get (D := D) (ci := 7) (v := .int M_guests) (C := RX10) (T := TX10) (N := 58) hx hb hts hin10 hown hK hP 0 rfl rfl 0 (by decide) (hts _ zm_16) (fun _ h9 => h9) rfl dX10_leaves_72 ?_
    refine lv_iconst (v := 1) hx hb dX10_leaves_75 (by decide) ?_
    refine lv_isub hx hb dX10_leaves_76 ?_
    refine z_let hF (fun guests_10 hF => ?_)
    refine va_put (D := D) (ci := 7) (v := .int guests_10) (C := RX10) (T := TX10) (N := 58) hx hb hts hin10 tyX10 tyX10_ok nmX10 hown hK hP hD hS 0 rfl rfl 0 (by decide) (hts _ zm_16) (fun _ h9 => h9) rfl (tyX10_ok 0 (by decide)) rfl rfl (Nat.le_of_ble_eq_true rfl) dX10_leaves_77 (fun H locs hP hD hS => ?_)
    have hP : va_P D vwCl (wX10_M ca ad_M guests_10 M_kind M_figure M_told M_heaps M_holds M_back M_mistakes M_hooks M_letters M_rule M_at M_well M_sort M_text M_row M_field M_fields M_begins M_ruleLetters M_coming M_comingMany M_going M_goingMany M_minute M_pile M_high M_where M_latest M_lifts M_begun M_left M_has M_lifted M_taken M_above M_allLifts M_busy M_longest M_onto M_worst M_best M_orders M_together M_ofOne M_ofOther M_seed M_then M_was M_kept M_held M_kindOn M_figureOn M_sorts M_size M_items M_moved M_thrown) H := hP
    have hD : va_D A (wX10_M ca ad_M guests_10 M_kind M_figure M_told M_heaps M_holds M_back M_mistakes M_hooks M_letters M_rule M_at M_well M_sort M_text M_row M_field M_fields M_begins M_ruleLetters M_coming M_comingMany M_going M_goingMany M_minute M_pile M_high M_where M_latest M_lifts M_begun M_left M_has M_lifted M_taken M_above M_allLifts M_busy M_longest M_onto M_worst M_best M_orders M_together M_ofOne M_ofOther M_seed M_then M_was M_kept M_held M_kindOn M_figureOn M_sorts M_size M_items M_moved M_thrown) := hD
    refine lv_aload_n hx hb dX10_leaves_80 rfl (lv_at hl 0 rfl) ?_
    refine lv_aload_n hx hb dX10_leaves_81 rfl (lv_at hl 0 rfl) ?_
    refine va_get (D := D) (ci := 7) (v := .int M_hooks) (C := RX10) (T := TX10) (N := 58) hx hb hts hin10 hown hK hP 0 rfl rfl 8 (by decide) (hts _ zm_30) (fun _ h9 => h9) rfl dX10_leaves_82 ?_
    refine lv_iconst (v := 1) hx hb dX10_leaves_85 (by decide) ?_
    refine lv_iload_n hx hb dX10_leaves_86 rfl (lv_at hl 1 rfl) ?_
    refine lv_ishl hx hb dX10_leaves_87 ?_
    refine lv_iconst (v := 1) hx hb dX10_leaves_88 (by decide) ?_
    refine lv_isub hx hb dX10_leaves_89 ?_
    refine lv_iand hx hb dX10_leaves_90 ?_
    refine z_let hF (fun x_11 hF => ?_)
    refine lv_aload_n hx hb dX10_leaves_91 rfl (lv_at hl 0 rfl) ?_
    refine va_get (D := D) (ci := 7) (v := .int M_hooks) (C := RX10) (T := TX10) (N := 58) hx hb hts hin10 hown hK hP 0 rfl rfl 8 (by decide) (hts _ zm_30) (fun _ h9 => h9) rfl dX10_leaves_92 ?_
    refine lv_iload_n hx hb dX10_leaves_95 rfl (lv_at hl 1 rfl) ?_
    refine lv_iconst (v := 1) hx hb dX10_leaves_96 (by decide) ?_
    refine lv_iadd hx hb dX10_leaves_97 ?_
    refine lv_ishr hx hb dX10_leaves_98 ?_
    refine lv_iload_n hx hb dX10_leaves_99 rfl (lv_at hl 1 rfl) ?_
    refine lv_ishl hx hb dX10_leaves_100 ?_
    refine z_let hF (fun x_12 hF => ?_)
    refine lv_ior hx hb dX10_leaves_101 ?_
    refine z_let hF (fun hooks_13 hF => ?_)
    refine va_put (D := D) (ci := 7) (v := .int hooks_13) (C := RX10) (T := TX10) (N := 58) hx hb hts hin10 tyX10 tyX10_ok nmX10 hown hK hP hD hS 0 rfl rfl 8 (by decide) (hts _ zm_30) (fun _ h9 => h9) rfl (tyX10_ok 8 (by decide)) rfl rfl (Nat.le_of_ble_eq_true rfl) dX10_leaves_102 (fun H locs hP hD hS => ?_)
    have hP : va_P D vwCl (wX10_M ca ad_M guests_10 M_kind M_figure M_told M_heaps M_holds M_back M_mistakes hooks_13 M_letters M_rule M_at M_well M_sort M_text M_row M_field M_fields M_begins M_ruleLetters M_coming M_comingMany M_going M_goingMany M_minute M_pile M_high M_where M_latest M_lifts M_begun M_left M_has M_lifted M_taken M_above M_allLifts M_busy M_longest M_onto M_worst M_best M_orders M_together M_ofOne M_ofOther M_seed M_then M_was M_kept M_held M_kindOn M_figureOn M_sorts M_size M_items M_moved M_thrown) H := hP
    have hD : va_D A (wX10_M ca ad_M guests_10 M_kind M_figure M_told M_heaps M_holds M_back M_mistakes hooks_13 M_letters M_rule M_at M_well M_sort M_text M_row M_field M_fields M_begins M_ruleLetters M_coming M_comingMany M_going M_goingMany M_minute M_pile M_high M_where M_latest M_lifts M_begun M_left M_has M_lifted M_taken M_above M_allLifts M_busy M_longest M_onto M_worst M_best M_orders M_together M_ofOne M_ofOther M_seed M_then M_was M_kept M_held M_kindOn M_figureOn M_sorts M_size M_items M_moved M_thrown) := hD
    refine lv_aload_n hx hb dX10_leaves_105 rfl (lv_at hl 0 rfl) ?_
    refine va_get (D := D) (ci := 7) (v := .int guests_10) (C := RX10) (T := TX10) (N := 58) hx hb hts hin10 hown hK hP 0 rfl rfl 0 (by decide) (hts _ zm_16) (fun _ h9 => h9) rfl dX10_leaves_106 ?_
    obtain rfl := Option.some.inj hF
    exact hret _ _ _ _ hP hD hS rfl dX10_leaves_109
  have l12 : ∀ (n12 : Nat) (v2 : Int32) (M_guests : Int32) (M_kind : Nat → Int32) (M_figure : Nat → Int32) (M_told : Nat → Int32) (M_hooks : Int32) (H : Heap) (locs : List Loc), fX10_leaves_L12 p1 n12 v2 M_guests M_kind M_figure M_told M_hooks = some o → va_P D vwCl (wX10_M ca ad_M M_guests M_kind M_figure M_told M_heaps M_holds M_back M_mistakes M_hooks M_letters M_rule M_at M_well M_sort M_text M_row M_field M_fields M_begins M_ruleLetters M_coming M_comingMany M_going M_goingMany M_minute M_pile M_high M_where M_latest M_lifts M_begun M_left M_has M_lifted M_taken M_above M_allLifts M_busy M_longest M_onto M_worst M_best M_orders M_together M_ofOne M_ofOther M_seed M_then M_was M_kept M_held M_kindOn M_figureOn M_sorts M_size M_items M_moved M_thrown) H → va_D A (wX10_M ca ad_M M_guests M_kind M_figure M_told M_heaps M_holds M_back M_mistakes M_hooks M_letters M_rule M_at M_well M_sort M_text M_row M_field M_fields M_begins M_ruleLetters M_coming M_comingMany M_going M_goingMany M_minute M_pile M_high M_where M_latest M_lifts M_begun M_left M_has M_lifted M_taken M_above M_allLifts M_busy M_longest M_onto M_worst M_best M_orders M_together M_ofOne M_ofOther M_seed M_then M_was M_kept M_held M_kindOn M_figureOn M_sorts M_size M_items M_moved M_thrown) → va_S A s.heap H locs → ∀ ls : Array Slot, lv_has ls 3 [(0, .ref (ad_M 0)), (1, .int p1), (2, .int v2)] → W p l e roX10_leaves s m args below meth c H locs 0 0 Q (F0 m 12 ls []) := by
    intro n12
    induction n12 with
    | zero =>
      intro v2 M_guests M_kind M_figure M_told M_hooks H locs hF
      rw [fX10_leaves_L12] at hF
      cases hF
    | succ n12 ih12 =>
      intro v2 M_guests M_kind M_figure M_told M_hooks H locs hF hP hD hS ls hl
      rw [fX10_leaves_L12] at hF
      refine lv_iload_n hx hb dX10_leaves_12 rfl (lv_at hl 2 rfl) ?_
      refine lv_iconst (v := 1) hx hb dX10_leaves_13 (by decide) ?_
      refine lv_iadd hx hb dX10_leaves_14 ?_
      refine lv_aload_n hx hb dX10_leaves_15 rfl (lv_at hl 0 rfl) ?_
      refine va_get (D := D) (ci := 7) (v := .int M_guests) (C := RX10) (T := TX10) (N := 58) hx hb hts hin10 hown hK hP 0 rfl rfl 0 (by decide) (hts _ zm_16) (fun _ h9 => h9) rfl dX10_leaves_16 ?_
      refine lv_icmp_ge (tgt := 70) hx hb dX10_leaves_19 (by decide) (fun c_3 => ?_) (fun c_3 => ?_)
      · have hF := zt c_3 hF
        exact j70 M_guests M_kind M_figure M_told M_hooks _ _ hF hP hD hS ls (lv_sub hl [0, 1] rfl)
      · have hF := zf c_3 hF
        refine lv_aload_n hx hb dX10_leaves_22 rfl (lv_at hl 0 rfl) ?_
        refine va_get (D := D) (ci := 7) (v := .ref (ad_M 1)) (C := RX10) (T := TX10) (N := 58) hx hb hts hin10 hown hK hP 0 rfl rfl 1 (by decide) (hts _ zm_25) (fun _ h9 => h9) rfl dX10_leaves_23 ?_
        refine lv_iload_n hx hb dX10_leaves_26 rfl (lv_at hl 2 rfl) ?_
        refine lv_aload_n hx hb dX10_leaves_27 rfl (lv_at hl 0 rfl) ?_
        refine va_get (D := D) (ci := 7) (v := .ref (ad_M 1)) (C := RX10) (T := TX10) (N := 58) hx hb hts hin10 hown hK hP 0 rfl rfl 1 (by decide) (hts _ zm_25) (fun _ h9 => h9) rfl dX10_leaves_28 ?_
        refine lv_iload_n hx hb dX10_leaves_31 rfl (lv_at hl 2 rfl) ?_
        refine lv_iconst (v := 1) hx hb dX10_leaves_32 (by decide) ?_
        refine lv_iadd hx hb dX10_leaves_33 ?_
        obtain ⟨h_4, hF⟩ := zgi hF
        refine va_iald hx hb hK hP 1 0 rfl rfl h_4 dX10_leaves_34 ?_
        obtain ⟨h_5, hF⟩ := zgi hF
        refine z_iast hx hb hK hP hD hS 1 0 rfl rfl h_5 dX10_leaves_35 (fun g => (wX10_M ca ad_M M_guests g M_figure M_told M_heaps M_holds M_back M_mistakes M_hooks M_letters M_rule M_at M_well M_sort M_text M_row M_field M_fields M_begins M_ruleLetters M_coming M_comingMany M_going M_goingMany M_minute M_pile M_high M_where M_latest M_lifts M_begun M_left M_has M_lifted M_taken M_above M_allLifts M_busy M_longest M_onto M_worst M_best M_orders M_together M_ofOne M_ofOther M_seed M_then M_was M_kept M_held M_kindOn M_figureOn M_sorts M_size M_items M_moved M_thrown)) (fun _ => rfl) hF (fun M_kind_6 H locs hF hP hD hS => ?_)
        refine lv_aload_n hx hb dX10_leaves_36 rfl (lv_at hl 0 rfl) ?_
        refine va_get (D := D) (ci := 7) (v := .ref (ad_M 2)) (C := RX10) (T := TX10) (N := 58) hx hb hts hin10 hown hK hP 0 rfl rfl 2 (by decide) (hts _ zm_26) (fun _ h9 => h9) rfl dX10_leaves_37 ?_
        refine lv_iload_n hx hb dX10_leaves_40 rfl (lv_at hl 2 rfl) ?_
        refine lv_aload_n hx hb dX10_leaves_41 rfl (lv_at hl 0 rfl) ?_
        refine va_get (D := D) (ci := 7) (v := .ref (ad_M 2)) (C := RX10) (T := TX10) (N := 58) hx hb hts hin10 hown hK hP 0 rfl rfl 2 (by decide) (hts _ zm_26) (fun _ h9 => h9) rfl dX10_leaves_42 ?_
        refine lv_iload_n hx hb dX10_leaves_45 rfl (lv_at hl 2 rfl) ?_
        refine lv_iconst (v := 1) hx hb dX10_leaves_46 (by decide) ?_
        refine lv_iadd hx hb dX10_leaves_47 ?_
        refine va_iald hx hb hK hP 2 0 rfl rfl h_4 dX10_leaves_48 ?_
        refine z_iast hx hb hK hP hD hS 2 0 rfl rfl h_5 dX10_leaves_49 (fun g => (wX10_M ca ad_M M_guests M_kind_6 g M_told M_heaps M_holds M_back M_mistakes M_hooks M_letters M_rule M_at M_well M_sort M_text M_row M_field M_fields M_begins M_ruleLetters M_coming M_comingMany M_going M_goingMany M_minute M_pile M_high M_where M_latest M_lifts M_begun M_left M_has M_lifted M_taken M_above M_allLifts M_busy M_longest M_onto M_worst M_best M_orders M_together M_ofOne M_ofOther M_seed M_then M_was M_kept M_held M_kindOn M_figureOn M_sorts M_size M_items M_moved M_thrown)) (fun _ => rfl) hF (fun M_figure_7 H locs hF hP hD hS => ?_)
        refine lv_aload_n hx hb dX10_leaves_50 rfl (lv_at hl 0 rfl) ?_
        refine va_get (D := D) (ci := 7) (v := .ref (ad_M 3)) (C := RX10) (T := TX10) (N := 58) hx hb hts hin10 hown hK hP 0 rfl rfl 3 (by decide) (hts _ zm_31) (fun _ h9 => h9) rfl dX10_leaves_51 ?_
        refine lv_iload_n hx hb dX10_leaves_54 rfl (lv_at hl 2 rfl) ?_
        refine lv_aload_n hx hb dX10_leaves_55 rfl (lv_at hl 0 rfl) ?_
        refine va_get (D := D) (ci := 7) (v := .ref (ad_M 3)) (C := RX10) (T := TX10) (N := 58) hx hb hts hin10 hown hK hP 0 rfl rfl 3 (by decide) (hts _ zm_31) (fun _ h9 => h9) rfl dX10_leaves_56 ?_
        refine lv_iload_n hx hb dX10_leaves_59 rfl (lv_at hl 2 rfl) ?_
        refine lv_iconst (v := 1) hx hb dX10_leaves_60 (by decide) ?_
        refine lv_iadd hx hb dX10_leaves_61 ?_
        refine va_iald hx hb hK hP 3 0 rfl rfl h_4 dX10_leaves_62 ?_
        refine z_iast hx hb hK hP hD hS 3 0 rfl rfl h_5 dX10_leaves_63 (fun g => (wX10_M ca ad_M M_guests M_kind_6 M_figure_7 g M_heaps M_holds M_back M_mistakes M_hooks M_letters M_rule M_at M_well M_sort M_text M_row M_field M_fields M_begins M_ruleLetters M_coming M_comingMany M_going M_goingMany M_minute M_pile M_high M_where M_latest M_lifts M_begun M_left M_has M_lifted M_taken M_above M_allLifts M_busy M_longest M_onto M_worst M_best M_orders M_together M_ofOne M_ofOther M_seed M_then M_was M_kept M_held M_kindOn M_figureOn M_sorts M_size M_items M_moved M_thrown)) (fun _ => rfl) hF (fun M_told_8 H locs hF hP hD hS => ?_)
        refine z_iinc (kv := 1) hx hb 2 dX10_leaves_64 hl rfl (by decide) (by decide) (fun g => [(2, .int g), (0, .ref (ad_M 0)), (1, .int p1)]) (fun _ => rfl) hF (fun v2_9 ls hF hl => ?_)
        refine lv_goto (tgt := 12) hx hb dX10_leaves_67 (by decide) ?_
        exact ih12 v2_9 M_guests M_kind_6 M_figure_7 M_told_8 M_hooks _ _ hF hP hD hS ls (lv_sub hl [1, 2, 0] rfl)
  unfold fX10_leaves at hF
  refine lv_aload_n hx hb dX10_leaves_0 rfl (lv_at hl 0 rfl) ?_
  refine lv_iload_n hx hb dX10_leaves_1 rfl (lv_at hl 1 rfl) ?_
  obtain ⟨o_1, hc_1, hF⟩ := zb hF
  refine zcVR (rest := []) (kX10_isGuest l D ca t ad_M M_guests M_kind M_figure M_told M_heaps M_holds M_back M_mistakes M_hooks M_letters M_rule M_at M_well M_sort M_text M_row M_field M_fields M_begins M_ruleLetters M_coming M_comingMany M_going M_goingMany M_minute M_pile M_high M_where M_latest M_lifts M_begun M_left M_has M_lifted M_taken M_above M_allLifts M_busy M_longest M_onto M_worst M_best M_orders M_together M_ofOne M_ofOther M_seed M_then M_was M_kept M_held M_kindOn M_figureOn M_sorts M_size M_items M_moved M_thrown p1 fuel _ hc_1) ⟨hx, hb, hml, hown, hts⟩ (zcwV hts zm_63 zm_64 zm_65 zm_19 zm_62 rfl rfl zdv_X10_isGuest ⟨Nat.le_of_ble_eq_true rfl, Nat.le_of_ble_eq_true rfl⟩) hA hK hZ hP hD hS [0, 1, 2, 3, 4, 5, 6, 7, 8, 9, 10, 11, 12, 13, 14, 15, 16, 17, 18, 19, 20, 21, 22, 23, 24, 25, 26, 27, 28, 29, 30, 31, 32, 33] rfl rfl 7 0 rfl rfl rfl hl.1 (Nat.le_of_ble_eq_true rfl) dX10_leaves_2 rfl ?_
  refine lv_if_ne (tgt := 10) hx hb dX10_leaves_5 (by decide) (fun c_2 => ?_) (fun c_2 => ?_)
  · have hF := zf c_2 hF
    refine lv_iload_n hx hb dX10_leaves_10 rfl (lv_at hl 1 rfl) ?_
    refine lv_istore_n (lv' := [(2, .int p1), (0, .ref (ad_M 0)), (1, .int p1)]) hx hb dX10_leaves_11 rfl hl (by decide) rfl (fun ls hl => ?_)
    exact l12 fuel p1 M_guests M_kind M_figure M_told M_hooks _ _ hF hP hD hS ls (lv_sub hl [1, 2, 0] rfl)
  · have hF := zt c_2 hF
    refine lv_iconst (v := (-1)) hx hb dX10_leaves_8 (by decide) ?_
    obtain rfl := Option.some.inj hF
    exact hret _ _ _ _ hP hD hS rfl dX10_leaves_9
abbrev roX10_goes : Room := { frames := 2, cells := 0, slots := 0, locals := 43 }
set_option maxHeartbeats 4000000 in
set_option maxRecDepth 100000 in
theorem kX10_goes (l : Launch) (D : va_G) (ca : Nat → ClassId) (t : Nat → Nat) (ad_M : Nat → Nat) (M_guests : Int32) (M_kind : Nat → Int32) (M_figure : Nat → Int32) (M_told : Nat → Int32) (M_heaps : Int32) (M_holds : Int32) (M_back : Int32) (M_mistakes : Int32) (M_hooks : Int32) (M_letters : Int32) (M_rule : Nat → Int32) (M_at : Int32) (M_well : Int32) (M_sort : Int32) (M_text : Int32) (M_row : Int32) (M_field : Nat → Int32) (M_fields : Int32) (M_begins : Nat → Int32) (M_ruleLetters : Nat → Int32) (M_coming : Nat → Int32) (M_comingMany : Int32) (M_going : Nat → Int32) (M_goingMany : Int32) (M_minute : Nat → Int32) (M_pile : Nat → Int32) (M_high : Nat → Int32) (M_where : Nat → Int32) (M_latest : Int32) (M_lifts : Nat → Int32) (M_begun : Nat → Int32) (M_left : Nat → Int32) (M_has : Nat → Int32) (M_lifted : Nat → Int32) (M_taken : Nat → Int32) (M_above : Nat → Int32) (M_allLifts : Int32) (M_busy : Int32) (M_longest : Nat → Int32) (M_onto : Nat → Int32) (M_worst : Int32) (M_best : Int32) (M_orders : Int32) (M_together : Int32) (M_ofOne : Nat → Int32) (M_ofOther : Nat → Int32) (M_seed : Int32) (M_then : Nat → Int32) (M_was : Nat → Int32) (M_kept : Int32) (M_held : Nat → Int32) (M_kindOn : Nat → Int32) (M_figureOn : Nat → Int32) (M_sorts : Nat → Int32) (M_size : Nat → Int32) (M_items : Nat → Int32) (M_moved : Nat → Int32) (M_thrown : Int32) (p1 : Int32) (p2 : Int32) (fuel : Nat) (o : Int32 × (Nat → Int32)) (hF : fX10_goes fuel M_guests M_told p1 p2 = some o) : zMi l D (zT ca) t yX10_goes (.code yX10_goes cX10_goes 4 (some .int) :: zW) roX10_goes [.ref (ad_M 0), .int p1, .int p2] (wX10_M ca ad_M M_guests M_kind M_figure M_told M_heaps M_holds M_back M_mistakes M_hooks M_letters M_rule M_at M_well M_sort M_text M_row M_field M_fields M_begins M_ruleLetters M_coming M_comingMany M_going M_goingMany M_minute M_pile M_high M_where M_latest M_lifts M_begun M_left M_has M_lifted M_taken M_above M_allLifts M_busy M_longest M_onto M_worst M_best M_orders M_together M_ofOne M_ofOther M_seed M_then M_was M_kept M_held M_kindOn M_figureOn M_sorts M_size M_items M_moved M_thrown) (wX10_M ca ad_M M_guests M_kind M_figure o.2 M_heaps M_holds M_back M_mistakes M_hooks M_letters M_rule M_at M_well M_sort M_text M_row M_field M_fields M_begins M_ruleLetters M_coming M_comingMany M_going M_goingMany M_minute M_pile M_high M_where M_latest M_lifts M_begun M_left M_has M_lifted M_taken M_above M_allLifts M_busy M_longest M_onto M_worst M_best M_orders M_together M_ofOne M_ofOther M_seed M_then M_was M_kept M_held M_kindOn M_figureOn M_sorts M_size M_items M_moved M_thrown) o.1 := by
  refine zMi_of (cc := cX10_goes) (maxL := 4) (by decide) rfl (Nat.le_of_ble_eq_true rfl) ?_
  intro p e s m args below meth c A Q ls ⟨hx, hb, hml, hown, hts, hA, hK, hZ, hS⟩ hret hP hD hl
  have hts := fun w h => hts w (List.mem_cons_of_mem _ h)
  have hown : s.vm.findClass RX10 = some m.cls := hown
  have hl : lv_has ls 4 [(0, .ref (ad_M 0)), (1, .int p1), (2, .int p2)] := hl
  have hin10 := zin_X10
  unfold fX10_goes at hF
  refine lv_aload_n hx hb dX10_goes_0 rfl (lv_at hl 0 rfl) ?_
  refine lv_iload_n hx hb dX10_goes_1 rfl (lv_at hl 1 rfl) ?_
  obtain ⟨o_1, hc_1, hF⟩ := zb hF
  refine zcVR (rest := []) (kX10_isGuest l D ca t ad_M M_guests M_kind M_figure M_told M_heaps M_holds M_back M_mistakes M_hooks M_letters M_rule M_at M_well M_sort M_text M_row M_field M_fields M_begins M_ruleLetters M_coming M_comingMany M_going M_goingMany M_minute M_pile M_high M_where M_latest M_lifts M_begun M_left M_has M_lifted M_taken M_above M_allLifts M_busy M_longest M_onto M_worst M_best M_orders M_together M_ofOne M_ofOther M_seed M_then M_was M_kept M_held M_kindOn M_figureOn M_sorts M_size M_items M_moved M_thrown p1 fuel _ hc_1) ⟨hx, hb, hml, hown, hts⟩ (zcwV hts zm_63 zm_64 zm_65 zm_19 zm_62 rfl rfl zdv_X10_isGuest ⟨Nat.le_of_ble_eq_true rfl, Nat.le_of_ble_eq_true rfl⟩) hA hK hZ hP hD hS [0, 1, 2, 3, 4, 5, 6, 7, 8, 9, 10, 11, 12, 13, 14, 15, 16, 17, 18, 19, 20, 21, 22, 23, 24, 25, 26, 27, 28, 29, 30, 31, 32, 33] rfl rfl 7 0 rfl rfl rfl hl.1 (Nat.le_of_ble_eq_true rfl) dX10_goes_2 rfl ?_
  refine lv_if_eq (tgt := 18) hx hb dX10_goes_5 (by decide) (fun c_2 => ?_) (fun c_2 => ?_)
  · have hF := zt c_2 hF
    refine lv_iconst (v := (-1)) hx hb dX10_goes_18 (by decide) ?_
    obtain rfl := Option.some.inj hF
    exact hret _ _ _ _ hP hD hS rfl dX10_goes_19
  · have hF := zf c_2 hF
    refine lv_iload_n hx hb dX10_goes_8 rfl (lv_at hl 2 rfl) ?_
    refine lv_iconst (v := 0) hx hb dX10_goes_9 (by decide) ?_
    refine lv_bipush (v := 99) hx hb dX10_goes_10 (by decide) ?_
    obtain ⟨o_3, hc_3, hF⟩ := zb hF
    refine zcSR (rest := []) (kX10_isIn l D ca t p2 0 99 fuel _ hc_3) ⟨hx, hb, hml, hown, hts⟩ (zcwS hts zm_20 zm_18 zm_19 zm_17 rfl rfl zds_X10_isIn ⟨Nat.le_of_ble_eq_true rfl, Nat.le_of_ble_eq_true rfl⟩) hA hK hZ hP hD hS [] rfl rfl rfl hl.1 (Nat.le_of_ble_eq_true rfl) dX10_goes_12 rfl ?_
    refine lv_if_ne (tgt := 20) hx hb dX10_goes_15 (by decide) (fun c_4 => ?_) (fun c_4 => ?_)
    · have hF := zf c_4 hF
      refine lv_aload_n hx hb dX10_goes_20 rfl (lv_at hl 0 rfl) ?_
      refine va_get (D := D) (ci := 7) (v := .ref (ad_M 3)) (C := RX10) (T := TX10) (N := 58) hx hb hts hin10 hown hK hP 0 rfl rfl 3 (by decide) (hts _ zm_31) (fun _ h9 => h9) rfl dX10_goes_21 ?_
      refine lv_iload_n hx hb dX10_goes_24 rfl (lv_at hl 1 rfl) ?_
      obtain ⟨h_5, hF⟩ := zgi hF
      refine va_iald hx hb hK hP 3 0 rfl rfl h_5 dX10_goes_25 ?_
      refine z_let hF (fun v3_6 hF => ?_)
      refine lv_istore_n (lv' := [(3, .int v3_6), (0, .ref (ad_M 0)), (1, .int p1), (2, .int p2)]) hx hb dX10_goes_26 rfl hl (by decide) rfl (fun ls hl => ?_)
      refine lv_aload_n hx hb dX10_goes_27 rfl (lv_at hl 1 rfl) ?_
      refine va_get (D := D) (ci := 7) (v := .ref (ad_M 3)) (C := RX10) (T := TX10) (N := 58) hx hb hts hin10 hown hK hP 0 rfl rfl 3 (by decide) (hts _ zm_31) (fun _ h9 => h9) rfl dX10_goes_28 ?_
      refine lv_iload_n hx hb dX10_goes_31 rfl (lv_at hl 2 rfl) ?_
      refine lv_iload_n hx hb dX10_goes_32 rfl (lv_at hl 3 rfl) ?_
      refine z_iast hx hb hK hP hD hS 3 0 rfl rfl h_5 dX10_goes_33 (fun g => (wX10_M ca ad_M M_guests M_kind M_figure g M_heaps M_holds M_back M_mistakes M_hooks M_letters M_rule M_at M_well M_sort M_text M_row M_field M_fields M_begins M_ruleLetters M_coming M_comingMany M_going M_goingMany M_minute M_pile M_high M_where M_latest M_lifts M_begun M_left M_has M_lifted M_taken M_above M_allLifts M_busy M_longest M_onto M_worst M_best M_orders M_together M_ofOne M_ofOther M_seed M_then M_was M_kept M_held M_kindOn M_figureOn M_sorts M_size M_items M_moved M_thrown)) (fun _ => rfl) hF (fun M_told_7 H locs hF hP hD hS => ?_)
      refine lv_iload_n hx hb dX10_goes_34 rfl (lv_at hl 0 rfl) ?_
      obtain rfl := Option.some.inj hF
      exact hret _ _ _ _ hP hD hS rfl dX10_goes_35
    · have hF := zt c_4 hF
      refine lv_iconst (v := (-1)) hx hb dX10_goes_18 (by decide) ?_
      obtain rfl := Option.some.inj hF
      exact hret _ _ _ _ hP hD hS rfl dX10_goes_19
abbrev roX10_hook : Room := { frames := 2, cells := 0, slots := 0, locals := 43 }
set_option maxHeartbeats 4000000 in
set_option maxRecDepth 100000 in
theorem kX10_hook (l : Launch) (D : va_G) (ca : Nat → ClassId) (t : Nat → Nat) (ad_M : Nat → Nat) (M_guests : Int32) (M_kind : Nat → Int32) (M_figure : Nat → Int32) (M_told : Nat → Int32) (M_heaps : Int32) (M_holds : Int32) (M_back : Int32) (M_mistakes : Int32) (M_hooks : Int32) (M_letters : Int32) (M_rule : Nat → Int32) (M_at : Int32) (M_well : Int32) (M_sort : Int32) (M_text : Int32) (M_row : Int32) (M_field : Nat → Int32) (M_fields : Int32) (M_begins : Nat → Int32) (M_ruleLetters : Nat → Int32) (M_coming : Nat → Int32) (M_comingMany : Int32) (M_going : Nat → Int32) (M_goingMany : Int32) (M_minute : Nat → Int32) (M_pile : Nat → Int32) (M_high : Nat → Int32) (M_where : Nat → Int32) (M_latest : Int32) (M_lifts : Nat → Int32) (M_begun : Nat → Int32) (M_left : Nat → Int32) (M_has : Nat → Int32) (M_lifted : Nat → Int32) (M_taken : Nat → Int32) (M_above : Nat → Int32) (M_allLifts : Int32) (M_busy : Int32) (M_longest : Nat → Int32) (M_onto : Nat → Int32) (M_worst : Int32) (M_best : Int32) (M_orders : Int32) (M_together : Int32) (M_ofOne : Nat → Int32) (M_ofOther : Nat → Int32) (M_seed : Int32) (M_then : Nat → Int32) (M_was : Nat → Int32) (M_kept : Int32) (M_held : Nat → Int32) (M_kindOn : Nat → Int32) (M_figureOn : Nat → Int32) (M_sorts : Nat → Int32) (M_size : Nat → Int32) (M_items : Nat → Int32) (M_moved : Nat → Int32) (M_thrown : Int32) (p1 : Int32) (fuel : Nat) (o : Int32 × Int32) (hF : fX10_hook fuel M_guests M_hooks p1 = some o) : zMi l D (zT ca) t yX10_hook (.code yX10_hook cX10_hook 2 (some .int) :: zW) roX10_hook [.ref (ad_M 0), .int p1] (wX10_M ca ad_M M_guests M_kind M_figure M_told M_heaps M_holds M_back M_mistakes M_hooks M_letters M_rule M_at M_well M_sort M_text M_row M_field M_fields M_begins M_ruleLetters M_coming M_comingMany M_going M_goingMany M_minute M_pile M_high M_where M_latest M_lifts M_begun M_left M_has M_lifted M_taken M_above M_allLifts M_busy M_longest M_onto M_worst M_best M_orders M_together M_ofOne M_ofOther M_seed M_then M_was M_kept M_held M_kindOn M_figureOn M_sorts M_size M_items M_moved M_thrown) (wX10_M ca ad_M M_guests M_kind M_figure M_told M_heaps M_holds M_back M_mistakes o.2 M_letters M_rule M_at M_well M_sort M_text M_row M_field M_fields M_begins M_ruleLetters M_coming M_comingMany M_going M_goingMany M_minute M_pile M_high M_where M_latest M_lifts M_begun M_left M_has M_lifted M_taken M_above M_allLifts M_busy M_longest M_onto M_worst M_best M_orders M_together M_ofOne M_ofOther M_seed M_then M_was M_kept M_held M_kindOn M_figureOn M_sorts M_size M_items M_moved M_thrown) o.1 := by
  refine zMi_of (cc := cX10_hook) (maxL := 2) (by decide) rfl (Nat.le_of_ble_eq_true rfl) ?_
  intro p e s m args below meth c A Q ls ⟨hx, hb, hml, hown, hts, hA, hK, hZ, hS⟩ hret hP hD hl
  have hts := fun w h => hts w (List.mem_cons_of_mem _ h)
  have hown : s.vm.findClass RX10 = some m.cls := hown
  have hl : lv_has ls 2 [(0, .ref (ad_M 0)), (1, .int p1)] := hl
  have hin10 := zin_X10
  have j34 : ∀ (M_hooks : Int32) (H : Heap) (locs : List Loc), fX10_hook_J34 fuel p1 M_hooks = some o → va_P D vwCl (wX10_M ca ad_M M_guests M_kind M_figure M_told M_heaps M_holds M_back M_mistakes M_hooks M_letters M_rule M_at M_well M_sort M_text M_row M_field M_fields M_begins M_ruleLetters M_coming M_comingMany M_going M_goingMany M_minute M_pile M_high M_where M_latest M_lifts M_begun M_left M_has M_lifted M_taken M_above M_allLifts M_busy M_longest M_onto M_worst M_best M_orders M_together M_ofOne M_ofOther M_seed M_then M_was M_kept M_held M_kindOn M_figureOn M_sorts M_size M_items M_moved M_thrown) H → va_D A (wX10_M ca ad_M M_guests M_kind M_figure M_told M_heaps M_holds M_back M_mistakes M_hooks M_letters M_rule M_at M_well M_sort M_text M_row M_field M_fields M_begins M_ruleLetters M_coming M_comingMany M_going M_goingMany M_minute M_pile M_high M_where M_latest M_lifts M_begun M_left M_has M_lifted M_taken M_above M_allLifts M_busy M_longest M_onto M_worst M_best M_orders M_together M_ofOne M_ofOther M_seed M_then M_was M_kept M_held M_kindOn M_figureOn M_sorts M_size M_items M_moved M_thrown) → va_S A s.heap H locs → ∀ ls : Array Slot, lv_has ls 2 [(0, .ref (ad_M 0)), (1, .int p1)] → W p l e roX10_hook s m args below meth c H locs 0 0 Q (F0 m 34 ls []) := by
    intro M_hooks H locs hF hP hD hS ls hl
    unfold fX10_hook_J34 at hF
    refine lv_aload_n hx hb dX10_hook_34 rfl (lv_at hl 0 rfl) ?_
    refine lv_iload_n hx hb dX10_hook_35 rfl (lv_at hl 1 rfl) ?_
    obtain ⟨o_7, hc_7, hF⟩ := zb hF
    refine zcVi (rest := []) (ws' := (wX10_M ca ad_M M_guests M_kind M_figure M_told M_heaps M_holds M_back M_mistakes o_7.2 M_letters M_rule M_at M_well M_sort M_text M_row M_field M_fields M_begins M_ruleLetters M_coming M_comingMany M_going M_goingMany M_minute M_pile M_high M_where M_latest M_lifts M_begun M_left M_has M_lifted M_taken M_above M_allLifts M_busy M_longest M_onto M_worst M_best M_orders M_together M_ofOne M_ofOther M_seed M_then M_was M_kept M_held M_kindOn M_figureOn M_sorts M_size M_items M_moved M_thrown)) (kX10_turnHook l D ca t ad_M M_guests M_kind M_figure M_told M_heaps M_holds M_back M_mistakes M_hooks M_letters M_rule M_at M_well M_sort M_text M_row M_field M_fields M_begins M_ruleLetters M_coming M_comingMany M_going M_goingMany M_minute M_pile M_high M_where M_latest M_lifts M_begun M_left M_has M_lifted M_taken M_above M_allLifts M_busy M_longest M_onto M_worst M_best M_orders M_together M_ofOne M_ofOther M_seed M_then M_was M_kept M_held M_kindOn M_figureOn M_sorts M_size M_items M_moved M_thrown p1 fuel _ hc_7) ⟨hx, hb, hml, hown, hts⟩ (zcwV hts zm_75 zm_76 zm_77 zm_19 zm_74 rfl rfl zdv_X10_turnHook ⟨Nat.le_of_ble_eq_true rfl, Nat.le_of_ble_eq_true rfl⟩) hA hK hZ hP hD hS [0, 1, 2, 3, 4, 5, 6, 7, 8, 9, 10, 11, 12, 13, 14, 15, 16, 17, 18, 19, 20, 21, 22, 23, 24, 25, 26, 27, 28, 29, 30, 31, 32, 33] [] [0, 1, 2, 3, 4, 5, 6, 7, 8, 9, 10, 11, 12, 13, 14, 15, 16, 17, 18, 19, 20, 21, 22, 23, 24, 25, 26, 27, 28, 29, 30, 31, 32, 33] rfl rfl rfl rfl rfl rfl rfl 7 0 rfl rfl rfl hl.1 (Nat.le_of_ble_eq_true rfl) dX10_hook_36 rfl (fun H locs hP hD hS => ?_)
    obtain rfl := Option.some.inj hF
    exact hret _ _ _ _ hP hD hS rfl dX10_hook_39
  unfold fX10_hook at hF
  refine lv_aload_n hx hb dX10_hook_0 rfl (lv_at hl 0 rfl) ?_
  refine lv_iload_n hx hb dX10_hook_1 rfl (lv_at hl 1 rfl) ?_
  obtain ⟨o_1, hc_1, hF⟩ := zb hF
  refine zcVR (rest := []) (kX10_isGuest l D ca t ad_M M_guests M_kind M_figure M_told M_heaps M_holds M_back M_mistakes M_hooks M_letters M_rule M_at M_well M_sort M_text M_row M_field M_fields M_begins M_ruleLetters M_coming M_comingMany M_going M_goingMany M_minute M_pile M_high M_where M_latest M_lifts M_begun M_left M_has M_lifted M_taken M_above M_allLifts M_busy M_longest M_onto M_worst M_best M_orders M_together M_ofOne M_ofOther M_seed M_then M_was M_kept M_held M_kindOn M_figureOn M_sorts M_size M_items M_moved M_thrown p1 fuel _ hc_1) ⟨hx, hb, hml, hown, hts⟩ (zcwV hts zm_63 zm_64 zm_65 zm_19 zm_62 rfl rfl zdv_X10_isGuest ⟨Nat.le_of_ble_eq_true rfl, Nat.le_of_ble_eq_true rfl⟩) hA hK hZ hP hD hS [0, 1, 2, 3, 4, 5, 6, 7, 8, 9, 10, 11, 12, 13, 14, 15, 16, 17, 18, 19, 20, 21, 22, 23, 24, 25, 26, 27, 28, 29, 30, 31, 32, 33] rfl rfl 7 0 rfl rfl rfl hl.1 (Nat.le_of_ble_eq_true rfl) dX10_hook_2 rfl ?_
  refine lv_if_ne (tgt := 10) hx hb dX10_hook_5 (by decide) (fun c_2 => ?_) (fun c_2 => ?_)
  · have hF := zf c_2 hF
    refine lv_aload_n hx hb dX10_hook_10 rfl (lv_at hl 0 rfl) ?_
    refine lv_iload_n hx hb dX10_hook_11 rfl (lv_at hl 1 rfl) ?_
    obtain ⟨o_3, hc_3, hF⟩ := zb hF
    refine zcVR (rest := []) (kX10_hangs l D ca t ad_M M_guests M_kind M_figure M_told M_heaps M_holds M_back M_mistakes M_hooks M_letters M_rule M_at M_well M_sort M_text M_row M_field M_fields M_begins M_ruleLetters M_coming M_comingMany M_going M_goingMany M_minute M_pile M_high M_where M_latest M_lifts M_begun M_left M_has M_lifted M_taken M_above M_allLifts M_busy M_longest M_onto M_worst M_best M_orders M_together M_ofOne M_ofOther M_seed M_then M_was M_kept M_held M_kindOn M_figureOn M_sorts M_size M_items M_moved M_thrown p1 fuel _ hc_3) ⟨hx, hb, hml, hown, hts⟩ (zcwV hts zm_67 zm_68 zm_69 zm_19 zm_66 rfl rfl zdv_X10_hangs ⟨Nat.le_of_ble_eq_true rfl, Nat.le_of_ble_eq_true rfl⟩) hA hK hZ hP hD hS [0, 1, 2, 3, 4, 5, 6, 7, 8, 9, 10, 11, 12, 13, 14, 15, 16, 17, 18, 19, 20, 21, 22, 23, 24, 25, 26, 27, 28, 29, 30, 31, 32, 33] rfl rfl 7 0 rfl rfl rfl hl.1 (Nat.le_of_ble_eq_true rfl) dX10_hook_12 rfl ?_
    refine lv_if_ne (tgt := 34) hx hb dX10_hook_15 (by decide) (fun c_4 => ?_) (fun c_4 => ?_)
    · have hF := zf c_4 hF
      exact j34 M_hooks _ _ hF hP hD hS ls (lv_sub hl [0, 1] rfl)
    · have hF := zt c_4 hF
      refine lv_aload_n hx hb dX10_hook_18 rfl (lv_at hl 0 rfl) ?_
      refine va_get (D := D) (ci := 7) (v := .int M_hooks) (C := RX10) (T := TX10) (N := 58) hx hb hts hin10 hown hK hP 0 rfl rfl 8 (by decide) (hts _ zm_30) (fun _ h9 => h9) rfl dX10_hook_19 ?_
      obtain ⟨o_5, hc_5, hF⟩ := zb hF
      refine zcSR (rest := []) (kX10_bits l D ca t M_hooks fuel _ hc_5) ⟨hx, hb, hml, hown, hts⟩ (zcwS hts zm_72 zm_71 zm_19 zm_70 rfl rfl zds_X10_bits ⟨Nat.le_of_ble_eq_true rfl, Nat.le_of_ble_eq_true rfl⟩) hA hK hZ hP hD hS [] rfl rfl rfl hl.1 (Nat.le_of_ble_eq_true rfl) dX10_hook_22 rfl ?_
      refine lv_iconst (v := 3) hx hb dX10_hook_25 (by decide) ?_
      refine lv_icmp_ne (tgt := 34) hx hb dX10_hook_26 (by decide) (fun c_6 => ?_) (fun c_6 => ?_)
      · have hF := zf c_6 hF
        exact j34 M_hooks _ _ hF hP hD hS ls (lv_sub hl [0, 1] rfl)
      · have hF := zt c_6 hF
        refine lv_bipush (v := (-2)) hx hb dX10_hook_29 (by decide) ?_
        refine lv_goto (tgt := 39) hx hb dX10_hook_31 (by decide) ?_
        obtain rfl := Option.some.inj hF
        exact hret _ _ _ _ hP hD hS rfl dX10_hook_39
  · have hF := zt c_2 hF
    refine lv_iconst (v := (-1)) hx hb dX10_hook_8 (by decide) ?_
    obtain rfl := Option.some.inj hF
    exact hret _ _ _ _ hP hD hS rfl dX10_hook_9
theorem zdv_X10_liftOf : yX10_liftOf.cls = RX10 ∧ yX10_liftOf.cls ≠ "java/lang/invoke/MethodHandle" ∧ yX10_liftOf.cls ≠ "java/lang/invoke/VarHandle" ∧ (parseMethodDescriptor yX10_liftOf.desc).map (fun d => d.parameters.length) = some 1 := by decide +kernel
abbrev roX10_count : Room := { frames := 2, cells := 0, slots := 0, locals := 42 }
set_option maxHeartbeats 4000000 in
set_option maxRecDepth 100000 in
theorem kX10_count (l : Launch) (D : va_G) (ca : Nat → ClassId) (t : Nat → Nat) (ad_M : Nat → Nat) (M_guests : Int32) (M_kind : Nat → Int32) (M_figure : Nat → Int32) (M_told : Nat → Int32) (M_heaps : Int32) (M_holds : Int32) (M_back : Int32) (M_mistakes : Int32) (M_hooks : Int32) (M_letters : Int32) (M_rule : Nat → Int32) (M_at : Int32) (M_well : Int32) (M_sort : Int32) (M_text : Int32) (M_row : Int32) (M_field : Nat → Int32) (M_fields : Int32) (M_begins : Nat → Int32) (M_ruleLetters : Nat → Int32) (M_coming : Nat → Int32) (M_comingMany : Int32) (M_going : Nat → Int32) (M_goingMany : Int32) (M_minute : Nat → Int32) (M_pile : Nat → Int32) (M_high : Nat → Int32) (M_where : Nat → Int32) (M_latest : Int32) (M_lifts : Nat → Int32) (M_begun : Nat → Int32) (M_left : Nat → Int32) (M_has : Nat → Int32) (M_lifted : Nat → Int32) (M_taken : Nat → Int32) (M_above : Nat → Int32) (M_allLifts : Int32) (M_busy : Int32) (M_longest : Nat → Int32) (M_onto : Nat → Int32) (M_worst : Int32) (M_best : Int32) (M_orders : Int32) (M_together : Int32) (M_ofOne : Nat → Int32) (M_ofOther : Nat → Int32) (M_seed : Int32) (M_then : Nat → Int32) (M_was : Nat → Int32) (M_kept : Int32) (M_held : Nat → Int32) (M_kindOn : Nat → Int32) (M_figureOn : Nat → Int32) (M_sorts : Nat → Int32) (M_size : Nat → Int32) (M_items : Nat → Int32) (M_moved : Nat → Int32) (M_thrown : Int32) (p1 : Int32) (fuel : Nat) (o : Int32) (hF : fX10_count fuel M_guests M_kind M_figure M_heaps M_holds M_back M_mistakes M_hooks M_letters p1 = some o) : zRi l D (zT ca) t yX10_count (.code yX10_count cX10_count 4 (some .int) :: zW) roX10_count [.ref (ad_M 0), .int p1] (wX10_M ca ad_M M_guests M_kind M_figure M_told M_heaps M_holds M_back M_mistakes M_hooks M_letters M_rule M_at M_well M_sort M_text M_row M_field M_fields M_begins M_ruleLetters M_coming M_comingMany M_going M_goingMany M_minute M_pile M_high M_where M_latest M_lifts M_begun M_left M_has M_lifted M_taken M_above M_allLifts M_busy M_longest M_onto M_worst M_best M_orders M_together M_ofOne M_ofOther M_seed M_then M_was M_kept M_held M_kindOn M_figureOn M_sorts M_size M_items M_moved M_thrown) o := by
  refine zRi_of (cc := cX10_count) (maxL := 4) (by decide) rfl (Nat.le_of_ble_eq_true rfl) ?_
  intro p e s m args below meth c A Q ls ⟨hx, hb, hml, hown, hts, hA, hK, hZ, hS⟩ hret hP hD hl
  have hts := fun w h => hts w (List.mem_cons_of_mem _ h)
  have hown : s.vm.findClass RX10 = some m.cls := hown
  have hl : lv_has ls 4 [(0, .ref (ad_M 0)), (1, .int p1)] := hl
  have hin10 := zin_X10
  have l87 : ∀ (n87 : Nat) (v2 : Int32) (v3 : Int32), fX10_count_L87 fuel M_guests M_kind M_figure n87 v2 v3 = some o → ∀ ls : Array Slot, lv_has ls 4 [(0, .ref (ad_M 0)), (2, .int v2), (3, .int v3)] → W p l e roX10_count s m args below meth c s.heap [] 0 0 Q (F0 m 87 ls []) := by
    intro n87
    induction n87 with
    | zero =>
      intro v2 v3 hF
      rw [fX10_count_L87] at hF
      cases hF
    | succ n87 ih87 =>
      intro v2 v3 hF ls hl
      rw [fX10_count_L87] at hF
      refine lv_iload_n hx hb dX10_count_87 rfl (lv_at hl 2 rfl) ?_
      refine lv_aload_n hx hb dX10_count_88 rfl (lv_at hl 0 rfl) ?_
      refine va_get (D := D) (ci := 7) (v := .int M_guests) (C := RX10) (T := TX10) (N := 58) hx hb hts hin10 hown hK hP 0 rfl rfl 0 (by decide) (hts _ zm_16) (fun _ h9 => h9) rfl dX10_count_89 ?_
      refine lv_icmp_ge (tgt := 109) hx hb dX10_count_92 (by decide) (fun c_9 => ?_) (fun c_9 => ?_)
      · have hF := zt c_9 hF
        refine lv_iload_n hx hb dX10_count_109 rfl (lv_at hl 1 rfl) ?_
        obtain rfl := Option.some.inj hF
        exact hret _ _ rfl dX10_count_110
      · have hF := zf c_9 hF
        refine lv_iload_n hx hb dX10_count_95 rfl (lv_at hl 1 rfl) ?_
        refine lv_aload_n hx hb dX10_count_96 rfl (lv_at hl 0 rfl) ?_
        refine lv_iload_n hx hb dX10_count_97 rfl (lv_at hl 2 rfl) ?_
        obtain ⟨o_10, hc_10, hF⟩ := zb hF
        refine zcVR (rest := [.int v2]) (kX10_liftOf l D ca t ad_M M_guests M_kind M_figure M_told M_heaps M_holds M_back M_mistakes M_hooks M_letters M_rule M_at M_well M_sort M_text M_row M_field M_fields M_begins M_ruleLetters M_coming M_comingMany M_going M_goingMany M_minute M_pile M_high M_where M_latest M_lifts M_begun M_left M_has M_lifted M_taken M_above M_allLifts M_busy M_longest M_onto M_worst M_best M_orders M_together M_ofOne M_ofOther M_seed M_then M_was M_kept M_held M_kindOn M_figureOn M_sorts M_size M_items M_moved M_thrown v3 fuel _ hc_10) ⟨hx, hb, hml, hown, hts⟩ (zcwV hts zm_80 zm_81 zm_82 zm_19 zm_79 rfl rfl zdv_X10_liftOf ⟨Nat.le_of_ble_eq_true rfl, Nat.le_of_ble_eq_true rfl⟩) hA hK hZ hP hD hS [0, 1, 2, 3, 4, 5, 6, 7, 8, 9, 10, 11, 12, 13, 14, 15, 16, 17, 18, 19, 20, 21, 22, 23, 24, 25, 26, 27, 28, 29, 30, 31, 32, 33] rfl rfl 7 0 rfl rfl rfl hl.1 (Nat.le_of_ble_eq_true rfl) dX10_count_98 rfl ?_
        refine lv_iadd hx hb dX10_count_101 ?_
        refine z_let hF (fun v2_11 hF => ?_)
        refine lv_istore_n (lv' := [(2, .int v2_11), (0, .ref (ad_M 0)), (3, .int v3)]) hx hb dX10_count_102 rfl hl (by decide) rfl (fun ls hl => ?_)
        refine z_iinc (kv := 1) hx hb 2 dX10_count_103 hl rfl (by decide) (by decide) (fun g => [(3, .int g), (2, .int v2_11), (0, .ref (ad_M 0))]) (fun _ => rfl) hF (fun v3_12 ls hF hl => ?_)
        refine lv_goto (tgt := 87) hx hb dX10_count_106 (by decide) ?_
        exact ih87 v2_11 v3_12 hF ls (lv_sub hl [2, 1, 0] rfl)
  unfold fX10_count at hF
  refine lv_iload_n hx hb dX10_count_0 rfl (lv_at hl 1 rfl) ?_
  by_cases c_1 : p1 = 0
  · have hF := zt c_1 hF
    refine lv_tableIn (tgt := 48) (off := 47) hx hb dX10_count_1 (by rw [c_1]; decide) (by rw [c_1]; decide) (by rw [c_1]; rfl) (by decide) ?_
    refine lv_aload_n hx hb dX10_count_48 rfl (lv_at hl 0 rfl) ?_
    refine va_get (D := D) (ci := 7) (v := .int M_guests) (C := RX10) (T := TX10) (N := 58) hx hb hts hin10 hown hK hP 0 rfl rfl 0 (by decide) (hts _ zm_16) (fun _ h9 => h9) rfl dX10_count_49 ?_
    obtain rfl := Option.some.inj hF
    exact hret _ _ rfl dX10_count_52
  · have hF := zf c_1 hF
    by_cases c_2 : p1 = 1
    · have hF := zt c_2 hF
      refine lv_tableIn (tgt := 53) (off := 52) hx hb dX10_count_1 (by rw [c_2]; decide) (by rw [c_2]; decide) (by rw [c_2]; rfl) (by decide) ?_
      refine lv_aload_n hx hb dX10_count_53 rfl (lv_at hl 0 rfl) ?_
      refine va_get (D := D) (ci := 7) (v := .int M_heaps) (C := RX10) (T := TX10) (N := 58) hx hb hts hin10 hown hK hP 0 rfl rfl 4 (by decide) (hts _ zm_58) (fun _ h9 => h9) rfl dX10_count_54 ?_
      obtain rfl := Option.some.inj hF
      exact hret _ _ rfl dX10_count_57
    · have hF := zf c_2 hF
      by_cases c_3 : p1 = 2
      · have hF := zt c_3 hF
        refine lv_tableIn (tgt := 58) (off := 57) hx hb dX10_count_1 (by rw [c_3]; decide) (by rw [c_3]; decide) (by rw [c_3]; rfl) (by decide) ?_
        refine lv_aload_n hx hb dX10_count_58 rfl (lv_at hl 0 rfl) ?_
        refine va_get (D := D) (ci := 7) (v := .int M_holds) (C := RX10) (T := TX10) (N := 58) hx hb hts hin10 hown hK hP 0 rfl rfl 5 (by decide) (hts _ zm_59) (fun _ h9 => h9) rfl dX10_count_59 ?_
        obtain rfl := Option.some.inj hF
        exact hret _ _ rfl dX10_count_62
      · have hF := zf c_3 hF
        by_cases c_4 : p1 = 3
        · have hF := zt c_4 hF
          refine lv_tableIn (tgt := 63) (off := 62) hx hb dX10_count_1 (by rw [c_4]; decide) (by rw [c_4]; decide) (by rw [c_4]; rfl) (by decide) ?_
          refine lv_aload_n hx hb dX10_count_63 rfl (lv_at hl 0 rfl) ?_
          refine va_get (D := D) (ci := 7) (v := .int M_back) (C := RX10) (T := TX10) (N := 58) hx hb hts hin10 hown hK hP 0 rfl rfl 6 (by decide) (hts _ zm_60) (fun _ h9 => h9) rfl dX10_count_64 ?_
          obtain rfl := Option.some.inj hF
          exact hret _ _ rfl dX10_count_67
        · have hF := zf c_4 hF
          by_cases c_5 : p1 = 4
          · have hF := zt c_5 hF
            refine lv_tableIn (tgt := 68) (off := 67) hx hb dX10_count_1 (by rw [c_5]; decide) (by rw [c_5]; decide) (by rw [c_5]; rfl) (by decide) ?_
            refine lv_aload_n hx hb dX10_count_68 rfl (lv_at hl 0 rfl) ?_
            refine va_get (D := D) (ci := 7) (v := .int M_mistakes) (C := RX10) (T := TX10) (N := 58) hx hb hts hin10 hown hK hP 0 rfl rfl 7 (by decide) (hts _ zm_61) (fun _ h9 => h9) rfl dX10_count_69 ?_
            obtain rfl := Option.some.inj hF
            exact hret _ _ rfl dX10_count_72
          · have hF := zf c_5 hF
            by_cases c_6 : p1 = 5
            · have hF := zt c_6 hF
              refine lv_tableIn (tgt := 73) (off := 72) hx hb dX10_count_1 (by rw [c_6]; decide) (by rw [c_6]; decide) (by rw [c_6]; rfl) (by decide) ?_
              refine lv_aload_n hx hb dX10_count_73 rfl (lv_at hl 0 rfl) ?_
              refine va_get (D := D) (ci := 7) (v := .int M_hooks) (C := RX10) (T := TX10) (N := 58) hx hb hts hin10 hown hK hP 0 rfl rfl 8 (by decide) (hts _ zm_30) (fun _ h9 => h9) rfl dX10_count_74 ?_
              obtain rfl := Option.some.inj hF
              exact hret _ _ rfl dX10_count_77
            · have hF := zf c_6 hF
              by_cases c_7 : p1 = 6
              · have hF := zt c_7 hF
                refine lv_tableIn (tgt := 78) (off := 77) hx hb dX10_count_1 (by rw [c_7]; decide) (by rw [c_7]; decide) (by rw [c_7]; rfl) (by decide) ?_
                refine lv_aload_n hx hb dX10_count_78 rfl (lv_at hl 0 rfl) ?_
                refine va_get (D := D) (ci := 7) (v := .int M_letters) (C := RX10) (T := TX10) (N := 58) hx hb hts hin10 hown hK hP 0 rfl rfl 9 (by decide) (hts _ zm_73) (fun _ h9 => h9) rfl dX10_count_79 ?_
                obtain rfl := Option.some.inj hF
                exact hret _ _ rfl dX10_count_82
              · have hF := zf c_7 hF
                by_cases c_8 : p1 = 7
                · have hF := zt c_8 hF
                  refine lv_tableIn (tgt := 83) (off := 82) hx hb dX10_count_1 (by rw [c_8]; decide) (by rw [c_8]; decide) (by rw [c_8]; rfl) (by decide) ?_
                  refine lv_iconst (v := 0) hx hb dX10_count_83 (by decide) ?_
                  refine lv_istore_n (lv' := [(2, .int 0), (0, .ref (ad_M 0)), (1, .int p1)]) hx hb dX10_count_84 rfl hl (by decide) rfl (fun ls hl => ?_)
                  refine lv_iconst (v := 0) hx hb dX10_count_85 (by decide) ?_
                  refine lv_istore_n (lv' := [(3, .int 0), (2, .int 0), (0, .ref (ad_M 0)), (1, .int p1)]) hx hb dX10_count_86 rfl hl (by decide) rfl (fun ls hl => ?_)
                  exact l87 fuel 0 0 hF ls (lv_sub hl [2, 1, 0] rfl)
                · have hF := zf c_8 hF
                  refine lv_tableOut (tgt := 111) hx hb dX10_count_1 (ztab (lo := 0) (hi := 7) (fun k h1 h2 => by rcases (show k = 0 ∨ k = 1 ∨ k = 2 ∨ k = 3 ∨ k = 4 ∨ k = 5 ∨ k = 6 ∨ k = 7 by omega) with rfl | rfl | rfl | rfl | rfl | rfl | rfl | rfl <;> first | exact c_1 | exact c_2 | exact c_3 | exact c_4 | exact c_5 | exact c_6 | exact c_7 | exact c_8)) (by decide) ?_
                  refine lv_iconst (v := (-1)) hx hb dX10_count_111 (by decide) ?_
                  obtain rfl := Option.some.inj hF
                  exact hret _ _ rfl dX10_count_112
abbrev roX10_allCome : Room := { frames := 0, cells := 0, slots := 0, locals := 0 }
set_option maxHeartbeats 4000000 in
set_option maxRecDepth 100000 in
theorem kX10_allCome (l : Launch) (D : va_G) (ca : Nat → ClassId) (t : Nat → Nat) (ad_M : Nat → Nat) (M_guests : Int32) (M_kind : Nat → Int32) (M_figure : Nat → Int32) (M_told : Nat → Int32) (M_heaps : Int32) (M_holds : Int32) (M_back : Int32) (M_mistakes : Int32) (M_hooks : Int32) (M_letters : Int32) (M_rule : Nat → Int32) (M_at : Int32) (M_well : Int32) (M_sort : Int32) (M_text : Int32) (M_row : Int32) (M_field : Nat → Int32) (M_fields : Int32) (M_begins : Nat → Int32) (M_ruleLetters : Nat → Int32) (M_coming : Nat → Int32) (M_comingMany : Int32) (M_going : Nat → Int32) (M_goingMany : Int32) (M_minute : Nat → Int32) (M_pile : Nat → Int32) (M_high : Nat → Int32) (M_where : Nat → Int32) (M_latest : Int32) (M_lifts : Nat → Int32) (M_begun : Nat → Int32) (M_left : Nat → Int32) (M_has : Nat → Int32) (M_lifted : Nat → Int32) (M_taken : Nat → Int32) (M_above : Nat → Int32) (M_allLifts : Int32) (M_busy : Int32) (M_longest : Nat → Int32) (M_onto : Nat → Int32) (M_worst : Int32) (M_best : Int32) (M_orders : Int32) (M_together : Int32) (M_ofOne : Nat → Int32) (M_ofOther : Nat → Int32) (M_seed : Int32) (M_then : Nat → Int32) (M_was : Nat → Int32) (M_kept : Int32) (M_held : Nat → Int32) (M_kindOn : Nat → Int32) (M_figureOn : Nat → Int32) (M_sorts : Nat → Int32) (M_size : Nat → Int32) (M_items : Nat → Int32) (M_moved : Nat → Int32) (M_thrown : Int32) (p1 : Int32) (fuel : Nat) (o : (Nat → Int32) × Int32) (hF : fX10_allCome fuel M_guests M_coming M_comingMany p1 = some o) : zMv l D (zT ca) t yX10_allCome (.code yX10_allCome cX10_allCome 3 none :: zW) roX10_allCome [.ref (ad_M 0), .int p1] (wX10_M ca ad_M M_guests M_kind M_figure M_told M_heaps M_holds M_back M_mistakes M_hooks M_letters M_rule M_at M_well M_sort M_text M_row M_field M_fields M_begins M_ruleLetters M_coming M_comingMany M_going M_goingMany M_minute M_pile M_high M_where M_latest M_lifts M_begun M_left M_has M_lifted M_taken M_above M_allLifts M_busy M_longest M_onto M_worst M_best M_orders M_together M_ofOne M_ofOther M_seed M_then M_was M_kept M_held M_kindOn M_figureOn M_sorts M_size M_items M_moved M_thrown) (wX10_M ca ad_M M_guests M_kind M_figure M_told M_heaps M_holds M_back M_mistakes M_hooks M_letters M_rule M_at M_well M_sort M_text M_row M_field M_fields M_begins M_ruleLetters o.1 o.2 M_going M_goingMany M_minute M_pile M_high M_where M_latest M_lifts M_begun M_left M_has M_lifted M_taken M_above M_allLifts M_busy M_longest M_onto M_worst M_best M_orders M_together M_ofOne M_ofOther M_seed M_then M_was M_kept M_held M_kindOn M_figureOn M_sorts M_size M_items M_moved M_thrown) := by
  refine zMv_of (cc := cX10_allCome) (maxL := 3) (by decide) rfl (Nat.le_of_ble_eq_true rfl) ?_
  intro p e s m args below meth c A Q ls ⟨hx, hb, hml, hown, hts, hA, hK, hZ, hS⟩ hret hP hD hl
  have hts := fun w h => hts w (List.mem_cons_of_mem _ h)
  have hown : s.vm.findClass RX10 = some m.cls := hown
  have hl : lv_has ls 3 [(0, .ref (ad_M 0)), (1, .int p1)] := hl
  have hin10 := zin_X10
  have l7 : ∀ (n7 : Nat) (v2 : Int32) (M_coming : Nat → Int32) (M_comingMany : Int32) (H : Heap) (locs : List Loc), fX10_allCome_L7 M_guests p1 n7 v2 M_coming M_comingMany = some o → va_P D vwCl (wX10_M ca ad_M M_guests M_kind M_figure M_told M_heaps M_holds M_back M_mistakes M_hooks M_letters M_rule M_at M_well M_sort M_text M_row M_field M_fields M_begins M_ruleLetters M_coming M_comingMany M_going M_goingMany M_minute M_pile M_high M_where M_latest M_lifts M_begun M_left M_has M_lifted M_taken M_above M_allLifts M_busy M_longest M_onto M_worst M_best M_orders M_together M_ofOne M_ofOther M_seed M_then M_was M_kept M_held M_kindOn M_figureOn M_sorts M_size M_items M_moved M_thrown) H → va_D A (wX10_M ca ad_M M_guests M_kind M_figure M_told M_heaps M_holds M_back M_mistakes M_hooks M_letters M_rule M_at M_well M_sort M_text M_row M_field M_fields M_begins M_ruleLetters M_coming M_comingMany M_going M_goingMany M_minute M_pile M_high M_where M_latest M_lifts M_begun M_left M_has M_lifted M_taken M_above M_allLifts M_busy M_longest M_onto M_worst M_best M_orders M_together M_ofOne M_ofOther M_seed M_then M_was M_kept M_held M_kindOn M_figureOn M_sorts M_size M_items M_moved M_thrown) → va_S A s.heap H locs → ∀ ls : Array Slot, lv_has ls 3 [(0, .ref (ad_M 0)), (1, .int p1), (2, .int v2)] → W p l e roX10_allCome s m args below meth c H locs 0 0 Q (F0 m 7 ls []) := by
    intro n7
    induction n7 with
    | zero =>
      intro v2 M_coming M_comingMany H locs hF
      rw [fX10_allCome_L7] at hF
      cases hF
    | succ n7 ih7 =>
      have j40 : ∀ (v2 : Int32) (M_coming : Nat → Int32) (M_comingMany : Int32) (H : Heap) (locs : List Loc), fX10_allCome_J40 (fX10_allCome_L7 M_guests p1 n7) v2 M_coming M_comingMany = some o → va_P D vwCl (wX10_M ca ad_M M_guests M_kind M_figure M_told M_heaps M_holds M_back M_mistakes M_hooks M_letters M_rule M_at M_well M_sort M_text M_row M_field M_fields M_begins M_ruleLetters M_coming M_comingMany M_going M_goingMany M_minute M_pile M_high M_where M_latest M_lifts M_begun M_left M_has M_lifted M_taken M_above M_allLifts M_busy M_longest M_onto M_worst M_best M_orders M_together M_ofOne M_ofOther M_seed M_then M_was M_kept M_held M_kindOn M_figureOn M_sorts M_size M_items M_moved M_thrown) H → va_D A (wX10_M ca ad_M M_guests M_kind M_figure M_told M_heaps M_holds M_back M_mistakes M_hooks M_letters M_rule M_at M_well M_sort M_text M_row M_field M_fields M_begins M_ruleLetters M_coming M_comingMany M_going M_goingMany M_minute M_pile M_high M_where M_latest M_lifts M_begun M_left M_has M_lifted M_taken M_above M_allLifts M_busy M_longest M_onto M_worst M_best M_orders M_together M_ofOne M_ofOther M_seed M_then M_was M_kept M_held M_kindOn M_figureOn M_sorts M_size M_items M_moved M_thrown) → va_S A s.heap H locs → ∀ ls : Array Slot, lv_has ls 3 [(0, .ref (ad_M 0)), (1, .int p1), (2, .int v2)] → W p l e roX10_allCome s m args below meth c H locs 0 0 Q (F0 m 40 ls []) := by
        intro v2 M_coming M_comingMany H locs hF hP hD hS ls hl
        unfold fX10_allCome_J40 at hF
        refine z_iinc (kv := 1) hx hb 2 dX10_allCome_40 hl rfl (by decide) (by decide) (fun g => [(2, .int g), (0, .ref (ad_M 0)), (1, .int p1)]) (fun _ => rfl) hF (fun v2_6 ls hF hl => ?_)
        refine lv_goto (tgt := 7) hx hb dX10_allCome_43 (by decide) ?_
        exact ih7 v2_6 M_coming M_comingMany _ _ hF hP hD hS ls (lv_sub hl [1, 2, 0] rfl)
      intro v2 M_coming M_comingMany H locs hF hP hD hS ls hl
      rw [fX10_allCome_L7] at hF
      refine lv_iload_n hx hb dX10_allCome_7 rfl (lv_at hl 2 rfl) ?_
      refine lv_aload_n hx hb dX10_allCome_8 rfl (lv_at hl 0 rfl) ?_
      refine va_get (D := D) (ci := 7) (v := .int M_guests) (C := RX10) (T := TX10) (N := 58) hx hb hts hin10 hown hK hP 0 rfl rfl 0 (by decide) (hts _ zm_16) (fun _ h9 => h9) rfl dX10_allCome_9 ?_
      refine lv_icmp_ge (tgt := 46) hx hb dX10_allCome_12 (by decide) (fun c_1 => ?_) (fun c_1 => ?_)
      · have hF := zt c_1 hF
        obtain rfl := Option.some.inj hF
        exact hret _ _ _ _ hP hD hS dX10_allCome_46
      · have hF := zf c_1 hF
        refine lv_iload_n hx hb dX10_allCome_15 rfl (lv_at hl 2 rfl) ?_
        refine lv_iload_n hx hb dX10_allCome_16 rfl (lv_at hl 1 rfl) ?_
        refine lv_icmp_eq (tgt := 40) hx hb dX10_allCome_17 (by decide) (fun c_2 => ?_) (fun c_2 => ?_)
        · have hF := zt c_2 hF
          exact j40 v2 M_coming M_comingMany _ _ hF hP hD hS ls (lv_sub hl [0, 1, 2] rfl)
        · have hF := zf c_2 hF
          refine lv_aload_n hx hb dX10_allCome_20 rfl (lv_at hl 0 rfl) ?_
          refine va_get (D := D) (ci := 7) (v := .ref (ad_M 8)) (C := RX10) (T := TX10) (N := 58) hx hb hts hin10 hown hK hP 0 rfl rfl 20 (by decide) (hts _ zm_84) (fun _ h9 => h9) rfl dX10_allCome_21 ?_
          refine lv_aload_n hx hb dX10_allCome_24 rfl (lv_at hl 0 rfl) ?_
          refine va_get (D := D) (ci := 7) (v := .int M_comingMany) (C := RX10) (T := TX10) (N := 58) hx hb hts hin10 hown hK hP 0 rfl rfl 21 (by decide) (hts _ zm_83) (fun _ h9 => h9) rfl dX10_allCome_25 ?_
          refine lv_iload_n hx hb dX10_allCome_28 rfl (lv_at hl 2 rfl) ?_
          obtain ⟨h_3, hF⟩ := zgi hF
          refine z_iast hx hb hK hP hD hS 8 0 rfl rfl h_3 dX10_allCome_29 (fun g => (wX10_M ca ad_M M_guests M_kind M_figure M_told M_heaps M_holds M_back M_mistakes M_hooks M_letters M_rule M_at M_well M_sort M_text M_row M_field M_fields M_begins M_ruleLetters g M_comingMany M_going M_goingMany M_minute M_pile M_high M_where M_latest M_lifts M_begun M_left M_has M_lifted M_taken M_above M_allLifts M_busy M_longest M_onto M_worst M_best M_orders M_together M_ofOne M_ofOther M_seed M_then M_was M_kept M_held M_kindOn M_figureOn M_sorts M_size M_items M_moved M_thrown)) (fun _ => rfl) hF (fun M_coming_4 H locs hF hP hD hS => ?_)
          refine lv_aload_n hx hb dX10_allCome_30 rfl (lv_at hl 0 rfl) ?_
          refine lv_dup hx hb dX10_allCome_31 rfl ?_
          refine va_get (D := D) (ci := 7) (v := .int M_comingMany) (C := RX10) (T := TX10) (N := 58) hx hb hts hin10 hown hK hP 0 rfl rfl 21 (by decide) (hts _ zm_83) (fun _ h9 => h9) rfl dX10_allCome_32 ?_
          refine lv_iconst (v := 1) hx hb dX10_allCome_35 (by decide) ?_
          refine lv_iadd hx hb dX10_allCome_36 ?_
          refine z_let hF (fun comingMany_5 hF => ?_)
          refine va_put (D := D) (ci := 7) (v := .int comingMany_5) (C := RX10) (T := TX10) (N := 58) hx hb hts hin10 tyX10 tyX10_ok nmX10 hown hK hP hD hS 0 rfl rfl 21 (by decide) (hts _ zm_83) (fun _ h9 => h9) rfl (tyX10_ok 21 (by decide)) rfl rfl (Nat.le_of_ble_eq_true rfl) dX10_allCome_37 (fun H locs hP hD hS => ?_)
          have hP : va_P D vwCl (wX10_M ca ad_M M_guests M_kind M_figure M_told M_heaps M_holds M_back M_mistakes M_hooks M_letters M_rule M_at M_well M_sort M_text M_row M_field M_fields M_begins M_ruleLetters M_coming_4 comingMany_5 M_going M_goingMany M_minute M_pile M_high M_where M_latest M_lifts M_begun M_left M_has M_lifted M_taken M_above M_allLifts M_busy M_longest M_onto M_worst M_best M_orders M_together M_ofOne M_ofOther M_seed M_then M_was M_kept M_held M_kindOn M_figureOn M_sorts M_size M_items M_moved M_thrown) H := hP
          have hD : va_D A (wX10_M ca ad_M M_guests M_kind M_figure M_told M_heaps M_holds M_back M_mistakes M_hooks M_letters M_rule M_at M_well M_sort M_text M_row M_field M_fields M_begins M_ruleLetters M_coming_4 comingMany_5 M_going M_goingMany M_minute M_pile M_high M_where M_latest M_lifts M_begun M_left M_has M_lifted M_taken M_above M_allLifts M_busy M_longest M_onto M_worst M_best M_orders M_together M_ofOne M_ofOther M_seed M_then M_was M_kept M_held M_kindOn M_figureOn M_sorts M_size M_items M_moved M_thrown) := hD
          exact j40 v2 M_coming_4 comingMany_5 _ _ hF hP hD hS ls (lv_sub hl [0, 1, 2] rfl)
  unfold fX10_allCome at hF
  refine lv_aload_n hx hb dX10_allCome_0 rfl (lv_at hl 0 rfl) ?_
  refine lv_iconst (v := 0) hx hb dX10_allCome_1 (by decide) ?_
  refine va_put (D := D) (ci := 7) (v := .int 0) (C := RX10) (T := TX10) (N := 58) hx hb hts hin10 tyX10 tyX10_ok nmX10 hown hK hP hD hS 0 rfl rfl 21 (by decide) (hts _ zm_83) (fun _ h9 => h9) rfl (tyX10_ok 21 (by decide)) rfl rfl (Nat.le_of_ble_eq_true rfl) dX10_allCome_2 (fun H locs hP hD hS => ?_)
  have hP : va_P D vwCl (wX10_M ca ad_M M_guests M_kind M_figure M_told M_heaps M_holds M_back M_mistakes M_hooks M_letters M_rule M_at M_well M_sort M_text M_row M_field M_fields M_begins M_ruleLetters M_coming 0 M_going M_goingMany M_minute M_pile M_high M_where M_latest M_lifts M_begun M_left M_has M_lifted M_taken M_above M_allLifts M_busy M_longest M_onto M_worst M_best M_orders M_together M_ofOne M_ofOther M_seed M_then M_was M_kept M_held M_kindOn M_figureOn M_sorts M_size M_items M_moved M_thrown) H := hP
  have hD : va_D A (wX10_M ca ad_M M_guests M_kind M_figure M_told M_heaps M_holds M_back M_mistakes M_hooks M_letters M_rule M_at M_well M_sort M_text M_row M_field M_fields M_begins M_ruleLetters M_coming 0 M_going M_goingMany M_minute M_pile M_high M_where M_latest M_lifts M_begun M_left M_has M_lifted M_taken M_above M_allLifts M_busy M_longest M_onto M_worst M_best M_orders M_together M_ofOne M_ofOther M_seed M_then M_was M_kept M_held M_kindOn M_figureOn M_sorts M_size M_items M_moved M_thrown) := hD
  refine lv_iconst (v := 0) hx hb dX10_allCome_5 (by decide) ?_
  refine lv_istore_n (lv' := [(2, .int 0), (0, .ref (ad_M 0)), (1, .int p1)]) hx hb dX10_allCome_6 rfl hl (by decide) rfl (fun ls hl => ?_)
  exact l7 fuel 0 M_coming 0 _ _ hF hP hD hS ls (lv_sub hl [1, 2, 0] rfl)
abbrev roX10_goesAhead : Room := { frames := 0, cells := 0, slots := 0, locals := 0 }
set_option maxHeartbeats 4000000 in
set_option maxRecDepth 100000 in
theorem kX10_goesAhead (l : Launch) (D : va_G) (ca : Nat → ClassId) (t : Nat → Nat) (ad_M : Nat → Nat) (M_guests : Int32) (M_kind : Nat → Int32) (M_figure : Nat → Int32) (M_told : Nat → Int32) (M_heaps : Int32) (M_holds : Int32) (M_back : Int32) (M_mistakes : Int32) (M_hooks : Int32) (M_letters : Int32) (M_rule : Nat → Int32) (M_at : Int32) (M_well : Int32) (M_sort : Int32) (M_text : Int32) (M_row : Int32) (M_field : Nat → Int32) (M_fields : Int32) (M_begins : Nat → Int32) (M_ruleLetters : Nat → Int32) (M_coming : Nat → Int32) (M_comingMany : Int32) (M_going : Nat → Int32) (M_goingMany : Int32) (M_minute : Nat → Int32) (M_pile : Nat → Int32) (M_high : Nat → Int32) (M_where : Nat → Int32) (M_latest : Int32) (M_lifts : Nat → Int32) (M_begun : Nat → Int32) (M_left : Nat → Int32) (M_has : Nat → Int32) (M_lifted : Nat → Int32) (M_taken : Nat → Int32) (M_above : Nat → Int32) (M_allLifts : Int32) (M_busy : Int32) (M_longest : Nat → Int32) (M_onto : Nat → Int32) (M_worst : Int32) (M_best : Int32) (M_orders : Int32) (M_together : Int32) (M_ofOne : Nat → Int32) (M_ofOther : Nat → Int32) (M_seed : Int32) (M_then : Nat → Int32) (M_was : Nat → Int32) (M_kept : Int32) (M_held : Nat → Int32) (M_kindOn : Nat → Int32) (M_figureOn : Nat → Int32) (M_sorts : Nat → Int32) (M_size : Nat → Int32) (M_items : Nat → Int32) (M_moved : Nat → Int32) (M_thrown : Int32) (p1 : Int32) (p2 : Int32) (fuel : Nat) (o : Int32) (hF : fX10_goesAhead fuel M_minute p1 p2 = some o) : zRi l D (zT ca) t yX10_goesAhead (.code yX10_goesAhead cX10_goesAhead 3 (some .boolean) :: zW) roX10_goesAhead [.ref (ad_M 0), .int p1, .int p2] (wX10_M ca ad_M M_guests M_kind M_figure M_told M_heaps M_holds M_back M_mistakes M_hooks M_letters M_rule M_at M_well M_sort M_text M_row M_field M_fields M_begins M_ruleLetters M_coming M_comingMany M_going M_goingMany M_minute M_pile M_high M_where M_latest M_lifts M_begun M_left M_has M_lifted M_taken M_above M_allLifts M_busy M_longest M_onto M_worst M_best M_orders M_together M_ofOne M_ofOther M_seed M_then M_was M_kept M_held M_kindOn M_figureOn M_sorts M_size M_items M_moved M_thrown) o := by
  refine zRi_of (cc := cX10_goesAhead) (maxL := 3) (by decide) rfl (Nat.le_of_ble_eq_true rfl) ?_
  intro p e s m args below meth c A Q ls ⟨hx, hb, hml, hown, hts, hA, hK, hZ, hS⟩ hret hP hD hl
  have hts := fun w h => hts w (List.mem_cons_of_mem _ h)
  have hown : s.vm.findClass RX10 = some m.cls := hown
  have hl : lv_has ls 3 [(0, .ref (ad_M 0)), (1, .int p1), (2, .int p2)] := hl
  have hin10 := zin_X10
  unfold fX10_goesAhead at hF
  refine lv_aload_n hx hb dX10_goesAhead_0 rfl (lv_at hl 0 rfl) ?_
  refine va_get (D := D) (ci := 7) (v := .ref (ad_M 10)) (C := RX10) (T := TX10) (N := 58) hx hb hts hin10 hown hK hP 0 rfl rfl 24 (by decide) (hts _ zm_85) (fun _ h9 => h9) rfl dX10_goesAhead_1 ?_
  refine lv_iload_n hx hb dX10_goesAhead_4 rfl (lv_at hl 1 rfl) ?_
  obtain ⟨h_1, hF⟩ := zgi hF
  refine va_iald hx hb hK hP 10 0 rfl rfl h_1 dX10_goesAhead_5 ?_
  refine lv_aload_n hx hb dX10_goesAhead_6 rfl (lv_at hl 0 rfl) ?_
  refine va_get (D := D) (ci := 7) (v := .ref (ad_M 10)) (C := RX10) (T := TX10) (N := 58) hx hb hts hin10 hown hK hP 0 rfl rfl 24 (by decide) (hts _ zm_85) (fun _ h9 => h9) rfl dX10_goesAhead_7 ?_
  refine lv_iload_n hx hb dX10_goesAhead_10 rfl (lv_at hl 2 rfl) ?_
  obtain ⟨h_2, hF⟩ := zgi hF
  refine va_iald hx hb hK hP 10 0 rfl rfl h_2 dX10_goesAhead_11 ?_
  refine lv_icmp_lt (tgt := 35) hx hb dX10_goesAhead_12 (by decide) (fun c_3 => ?_) (fun c_3 => ?_)
  · have hF := zt c_3 hF
    refine lv_iconst (v := 1) hx hb dX10_goesAhead_35 (by decide) ?_
    refine lv_goto (tgt := 40) hx hb dX10_goesAhead_36 (by decide) ?_
    obtain rfl := Option.some.inj hF
    exact hret _ _ (zbool (Or.inr rfl)) dX10_goesAhead_40
  · have hF := zf c_3 hF
    refine lv_aload_n hx hb dX10_goesAhead_15 rfl (lv_at hl 0 rfl) ?_
    refine va_get (D := D) (ci := 7) (v := .ref (ad_M 10)) (C := RX10) (T := TX10) (N := 58) hx hb hts hin10 hown hK hP 0 rfl rfl 24 (by decide) (hts _ zm_85) (fun _ h9 => h9) rfl dX10_goesAhead_16 ?_
    refine lv_iload_n hx hb dX10_goesAhead_19 rfl (lv_at hl 1 rfl) ?_
    refine va_iald hx hb hK hP 10 0 rfl rfl h_1 dX10_goesAhead_20 ?_
    refine lv_aload_n hx hb dX10_goesAhead_21 rfl (lv_at hl 0 rfl) ?_
    refine va_get (D := D) (ci := 7) (v := .ref (ad_M 10)) (C := RX10) (T := TX10) (N := 58) hx hb hts hin10 hown hK hP 0 rfl rfl 24 (by decide) (hts _ zm_85) (fun _ h9 => h9) rfl dX10_goesAhead_22 ?_
    refine lv_iload_n hx hb dX10_goesAhead_25 rfl (lv_at hl 2 rfl) ?_
    refine va_iald hx hb hK hP 10 0 rfl rfl h_2 dX10_goesAhead_26 ?_
    refine lv_icmp_ne (tgt := 39) hx hb dX10_goesAhead_27 (by decide) (fun c_4 => ?_) (fun c_4 => ?_)
    · have hF := zf c_4 hF
      refine lv_iconst (v := 0) hx hb dX10_goesAhead_39 (by decide) ?_
      obtain rfl := Option.some.inj hF
      exact hret _ _ (zbool (Or.inl rfl)) dX10_goesAhead_40
    · have hF := zt c_4 hF
      refine lv_iload_n hx hb dX10_goesAhead_30 rfl (lv_at hl 1 rfl) ?_
      refine lv_iload_n hx hb dX10_goesAhead_31 rfl (lv_at hl 2 rfl) ?_
      refine lv_icmp_ge (tgt := 39) hx hb dX10_goesAhead_32 (by decide) (fun c_5 => ?_) (fun c_5 => ?_)
      · have hF := zt c_5 hF
        refine lv_iconst (v := 0) hx hb dX10_goesAhead_39 (by decide) ?_
        obtain rfl := Option.some.inj hF
        exact hret _ _ (zbool (Or.inl rfl)) dX10_goesAhead_40
      · have hF := zf c_5 hF
        refine lv_iconst (v := 1) hx hb dX10_goesAhead_35 (by decide) ?_
        refine lv_goto (tgt := 40) hx hb dX10_goesAhead_36 (by decide) ?_
        obtain rfl := Option.some.inj hF
        exact hret _ _ (zbool (Or.inr rfl)) dX10_goesAhead_40
theorem zdv_X10_goesAhead : yX10_goesAhead.cls = RX10 ∧ yX10_goesAhead.cls ≠ "java/lang/invoke/MethodHandle" ∧ yX10_goesAhead.cls ≠ "java/lang/invoke/VarHandle" ∧ (parseMethodDescriptor yX10_goesAhead.desc).map (fun d => d.parameters.length) = some 2 := by decide +kernel
abbrev roX10_allGo : Room := { frames := 1, cells := 0, slots := 0, locals := 22 }
set_option maxHeartbeats 4000000 in
set_option maxRecDepth 100000 in
theorem kX10_allGo (l : Launch) (D : va_G) (ca : Nat → ClassId) (t : Nat → Nat) (ad_M : Nat → Nat) (M_guests : Int32) (M_kind : Nat → Int32) (M_figure : Nat → Int32) (M_told : Nat → Int32) (M_heaps : Int32) (M_holds : Int32) (M_back : Int32) (M_mistakes : Int32) (M_hooks : Int32) (M_letters : Int32) (M_rule : Nat → Int32) (M_at : Int32) (M_well : Int32) (M_sort : Int32) (M_text : Int32) (M_row : Int32) (M_field : Nat → Int32) (M_fields : Int32) (M_begins : Nat → Int32) (M_ruleLetters : Nat → Int32) (M_coming : Nat → Int32) (M_comingMany : Int32) (M_going : Nat → Int32) (M_goingMany : Int32) (M_minute : Nat → Int32) (M_pile : Nat → Int32) (M_high : Nat → Int32) (M_where : Nat → Int32) (M_latest : Int32) (M_lifts : Nat → Int32) (M_begun : Nat → Int32) (M_left : Nat → Int32) (M_has : Nat → Int32) (M_lifted : Nat → Int32) (M_taken : Nat → Int32) (M_above : Nat → Int32) (M_allLifts : Int32) (M_busy : Int32) (M_longest : Nat → Int32) (M_onto : Nat → Int32) (M_worst : Int32) (M_best : Int32) (M_orders : Int32) (M_together : Int32) (M_ofOne : Nat → Int32) (M_ofOther : Nat → Int32) (M_seed : Int32) (M_then : Nat → Int32) (M_was : Nat → Int32) (M_kept : Int32) (M_held : Nat → Int32) (M_kindOn : Nat → Int32) (M_figureOn : Nat → Int32) (M_sorts : Nat → Int32) (M_size : Nat → Int32) (M_items : Nat → Int32) (M_moved : Nat → Int32) (M_thrown : Int32) (fuel : Nat) (o : (Nat → Int32) × Int32) (hF : fX10_allGo fuel M_coming M_comingMany M_going M_goingMany M_minute = some o) : zMv l D (zT ca) t yX10_allGo (.code yX10_allGo cX10_allGo 4 none :: zW) roX10_allGo [.ref (ad_M 0)] (wX10_M ca ad_M M_guests M_kind M_figure M_told M_heaps M_holds M_back M_mistakes M_hooks M_letters M_rule M_at M_well M_sort M_text M_row M_field M_fields M_begins M_ruleLetters M_coming M_comingMany M_going M_goingMany M_minute M_pile M_high M_where M_latest M_lifts M_begun M_left M_has M_lifted M_taken M_above M_allLifts M_busy M_longest M_onto M_worst M_best M_orders M_together M_ofOne M_ofOther M_seed M_then M_was M_kept M_held M_kindOn M_figureOn M_sorts M_size M_items M_moved M_thrown) (wX10_M ca ad_M M_guests M_kind M_figure M_told M_heaps M_holds M_back M_mistakes M_hooks M_letters M_rule M_at M_well M_sort M_text M_row M_field M_fields M_begins M_ruleLetters M_coming M_comingMany o.1 o.2 M_minute M_pile M_high M_where M_latest M_lifts M_begun M_left M_has M_lifted M_taken M_above M_allLifts M_busy M_longest M_onto M_worst M_best M_orders M_together M_ofOne M_ofOther M_seed M_then M_was M_kept M_held M_kindOn M_figureOn M_sorts M_size M_items M_moved M_thrown) := by
  refine zMv_of (cc := cX10_allGo) (maxL := 4) (by decide) rfl (Nat.le_of_ble_eq_true rfl) ?_
  intro p e s m args below meth c A Q ls ⟨hx, hb, hml, hown, hts, hA, hK, hZ, hS⟩ hret hP hD hl
  have hts := fun w h => hts w (List.mem_cons_of_mem _ h)
  have hown : s.vm.findClass RX10 = some m.cls := hown
  have hl : lv_has ls 4 [(0, .ref (ad_M 0))] := hl
  have hin10 := zin_X10
  have l7 : ∀ (n7 : Nat) (v1 : Int32) (M_going : Nat → Int32) (M_goingMany : Int32) (H : Heap) (locs : List Loc), fX10_allGo_L7 fuel M_coming M_comingMany M_minute n7 v1 M_going M_goingMany = some o → va_P D vwCl (wX10_M ca ad_M M_guests M_kind M_figure M_told M_heaps M_holds M_back M_mistakes M_hooks M_letters M_rule M_at M_well M_sort M_text M_row M_field M_fields M_begins M_ruleLetters M_coming M_comingMany M_going M_goingMany M_minute M_pile M_high M_where M_latest M_lifts M_begun M_left M_has M_lifted M_taken M_above M_allLifts M_busy M_longest M_onto M_worst M_best M_orders M_together M_ofOne M_ofOther M_seed M_then M_was M_kept M_held M_kindOn M_figureOn M_sorts M_size M_items M_moved M_thrown) H → va_D A (wX10_M ca ad_M M_guests M_kind M_figure M_told M_heaps M_holds M_back M_mistakes M_hooks M_letters M_rule M_at M_well M_sort M_text M_row M_field M_fields M_begins M_ruleLetters M_coming M_comingMany M_going M_goingMany M_minute M_pile M_high M_where M_latest M_lifts M_begun M_left M_has M_lifted M_taken M_above M_allLifts M_busy M_longest M_onto M_worst M_best M_orders M_together M_ofOne M_ofOther M_seed M_then M_was M_kept M_held M_kindOn M_figureOn M_sorts M_size M_items M_moved M_thrown) → va_S A s.heap H locs → ∀ ls : Array Slot, lv_has ls 4 [(0, .ref (ad_M 0)), (1, .int v1)] → W p l e roX10_allGo s m args below meth c H locs 0 0 Q (F0 m 7 ls []) := by
    intro n7
    induction n7 with
    | zero =>
      intro v1 M_going M_goingMany H locs hF
      rw [fX10_allGo_L7] at hF
      cases hF
    | succ n7 ih7 =>
      have j67 : ∀ (v1 : Int32) (v2 : Int32) (v3 : Int32) (M_going : Nat → Int32) (M_goingMany : Int32) (H : Heap) (locs : List Loc), fX10_allGo_J67 (fX10_allGo_L7 fuel M_coming M_comingMany M_minute n7) v1 v2 v3 M_going M_goingMany = some o → va_P D vwCl (wX10_M ca ad_M M_guests M_kind M_figure M_told M_heaps M_holds M_back M_mistakes M_hooks M_letters M_rule M_at M_well M_sort M_text M_row M_field M_fields M_begins M_ruleLetters M_coming M_comingMany M_going M_goingMany M_minute M_pile M_high M_where M_latest M_lifts M_begun M_left M_has M_lifted M_taken M_above M_allLifts M_busy M_longest M_onto M_worst M_best M_orders M_together M_ofOne M_ofOther M_seed M_then M_was M_kept M_held M_kindOn M_figureOn M_sorts M_size M_items M_moved M_thrown) H → va_D A (wX10_M ca ad_M M_guests M_kind M_figure M_told M_heaps M_holds M_back M_mistakes M_hooks M_letters M_rule M_at M_well M_sort M_text M_row M_field M_fields M_begins M_ruleLetters M_coming M_comingMany M_going M_goingMany M_minute M_pile M_high M_where M_latest M_lifts M_begun M_left M_has M_lifted M_taken M_above M_allLifts M_busy M_longest M_onto M_worst M_best M_orders M_together M_ofOne M_ofOther M_seed M_then M_was M_kept M_held M_kindOn M_figureOn M_sorts M_size M_items M_moved M_thrown) → va_S A s.heap H locs → ∀ ls : Array Slot, lv_has ls 4 [(0, .ref (ad_M 0)), (1, .int v1), (2, .int v2), (3, .int v3)] → W p l e roX10_allGo s m args below meth c H locs 0 0 Q (F0 m 67 ls []) := by
        intro v1 v2 v3 M_going M_goingMany H locs hF hP hD hS ls hl
        unfold fX10_allGo_J67 at hF
        refine lv_aload_n hx hb dX10_allGo_67 rfl (lv_at hl 0 rfl) ?_
        refine va_get (D := D) (ci := 7) (v := .ref (ad_M 9)) (C := RX10) (T := TX10) (N := 58) hx hb hts hin10 hown hK hP 0 rfl rfl 22 (by decide) (hts _ zm_87) (fun _ h9 => h9) rfl dX10_allGo_68 ?_
        refine lv_iload_n hx hb dX10_allGo_71 rfl (lv_at hl 3 rfl) ?_
        refine lv_iload_n hx hb dX10_allGo_72 rfl (lv_at hl 2 rfl) ?_
        obtain ⟨h_11, hF⟩ := zgi hF
        refine z_iast hx hb hK hP hD hS 9 0 rfl rfl h_11 dX10_allGo_73 (fun g => (wX10_M ca ad_M M_guests M_kind M_figure M_told M_heaps M_holds M_back M_mistakes M_hooks M_letters M_rule M_at M_well M_sort M_text M_row M_field M_fields M_begins M_ruleLetters M_coming M_comingMany g M_goingMany M_minute M_pile M_high M_where M_latest M_lifts M_begun M_left M_has M_lifted M_taken M_above M_allLifts M_busy M_longest M_onto M_worst M_best M_orders M_together M_ofOne M_ofOther M_seed M_then M_was M_kept M_held M_kindOn M_figureOn M_sorts M_size M_items M_moved M_thrown)) (fun _ => rfl) hF (fun M_going_12 H locs hF hP hD hS => ?_)
        refine lv_aload_n hx hb dX10_allGo_74 rfl (lv_at hl 0 rfl) ?_
        refine lv_dup hx hb dX10_allGo_75 rfl ?_
        refine va_get (D := D) (ci := 7) (v := .int M_goingMany) (C := RX10) (T := TX10) (N := 58) hx hb hts hin10 hown hK hP 0 rfl rfl 23 (by decide) (hts _ zm_86) (fun _ h9 => h9) rfl dX10_allGo_76 ?_
        refine lv_iconst (v := 1) hx hb dX10_allGo_79 (by decide) ?_
        refine lv_iadd hx hb dX10_allGo_80 ?_
        refine z_let hF (fun goingMany_13 hF => ?_)
        refine va_put (D := D) (ci := 7) (v := .int goingMany_13) (C := RX10) (T := TX10) (N := 58) hx hb hts hin10 tyX10 tyX10_ok nmX10 hown hK hP hD hS 0 rfl rfl 23 (by decide) (hts _ zm_86) (fun _ h9 => h9) rfl (tyX10_ok 23 (by decide)) rfl rfl (Nat.le_of_ble_eq_true rfl) dX10_allGo_81 (fun H locs hP hD hS => ?_)
        have hP : va_P D vwCl (wX10_M ca ad_M M_guests M_kind M_figure M_told M_heaps M_holds M_back M_mistakes M_hooks M_letters M_rule M_at M_well M_sort M_text M_row M_field M_fields M_begins M_ruleLetters M_coming M_comingMany M_going_12 goingMany_13 M_minute M_pile M_high M_where M_latest M_lifts M_begun M_left M_has M_lifted M_taken M_above M_allLifts M_busy M_longest M_onto M_worst M_best M_orders M_together M_ofOne M_ofOther M_seed M_then M_was M_kept M_held M_kindOn M_figureOn M_sorts M_size M_items M_moved M_thrown) H := hP
        have hD : va_D A (wX10_M ca ad_M M_guests M_kind M_figure M_told M_heaps M_holds M_back M_mistakes M_hooks M_letters M_rule M_at M_well M_sort M_text M_row M_field M_fields M_begins M_ruleLetters M_coming M_comingMany M_going_12 goingMany_13 M_minute M_pile M_high M_where M_latest M_lifts M_begun M_left M_has M_lifted M_taken M_above M_allLifts M_busy M_longest M_onto M_worst M_best M_orders M_together M_ofOne M_ofOther M_seed M_then M_was M_kept M_held M_kindOn M_figureOn M_sorts M_size M_items M_moved M_thrown) := hD
        refine z_iinc (kv := 1) hx hb 1 dX10_allGo_84 hl rfl (by decide) (by decide) (fun g => [(1, .int g), (0, .ref (ad_M 0)), (2, .int v2), (3, .int v3)]) (fun _ => rfl) hF (fun v1_14 ls hF hl => ?_)
        refine lv_goto (tgt := 7) hx hb dX10_allGo_87 (by decide) ?_
        exact ih7 v1_14 M_going_12 goingMany_13 _ _ hF hP hD hS ls (lv_sub hl [1, 0] rfl)
      have l27 : ∀ (n27 : Nat) (v1 : Int32) (v2 : Int32) (v3 : Int32) (M_going : Nat → Int32) (M_goingMany : Int32) (H : Heap) (locs : List Loc), fX10_allGo_L27 fuel M_minute (fX10_allGo_L7 fuel M_coming M_comingMany M_minute n7) n27 v1 v2 v3 M_going M_goingMany = some o → va_P D vwCl (wX10_M ca ad_M M_guests M_kind M_figure M_told M_heaps M_holds M_back M_mistakes M_hooks M_letters M_rule M_at M_well M_sort M_text M_row M_field M_fields M_begins M_ruleLetters M_coming M_comingMany M_going M_goingMany M_minute M_pile M_high M_where M_latest M_lifts M_begun M_left M_has M_lifted M_taken M_above M_allLifts M_busy M_longest M_onto M_worst M_best M_orders M_together M_ofOne M_ofOther M_seed M_then M_was M_kept M_held M_kindOn M_figureOn M_sorts M_size M_items M_moved M_thrown) H → va_D A (wX10_M ca ad_M M_guests M_kind M_figure M_told M_heaps M_holds M_back M_mistakes M_hooks M_letters M_rule M_at M_well M_sort M_text M_row M_field M_fields M_begins M_ruleLetters M_coming M_comingMany M_going M_goingMany M_minute M_pile M_high M_where M_latest M_lifts M_begun M_left M_has M_lifted M_taken M_above M_allLifts M_busy M_longest M_onto M_worst M_best M_orders M_together M_ofOne M_ofOther M_seed M_then M_was M_kept M_held M_kindOn M_figureOn M_sorts M_size M_items M_moved M_thrown) → va_S A s.heap H locs → ∀ ls : Array Slot, lv_has ls 4 [(0, .ref (ad_M 0)), (1, .int v1), (2, .int v2), (3, .int v3)] → W p l e roX10_allGo s m args below meth c H locs 0 0 Q (F0 m 27 ls []) := by
        intro n27
        induction n27 with
        | zero =>
          intro v1 v2 v3 M_going M_goingMany H locs hF
          rw [fX10_allGo_L27] at hF
          cases hF
        | succ n27 ih27 =>
          intro v1 v2 v3 M_going M_goingMany H locs hF hP hD hS ls hl
          rw [fX10_allGo_L27] at hF
          refine lv_iload_n hx hb dX10_allGo_27 rfl (lv_at hl 3 rfl) ?_
          refine lv_if_le (tgt := 67) hx hb dX10_allGo_28 (by decide) (fun c_4 => ?_) (fun c_4 => ?_)
          · have hF := zt c_4 hF
            exact j67 v1 v2 v3 M_going M_goingMany _ _ hF hP hD hS ls (lv_sub hl [0, 1, 2, 3] rfl)
          · have hF := zf c_4 hF
            refine lv_aload_n hx hb dX10_allGo_31 rfl (lv_at hl 0 rfl) ?_
            refine lv_iload_n hx hb dX10_allGo_32 rfl (lv_at hl 2 rfl) ?_
            refine lv_aload_n hx hb dX10_allGo_33 rfl (lv_at hl 0 rfl) ?_
            refine va_get (D := D) (ci := 7) (v := .ref (ad_M 9)) (C := RX10) (T := TX10) (N := 58) hx hb hts hin10 hown hK hP 0 rfl rfl 22 (by decide) (hts _ zm_87) (fun _ h9 => h9) rfl dX10_allGo_34 ?_
            refine lv_iload_n hx hb dX10_allGo_37 rfl (lv_at hl 3 rfl) ?_
            refine lv_iconst (v := 1) hx hb dX10_allGo_38 (by decide) ?_
            refine lv_isub hx hb dX10_allGo_39 ?_
            obtain ⟨h_5, hF⟩ := zgi hF
            refine va_iald hx hb hK hP 9 0 rfl rfl h_5 dX10_allGo_40 ?_
            obtain ⟨o_6, hc_6, hF⟩ := zb hF
            refine zcVR (rest := []) (kX10_goesAhead l D ca t ad_M M_guests M_kind M_figure M_told M_heaps M_holds M_back M_mistakes M_hooks M_letters M_rule M_at M_well M_sort M_text M_row M_field M_fields M_begins M_ruleLetters M_coming M_comingMany M_going M_goingMany M_minute M_pile M_high M_where M_latest M_lifts M_begun M_left M_has M_lifted M_taken M_above M_allLifts M_busy M_longest M_onto M_worst M_best M_orders M_together M_ofOne M_ofOther M_seed M_then M_was M_kept M_held M_kindOn M_figureOn M_sorts M_size M_items M_moved M_thrown v2 ((M_going (v3 - 1).toNatClampNeg)) fuel _ hc_6) ⟨hx, hb, hml, hown, hts⟩ (zcwV hts zm_89 zm_90 zm_91 zm_19 zm_88 rfl rfl zdv_X10_goesAhead ⟨Nat.le_of_ble_eq_true rfl, Nat.le_of_ble_eq_true rfl⟩) hA hK hZ hP hD hS [0, 1, 2, 3, 4, 5, 6, 7, 8, 9, 10, 11, 12, 13, 14, 15, 16, 17, 18, 19, 20, 21, 22, 23, 24, 25, 26, 27, 28, 29, 30, 31, 32, 33] rfl rfl 7 0 rfl rfl rfl hl.1 (Nat.le_of_ble_eq_true rfl) dX10_allGo_41 rfl ?_
            refine lv_if_eq (tgt := 67) hx hb dX10_allGo_44 (by decide) (fun c_7 => ?_) (fun c_7 => ?_)
            · have hF := zt c_7 hF
              exact j67 v1 v2 v3 M_going M_goingMany _ _ hF hP hD hS ls (lv_sub hl [0, 1, 2, 3] rfl)
            · have hF := zf c_7 hF
              refine lv_aload_n hx hb dX10_allGo_47 rfl (lv_at hl 0 rfl) ?_
              refine va_get (D := D) (ci := 7) (v := .ref (ad_M 9)) (C := RX10) (T := TX10) (N := 58) hx hb hts hin10 hown hK hP 0 rfl rfl 22 (by decide) (hts _ zm_87) (fun _ h9 => h9) rfl dX10_allGo_48 ?_
              refine lv_iload_n hx hb dX10_allGo_51 rfl (lv_at hl 3 rfl) ?_
              refine lv_aload_n hx hb dX10_allGo_52 rfl (lv_at hl 0 rfl) ?_
              refine va_get (D := D) (ci := 7) (v := .ref (ad_M 9)) (C := RX10) (T := TX10) (N := 58) hx hb hts hin10 hown hK hP 0 rfl rfl 22 (by decide) (hts _ zm_87) (fun _ h9 => h9) rfl dX10_allGo_53 ?_
              refine lv_iload_n hx hb dX10_allGo_56 rfl (lv_at hl 3 rfl) ?_
              refine lv_iconst (v := 1) hx hb dX10_allGo_57 (by decide) ?_
              refine lv_isub hx hb dX10_allGo_58 ?_
              refine va_iald hx hb hK hP 9 0 rfl rfl h_5 dX10_allGo_59 ?_
              obtain ⟨h_8, hF⟩ := zgi hF
              refine z_iast hx hb hK hP hD hS 9 0 rfl rfl h_8 dX10_allGo_60 (fun g => (wX10_M ca ad_M M_guests M_kind M_figure M_told M_heaps M_holds M_back M_mistakes M_hooks M_letters M_rule M_at M_well M_sort M_text M_row M_field M_fields M_begins M_ruleLetters M_coming M_comingMany g M_goingMany M_minute M_pile M_high M_where M_latest M_lifts M_begun M_left M_has M_lifted M_taken M_above M_allLifts M_busy M_longest M_onto M_worst M_best M_orders M_together M_ofOne M_ofOther M_seed M_then M_was M_kept M_held M_kindOn M_figureOn M_sorts M_size M_items M_moved M_thrown)) (fun _ => rfl) hF (fun M_going_9 H locs hF hP hD hS => ?_)
              refine z_iinc (kv := (-1)) hx hb 3 dX10_allGo_61 hl rfl (by decide) (by decide) (fun g => [(3, .int g), (0, .ref (ad_M 0)), (1, .int v1), (2, .int v2)]) (fun _ => rfl) hF (fun v3_10 ls hF hl => ?_)
              refine lv_goto (tgt := 27) hx hb dX10_allGo_64 (by decide) ?_
              exact ih27 v1 v2 v3_10 M_going_9 M_goingMany _ _ hF hP hD hS ls (lv_sub hl [1, 2, 3, 0] rfl)
      intro v1 M_going M_goingMany H locs hF hP hD hS ls hl
      rw [fX10_allGo_L7] at hF
      refine lv_iload_n hx hb dX10_allGo_7 rfl (lv_at hl 1 rfl) ?_
      refine lv_aload_n hx hb dX10_allGo_8 rfl (lv_at hl 0 rfl) ?_
      refine va_get (D := D) (ci := 7) (v := .int M_comingMany) (C := RX10) (T := TX10) (N := 58) hx hb hts hin10 hown hK hP 0 rfl rfl 21 (by decide) (hts _ zm_83) (fun _ h9 => h9) rfl dX10_allGo_9 ?_
      refine lv_icmp_ge (tgt := 90) hx hb dX10_allGo_12 (by decide) (fun c_1 => ?_) (fun c_1 => ?_)
      · have hF := zt c_1 hF
        obtain rfl := Option.some.inj hF
        exact hret _ _ _ _ hP hD hS dX10_allGo_90
      · have hF := zf c_1 hF
        refine lv_aload_n hx hb dX10_allGo_15 rfl (lv_at hl 0 rfl) ?_
        refine va_get (D := D) (ci := 7) (v := .ref (ad_M 8)) (C := RX10) (T := TX10) (N := 58) hx hb hts hin10 hown hK hP 0 rfl rfl 20 (by decide) (hts _ zm_84) (fun _ h9 => h9) rfl dX10_allGo_16 ?_
        refine lv_iload_n hx hb dX10_allGo_19 rfl (lv_at hl 1 rfl) ?_
        obtain ⟨h_2, hF⟩ := zgi hF
        refine va_iald hx hb hK hP 8 0 rfl rfl h_2 dX10_allGo_20 ?_
        refine z_let hF (fun v2_3 hF => ?_)
        refine lv_istore_n (lv' := [(2, .int v2_3), (0, .ref (ad_M 0)), (1, .int v1)]) hx hb dX10_allGo_21 rfl hl (by decide) rfl (fun ls hl => ?_)
        refine lv_aload_n hx hb dX10_allGo_22 rfl (lv_at hl 1 rfl) ?_
        refine va_get (D := D) (ci := 7) (v := .int M_goingMany) (C := RX10) (T := TX10) (N := 58) hx hb hts hin10 hown hK hP 0 rfl rfl 23 (by decide) (hts _ zm_86) (fun _ h9 => h9) rfl dX10_allGo_23 ?_
        refine lv_istore_n (lv' := [(3, .int M_goingMany), (2, .int v2_3), (0, .ref (ad_M 0)), (1, .int v1)]) hx hb dX10_allGo_26 rfl hl (by decide) rfl (fun ls hl => ?_)
        exact l27 fuel v1 v2_3 M_goingMany M_going M_goingMany _ _ hF hP hD hS ls (lv_sub hl [2, 3, 1, 0] rfl)
  unfold fX10_allGo at hF
  refine lv_aload_n hx hb dX10_allGo_0 rfl (lv_at hl 0 rfl) ?_
  refine lv_iconst (v := 0) hx hb dX10_allGo_1 (by decide) ?_
  refine va_put (D := D) (ci := 7) (v := .int 0) (C := RX10) (T := TX10) (N := 58) hx hb hts hin10 tyX10 tyX10_ok nmX10 hown hK hP hD hS 0 rfl rfl 23 (by decide) (hts _ zm_86) (fun _ h9 => h9) rfl (tyX10_ok 23 (by decide)) rfl rfl (Nat.le_of_ble_eq_true rfl) dX10_allGo_2 (fun H locs hP hD hS => ?_)
  have hP : va_P D vwCl (wX10_M ca ad_M M_guests M_kind M_figure M_told M_heaps M_holds M_back M_mistakes M_hooks M_letters M_rule M_at M_well M_sort M_text M_row M_field M_fields M_begins M_ruleLetters M_coming M_comingMany M_going 0 M_minute M_pile M_high M_where M_latest M_lifts M_begun M_left M_has M_lifted M_taken M_above M_allLifts M_busy M_longest M_onto M_worst M_best M_orders M_together M_ofOne M_ofOther M_seed M_then M_was M_kept M_held M_kindOn M_figureOn M_sorts M_size M_items M_moved M_thrown) H := hP
  have hD : va_D A (wX10_M ca ad_M M_guests M_kind M_figure M_told M_heaps M_holds M_back M_mistakes M_hooks M_letters M_rule M_at M_well M_sort M_text M_row M_field M_fields M_begins M_ruleLetters M_coming M_comingMany M_going 0 M_minute M_pile M_high M_where M_latest M_lifts M_begun M_left M_has M_lifted M_taken M_above M_allLifts M_busy M_longest M_onto M_worst M_best M_orders M_together M_ofOne M_ofOther M_seed M_then M_was M_kept M_held M_kindOn M_figureOn M_sorts M_size M_items M_moved M_thrown) := hD
  refine lv_iconst (v := 0) hx hb dX10_allGo_5 (by decide) ?_
  refine lv_istore_n (lv' := [(1, .int 0), (0, .ref (ad_M 0))]) hx hb dX10_allGo_6 rfl hl (by decide) rfl (fun ls hl => ?_)
  exact l7 fuel 0 M_going 0 _ _ hF hP hD hS ls (lv_sub hl [1, 0] rfl)
theorem zds_X10_goesBy : yX10_goesBy.cls ≠ "java/lang/invoke/MethodHandle" ∧ yX10_goesBy.cls ≠ "java/lang/invoke/VarHandle" ∧ (parseMethodDescriptor yX10_goesBy.desc).map (fun d => d.parameters.length) = some 3 := by decide +kernel
abbrev roX10_minutesAsTold : Room := { frames := 2, cells := 0, slots := 0, locals := 46 }
set_option maxHeartbeats 4000000 in
set_option maxRecDepth 100000 in
theorem kX10_minutesAsTold (l : Launch) (D : va_G) (ca : Nat → ClassId) (t : Nat → Nat) (ad_M : Nat → Nat) (M_guests : Int32) (M_kind : Nat → Int32) (M_figure : Nat → Int32) (M_told : Nat → Int32) (M_heaps : Int32) (M_holds : Int32) (M_back : Int32) (M_mistakes : Int32) (M_hooks : Int32) (M_letters : Int32) (M_rule : Nat → Int32) (M_at : Int32) (M_well : Int32) (M_sort : Int32) (M_text : Int32) (M_row : Int32) (M_field : Nat → Int32) (M_fields : Int32) (M_begins : Nat → Int32) (M_ruleLetters : Nat → Int32) (M_coming : Nat → Int32) (M_comingMany : Int32) (M_going : Nat → Int32) (M_goingMany : Int32) (M_minute : Nat → Int32) (M_pile : Nat → Int32) (M_high : Nat → Int32) (M_where : Nat → Int32) (M_latest : Int32) (M_lifts : Nat → Int32) (M_begun : Nat → Int32) (M_left : Nat → Int32) (M_has : Nat → Int32) (M_lifted : Nat → Int32) (M_taken : Nat → Int32) (M_above : Nat → Int32) (M_allLifts : Int32) (M_busy : Int32) (M_longest : Nat → Int32) (M_onto : Nat → Int32) (M_worst : Int32) (M_best : Int32) (M_orders : Int32) (M_together : Int32) (M_ofOne : Nat → Int32) (M_ofOther : Nat → Int32) (M_seed : Int32) (M_then : Nat → Int32) (M_was : Nat → Int32) (M_kept : Int32) (M_held : Nat → Int32) (M_kindOn : Nat → Int32) (M_figureOn : Nat → Int32) (M_sorts : Nat → Int32) (M_size : Nat → Int32) (M_items : Nat → Int32) (M_moved : Nat → Int32) (M_thrown : Int32) (fuel : Nat) (o : (Nat → Int32)) (hF : fX10_minutesAsTold fuel M_guests M_kind M_figure M_told M_minute = some o) : zMv l D (zT ca) t yX10_minutesAsTold (.code yX10_minutesAsTold cX10_minutesAsTold 2 none :: zW) roX10_minutesAsTold [.ref (ad_M 0)] (wX10_M ca ad_M M_guests M_kind M_figure M_told M_heaps M_holds M_back M_mistakes M_hooks M_letters M_rule M_at M_well M_sort M_text M_row M_field M_fields M_begins M_ruleLetters M_coming M_comingMany M_going M_goingMany M_minute M_pile M_high M_where M_latest M_lifts M_begun M_left M_has M_lifted M_taken M_above M_allLifts M_busy M_longest M_onto M_worst M_best M_orders M_together M_ofOne M_ofOther M_seed M_then M_was M_kept M_held M_kindOn M_figureOn M_sorts M_size M_items M_moved M_thrown) (wX10_M ca ad_M M_guests M_kind M_figure M_told M_heaps M_holds M_back M_mistakes M_hooks M_letters M_rule M_at M_well M_sort M_text M_row M_field M_fields M_begins M_ruleLetters M_coming M_comingMany M_going M_goingMany o M_pile M_high M_where M_latest M_lifts M_begun M_left M_has M_lifted M_taken M_above M_allLifts M_busy M_longest M_onto M_worst M_best M_orders M_together M_ofOne M_ofOther M_seed M_then M_was M_kept M_held M_kindOn M_figureOn M_sorts M_size M_items M_moved M_thrown) := by
  refine zMv_of (cc := cX10_minutesAsTold) (maxL := 2) (by decide) rfl (Nat.le_of_ble_eq_true rfl) ?_
  intro p e s m args below meth c A Q ls ⟨hx, hb, hml, hown, hts, hA, hK, hZ, hS⟩ hret hP hD hl
  have hts := fun w h => hts w (List.mem_cons_of_mem _ h)
  have hown : s.vm.findClass RX10 = some m.cls := hown
  have hl : lv_has ls 2 [(0, .ref (ad_M 0))] := hl
  have hin10 := zin_X10
  have l2 : ∀ (n2 : Nat) (v1 : Int32) (M_minute : Nat → Int32) (H : Heap) (locs : List Loc), fX10_minutesAsTold_L2 fuel M_guests M_kind M_figure M_told n2 v1 M_minute = some o → va_P D vwCl (wX10_M ca ad_M M_guests M_kind M_figure M_told M_heaps M_holds M_back M_mistakes M_hooks M_letters M_rule M_at M_well M_sort M_text M_row M_field M_fields M_begins M_ruleLetters M_coming M_comingMany M_going M_goingMany M_minute M_pile M_high M_where M_latest M_lifts M_begun M_left M_has M_lifted M_taken M_above M_allLifts M_busy M_longest M_onto M_worst M_best M_orders M_together M_ofOne M_ofOther M_seed M_then M_was M_kept M_held M_kindOn M_figureOn M_sorts M_size M_items M_moved M_thrown) H → va_D A (wX10_M ca ad_M M_guests M_kind M_figure M_told M_heaps M_holds M_back M_mistakes M_hooks M_letters M_rule M_at M_well M_sort M_text M_row M_field M_fields M_begins M_ruleLetters M_coming M_comingMany M_going M_goingMany M_minute M_pile M_high M_where M_latest M_lifts M_begun M_left M_has M_lifted M_taken M_above M_allLifts M_busy M_longest M_onto M_worst M_best M_orders M_together M_ofOne M_ofOther M_seed M_then M_was M_kept M_held M_kindOn M_figureOn M_sorts M_size M_items M_moved M_thrown) → va_S A s.heap H locs → ∀ ls : Array Slot, lv_has ls 2 [(0, .ref (ad_M 0)), (1, .int v1)] → W p l e roX10_minutesAsTold s m args below meth c H locs 0 0 Q (F0 m 2 ls []) := by
    intro n2
    induction n2 with
    | zero =>
      intro v1 M_minute H locs hF
      rw [fX10_minutesAsTold_L2] at hF
      cases hF
    | succ n2 ih2 =>
      intro v1 M_minute H locs hF hP hD hS ls hl
      rw [fX10_minutesAsTold_L2] at hF
      refine lv_iload_n hx hb dX10_minutesAsTold_2 rfl (lv_at hl 1 rfl) ?_
      refine lv_aload_n hx hb dX10_minutesAsTold_3 rfl (lv_at hl 0 rfl) ?_
      refine va_get (D := D) (ci := 7) (v := .int M_guests) (C := RX10) (T := TX10) (N := 58) hx hb hts hin10 hown hK hP 0 rfl rfl 0 (by decide) (hts _ zm_16) (fun _ h9 => h9) rfl dX10_minutesAsTold_4 ?_
      refine lv_icmp_ge (tgt := 43) hx hb dX10_minutesAsTold_7 (by decide) (fun c_1 => ?_) (fun c_1 => ?_)
      · have hF := zt c_1 hF
        obtain rfl := Option.some.inj hF
        exact hret _ _ _ _ hP hD hS dX10_minutesAsTold_43
      · have hF := zf c_1 hF
        refine lv_aload_n hx hb dX10_minutesAsTold_10 rfl (lv_at hl 0 rfl) ?_
        refine va_get (D := D) (ci := 7) (v := .ref (ad_M 10)) (C := RX10) (T := TX10) (N := 58) hx hb hts hin10 hown hK hP 0 rfl rfl 24 (by decide) (hts _ zm_85) (fun _ h9 => h9) rfl dX10_minutesAsTold_11 ?_
        refine lv_iload_n hx hb dX10_minutesAsTold_14 rfl (lv_at hl 1 rfl) ?_
        refine lv_aload_n hx hb dX10_minutesAsTold_15 rfl (lv_at hl 0 rfl) ?_
        refine va_get (D := D) (ci := 7) (v := .ref (ad_M 1)) (C := RX10) (T := TX10) (N := 58) hx hb hts hin10 hown hK hP 0 rfl rfl 1 (by decide) (hts _ zm_25) (fun _ h9 => h9) rfl dX10_minutesAsTold_16 ?_
        refine lv_iload_n hx hb dX10_minutesAsTold_19 rfl (lv_at hl 1 rfl) ?_
        obtain ⟨h_2, hF⟩ := zgi hF
        refine va_iald hx hb hK hP 1 0 rfl rfl h_2 dX10_minutesAsTold_20 ?_
        refine lv_aload_n hx hb dX10_minutesAsTold_21 rfl (lv_at hl 0 rfl) ?_
        refine va_get (D := D) (ci := 7) (v := .ref (ad_M 2)) (C := RX10) (T := TX10) (N := 58) hx hb hts hin10 hown hK hP 0 rfl rfl 2 (by decide) (hts _ zm_26) (fun _ h9 => h9) rfl dX10_minutesAsTold_22 ?_
        refine lv_iload_n hx hb dX10_minutesAsTold_25 rfl (lv_at hl 1 rfl) ?_
        refine va_iald hx hb hK hP 2 0 rfl rfl h_2 dX10_minutesAsTold_26 ?_
        refine lv_aload_n hx hb dX10_minutesAsTold_27 rfl (lv_at hl 0 rfl) ?_
        refine va_get (D := D) (ci := 7) (v := .ref (ad_M 3)) (C := RX10) (T := TX10) (N := 58) hx hb hts hin10 hown hK hP 0 rfl rfl 3 (by decide) (hts _ zm_31) (fun _ h9 => h9) rfl dX10_minutesAsTold_28 ?_
        refine lv_iload_n hx hb dX10_minutesAsTold_31 rfl (lv_at hl 1 rfl) ?_
        refine va_iald hx hb hK hP 3 0 rfl rfl h_2 dX10_minutesAsTold_32 ?_
        obtain ⟨o_3, hc_3, hF⟩ := zb hF
        refine zcSR (rest := [.int v1, .ref (ad_M 10)]) (kX10_goesBy l D ca t (M_kind v1.toNatClampNeg) (M_figure v1.toNatClampNeg) (M_told v1.toNatClampNeg) fuel _ hc_3) ⟨hx, hb, hml, hown, hts⟩ (zcwS hts zm_94 zm_93 zm_19 zm_92 rfl rfl zds_X10_goesBy ⟨Nat.le_of_ble_eq_true rfl, Nat.le_of_ble_eq_true rfl⟩) hA hK hZ hP hD hS [] rfl rfl rfl hl.1 (Nat.le_of_ble_eq_true rfl) dX10_minutesAsTold_33 rfl ?_
        refine z_iast hx hb hK hP hD hS 10 0 rfl rfl h_2 dX10_minutesAsTold_36 (fun g => (wX10_M ca ad_M M_guests M_kind M_figure M_told M_heaps M_holds M_back M_mistakes M_hooks M_letters M_rule M_at M_well M_sort M_text M_row M_field M_fields M_begins M_ruleLetters M_coming M_comingMany M_going M_goingMany g M_pile M_high M_where M_latest M_lifts M_begun M_left M_has M_lifted M_taken M_above M_allLifts M_busy M_longest M_onto M_worst M_best M_orders M_together M_ofOne M_ofOther M_seed M_then M_was M_kept M_held M_kindOn M_figureOn M_sorts M_size M_items M_moved M_thrown)) (fun _ => rfl) hF (fun M_minute_4 H locs hF hP hD hS => ?_)
        refine z_iinc (kv := 1) hx hb 1 dX10_minutesAsTold_37 hl rfl (by decide) (by decide) (fun g => [(1, .int g), (0, .ref (ad_M 0))]) (fun _ => rfl) hF (fun v1_5 ls hF hl => ?_)
        refine lv_goto (tgt := 2) hx hb dX10_minutesAsTold_40 (by decide) ?_
        exact ih2 v1_5 M_minute_4 _ _ hF hP hD hS ls (lv_sub hl [1, 0] rfl)
  unfold fX10_minutesAsTold at hF
  refine lv_iconst (v := 0) hx hb dX10_minutesAsTold_0 (by decide) ?_
  refine lv_istore_n (lv' := [(1, .int 0), (0, .ref (ad_M 0))]) hx hb dX10_minutesAsTold_1 rfl hl (by decide) rfl (fun ls hl => ?_)
  exact l2 fuel 0 M_minute _ _ hF hP hD hS ls (lv_sub hl [1, 0] rfl)
theorem zdv_X10_allCome : yX10_allCome.cls = RX10 ∧ yX10_allCome.cls ≠ "java/lang/invoke/MethodHandle" ∧ yX10_allCome.cls ≠ "java/lang/invoke/VarHandle" ∧ (parseMethodDescriptor yX10_allCome.desc).map (fun d => d.parameters.length) = some 1 := by decide +kernel
theorem zdv_X10_allGo : yX10_allGo.cls = RX10 ∧ yX10_allGo.cls ≠ "java/lang/invoke/MethodHandle" ∧ yX10_allGo.cls ≠ "java/lang/invoke/VarHandle" ∧ (parseMethodDescriptor yX10_allGo.desc).map (fun d => d.parameters.length) = some 0 := by decide +kernel
theorem zdv_X10_minutesAsTold : yX10_minutesAsTold.cls = RX10 ∧ yX10_minutesAsTold.cls ≠ "java/lang/invoke/MethodHandle" ∧ yX10_minutesAsTold.cls ≠ "java/lang/invoke/VarHandle" ∧ (parseMethodDescriptor yX10_minutesAsTold.desc).map (fun d => d.parameters.length) = some 0 := by decide +kernel
abbrev roX10_usual : Room := { frames := 3, cells := 0, slots := 0, locals := 67 }
set_option maxHeartbeats 4000000 in
set_option maxRecDepth 100000 in
theorem kX10_usual (l : Launch) (D : va_G) (ca : Nat → ClassId) (t : Nat → Nat) (ad_M : Nat → Nat) (M_guests : Int32) (M_kind : Nat → Int32) (M_figure : Nat → Int32) (M_told : Nat → Int32) (M_heaps : Int32) (M_holds : Int32) (M_back : Int32) (M_mistakes : Int32) (M_hooks : Int32) (M_letters : Int32) (M_rule : Nat → Int32) (M_at : Int32) (M_well : Int32) (M_sort : Int32) (M_text : Int32) (M_row : Int32) (M_field : Nat → Int32) (M_fields : Int32) (M_begins : Nat → Int32) (M_ruleLetters : Nat → Int32) (M_coming : Nat → Int32) (M_comingMany : Int32) (M_going : Nat → Int32) (M_goingMany : Int32) (M_minute : Nat → Int32) (M_pile : Nat → Int32) (M_high : Nat → Int32) (M_where : Nat → Int32) (M_latest : Int32) (M_lifts : Nat → Int32) (M_begun : Nat → Int32) (M_left : Nat → Int32) (M_has : Nat → Int32) (M_lifted : Nat → Int32) (M_taken : Nat → Int32) (M_above : Nat → Int32) (M_allLifts : Int32) (M_busy : Int32) (M_longest : Nat → Int32) (M_onto : Nat → Int32) (M_worst : Int32) (M_best : Int32) (M_orders : Int32) (M_together : Int32) (M_ofOne : Nat → Int32) (M_ofOther : Nat → Int32) (M_seed : Int32) (M_then : Nat → Int32) (M_was : Nat → Int32) (M_kept : Int32) (M_held : Nat → Int32) (M_kindOn : Nat → Int32) (M_figureOn : Nat → Int32) (M_sorts : Nat → Int32) (M_size : Nat → Int32) (M_items : Nat → Int32) (M_moved : Nat → Int32) (M_thrown : Int32) (fuel : Nat) (o : (Nat → Int32) × Int32 × (Nat → Int32) × Int32 × (Nat → Int32)) (hF : fX10_usual fuel M_guests M_kind M_figure M_told M_coming M_comingMany M_going M_goingMany M_minute = some o) : zMv l D (zT ca) t yX10_usual (.code yX10_usual cX10_usual 1 none :: zW) roX10_usual [.ref (ad_M 0)] (wX10_M ca ad_M M_guests M_kind M_figure M_told M_heaps M_holds M_back M_mistakes M_hooks M_letters M_rule M_at M_well M_sort M_text M_row M_field M_fields M_begins M_ruleLetters M_coming M_comingMany M_going M_goingMany M_minute M_pile M_high M_where M_latest M_lifts M_begun M_left M_has M_lifted M_taken M_above M_allLifts M_busy M_longest M_onto M_worst M_best M_orders M_together M_ofOne M_ofOther M_seed M_then M_was M_kept M_held M_kindOn M_figureOn M_sorts M_size M_items M_moved M_thrown) (wX10_M ca ad_M M_guests M_kind M_figure M_told M_heaps M_holds M_back M_mistakes M_hooks M_letters M_rule M_at M_well M_sort M_text M_row M_field M_fields M_begins M_ruleLetters o.1 o.2.1 o.2.2.1 o.2.2.2.1 o.2.2.2.2 M_pile M_high M_where M_latest M_lifts M_begun M_left M_has M_lifted M_taken M_above M_allLifts M_busy M_longest M_onto M_worst M_best M_orders M_together M_ofOne M_ofOther M_seed M_then M_was M_kept M_held M_kindOn M_figureOn M_sorts M_size M_items M_moved M_thrown) := by
  refine zMv_of (cc := cX10_usual) (maxL := 1) (by decide) rfl (Nat.le_of_ble_eq_true rfl) ?_
  intro p e s m args below meth c A Q ls ⟨hx, hb, hml, hown, hts, hA, hK, hZ, hS⟩ hret hP hD hl
  have hts := fun w h => hts w (List.mem_cons_of_mem _ h)
  have hown : s.vm.findClass RX10 = some m.cls := hown
  have hl : lv_has ls 1 [(0, .ref (ad_M 0))] := hl
  unfold fX10_usual at hF
  refine lv_aload_n hx hb dX10_usual_0 rfl (lv_at hl 0 rfl) ?_
  obtain ⟨o_1, hc_1, hF⟩ := zb hF
  refine zcVv (rest := []) (ws' := (wX10_M ca ad_M M_guests M_kind M_figure M_told M_heaps M_holds M_back M_mistakes M_hooks M_letters M_rule M_at M_well M_sort M_text M_row M_field M_fields M_begins M_ruleLetters M_coming M_comingMany M_going M_goingMany o_1 M_pile M_high M_where M_latest M_lifts M_begun M_left M_has M_lifted M_taken M_above M_allLifts M_busy M_longest M_onto M_worst M_best M_orders M_together M_ofOne M_ofOther M_seed M_then M_was M_kept M_held M_kindOn M_figureOn M_sorts M_size M_items M_moved M_thrown)) (kX10_minutesAsTold l D ca t ad_M M_guests M_kind M_figure M_told M_heaps M_holds M_back M_mistakes M_hooks M_letters M_rule M_at M_well M_sort M_text M_row M_field M_fields M_begins M_ruleLetters M_coming M_comingMany M_going M_goingMany M_minute M_pile M_high M_where M_latest M_lifts M_begun M_left M_has M_lifted M_taken M_above M_allLifts M_busy M_longest M_onto M_worst M_best M_orders M_together M_ofOne M_ofOther M_seed M_then M_was M_kept M_held M_kindOn M_figureOn M_sorts M_size M_items M_moved M_thrown fuel _ hc_1) ⟨hx, hb, hml, hown, hts⟩ (zcwV hts zm_96 zm_97 zm_98 zm_19 zm_95 rfl rfl zdv_X10_minutesAsTold ⟨Nat.le_of_ble_eq_true rfl, Nat.le_of_ble_eq_true rfl⟩) hA hK hZ hP hD hS [0, 1, 2, 3, 4, 5, 6, 7, 8, 9, 10, 11, 12, 13, 14, 15, 16, 17, 18, 19, 20, 21, 22, 23, 24, 25, 26, 27, 28, 29, 30, 31, 32, 33] [] [0, 1, 2, 3, 4, 5, 6, 7, 8, 9, 10, 11, 12, 13, 14, 15, 16, 17, 18, 19, 20, 21, 22, 23, 24, 25, 26, 27, 28, 29, 30, 31, 32, 33] rfl rfl rfl rfl rfl rfl rfl 7 0 rfl rfl rfl hl.1 (Nat.le_of_ble_eq_true rfl) dX10_usual_1 rfl (fun H locs hP hD hS => ?_)
  refine lv_aload_n hx hb dX10_usual_4 rfl (lv_at hl 0 rfl) ?_
  refine lv_iconst (v := (-1)) hx hb dX10_usual_5 (by decide) ?_
  obtain ⟨o_2, hc_2, hF⟩ := zb hF
  refine zcVv (rest := []) (ws' := (wX10_M ca ad_M M_guests M_kind M_figure M_told M_heaps M_holds M_back M_mistakes M_hooks M_letters M_rule M_at M_well M_sort M_text M_row M_field M_fields M_begins M_ruleLetters o_2.1 o_2.2 M_going M_goingMany o_1 M_pile M_high M_where M_latest M_lifts M_begun M_left M_has M_lifted M_taken M_above M_allLifts M_busy M_longest M_onto M_worst M_best M_orders M_together M_ofOne M_ofOther M_seed M_then M_was M_kept M_held M_kindOn M_figureOn M_sorts M_size M_items M_moved M_thrown)) (kX10_allCome l D ca t ad_M M_guests M_kind M_figure M_told M_heaps M_holds M_back M_mistakes M_hooks M_letters M_rule M_at M_well M_sort M_text M_row M_field M_fields M_begins M_ruleLetters M_coming M_comingMany M_going M_goingMany o_1 M_pile M_high M_where M_latest M_lifts M_begun M_left M_has M_lifted M_taken M_above M_allLifts M_busy M_longest M_onto M_worst M_best M_orders M_together M_ofOne M_ofOther M_seed M_then M_was M_kept M_held M_kindOn M_figureOn M_sorts M_size M_items M_moved M_thrown (-1) fuel _ hc_2) ⟨hx, hb, hml, hown, hts⟩ (zcwV hts zm_100 zm_101 zm_102 zm_19 zm_99 rfl rfl zdv_X10_allCome ⟨Nat.le_of_ble_eq_true rfl, Nat.le_of_ble_eq_true rfl⟩) hA hK hZ hP hD hS [0, 1, 2, 3, 4, 5, 6, 7, 8, 9, 10, 11, 12, 13, 14, 15, 16, 17, 18, 19, 20, 21, 22, 23, 24, 25, 26, 27, 28, 29, 30, 31, 32, 33] [] [0, 1, 2, 3, 4, 5, 6, 7, 8, 9, 10, 11, 12, 13, 14, 15, 16, 17, 18, 19, 20, 21, 22, 23, 24, 25, 26, 27, 28, 29, 30, 31, 32, 33] rfl rfl rfl rfl rfl rfl rfl 7 0 rfl rfl rfl hl.1 (Nat.le_of_ble_eq_true rfl) dX10_usual_6 rfl (fun H locs hP hD hS => ?_)
  refine lv_aload_n hx hb dX10_usual_9 rfl (lv_at hl 0 rfl) ?_
  obtain ⟨o_3, hc_3, hF⟩ := zb hF
  refine zcVv (rest := []) (ws' := (wX10_M ca ad_M M_guests M_kind M_figure M_told M_heaps M_holds M_back M_mistakes M_hooks M_letters M_rule M_at M_well M_sort M_text M_row M_field M_fields M_begins M_ruleLetters o_2.1 o_2.2 o_3.1 o_3.2 o_1 M_pile M_high M_where M_latest M_lifts M_begun M_left M_has M_lifted M_taken M_above M_allLifts M_busy M_longest M_onto M_worst M_best M_orders M_together M_ofOne M_ofOther M_seed M_then M_was M_kept M_held M_kindOn M_figureOn M_sorts M_size M_items M_moved M_thrown)) (kX10_allGo l D ca t ad_M M_guests M_kind M_figure M_told M_heaps M_holds M_back M_mistakes M_hooks M_letters M_rule M_at M_well M_sort M_text M_row M_field M_fields M_begins M_ruleLetters o_2.1 o_2.2 M_going M_goingMany o_1 M_pile M_high M_where M_latest M_lifts M_begun M_left M_has M_lifted M_taken M_above M_allLifts M_busy M_longest M_onto M_worst M_best M_orders M_together M_ofOne M_ofOther M_seed M_then M_was M_kept M_held M_kindOn M_figureOn M_sorts M_size M_items M_moved M_thrown fuel _ hc_3) ⟨hx, hb, hml, hown, hts⟩ (zcwV hts zm_104 zm_105 zm_106 zm_19 zm_103 rfl rfl zdv_X10_allGo ⟨Nat.le_of_ble_eq_true rfl, Nat.le_of_ble_eq_true rfl⟩) hA hK hZ hP hD hS [0, 1, 2, 3, 4, 5, 6, 7, 8, 9, 10, 11, 12, 13, 14, 15, 16, 17, 18, 19, 20, 21, 22, 23, 24, 25, 26, 27, 28, 29, 30, 31, 32, 33] [] [0, 1, 2, 3, 4, 5, 6, 7, 8, 9, 10, 11, 12, 13, 14, 15, 16, 17, 18, 19, 20, 21, 22, 23, 24, 25, 26, 27, 28, 29, 30, 31, 32, 33] rfl rfl rfl rfl rfl rfl rfl 7 0 rfl rfl rfl hl.1 (Nat.le_of_ble_eq_true rfl) dX10_usual_10 rfl (fun H locs hP hD hS => ?_)
  obtain rfl := Option.some.inj hF
  exact hret _ _ _ _ hP hD hS dX10_usual_13
abbrev roX10_hasRoom : Room := { frames := 0, cells := 0, slots := 0, locals := 0 }
set_option maxHeartbeats 4000000 in
set_option maxRecDepth 100000 in
theorem kX10_hasRoom (l : Launch) (D : va_G) (ca : Nat → ClassId) (t : Nat → Nat) (ad_M : Nat → Nat) (M_guests : Int32) (M_kind : Nat → Int32) (M_figure : Nat → Int32) (M_told : Nat → Int32) (M_heaps : Int32) (M_holds : Int32) (M_back : Int32) (M_mistakes : Int32) (M_hooks : Int32) (M_letters : Int32) (M_rule : Nat → Int32) (M_at : Int32) (M_well : Int32) (M_sort : Int32) (M_text : Int32) (M_row : Int32) (M_field : Nat → Int32) (M_fields : Int32) (M_begins : Nat → Int32) (M_ruleLetters : Nat → Int32) (M_coming : Nat → Int32) (M_comingMany : Int32) (M_going : Nat → Int32) (M_goingMany : Int32) (M_minute : Nat → Int32) (M_pile : Nat → Int32) (M_high : Nat → Int32) (M_where : Nat → Int32) (M_latest : Int32) (M_lifts : Nat → Int32) (M_begun : Nat → Int32) (M_left : Nat → Int32) (M_has : Nat → Int32) (M_lifted : Nat → Int32) (M_taken : Nat → Int32) (M_above : Nat → Int32) (M_allLifts : Int32) (M_busy : Int32) (M_longest : Nat → Int32) (M_onto : Nat → Int32) (M_worst : Int32) (M_best : Int32) (M_orders : Int32) (M_together : Int32) (M_ofOne : Nat → Int32) (M_ofOther : Nat → Int32) (M_seed : Int32) (M_then : Nat → Int32) (M_was : Nat → Int32) (M_kept : Int32) (M_held : Nat → Int32) (M_kindOn : Nat → Int32) (M_figureOn : Nat → Int32) (M_sorts : Nat → Int32) (M_size : Nat → Int32) (M_items : Nat → Int32) (M_moved : Nat → Int32) (M_thrown : Int32) (p1 : Int32) (fuel : Nat) (o : Int32) (hF : fX10_hasRoom fuel M_holds M_high p1 = some o) : zRi l D (zT ca) t yX10_hasRoom (.code yX10_hasRoom cX10_hasRoom 2 (some .boolean) :: zW) roX10_hasRoom [.ref (ad_M 0), .int p1] (wX10_M ca ad_M M_guests M_kind M_figure M_told M_heaps M_holds M_back M_mistakes M_hooks M_letters M_rule M_at M_well M_sort M_text M_row M_field M_fields M_begins M_ruleLetters M_coming M_comingMany M_going M_goingMany M_minute M_pile M_high M_where M_latest M_lifts M_begun M_left M_has M_lifted M_taken M_above M_allLifts M_busy M_longest M_onto M_worst M_best M_orders M_together M_ofOne M_ofOther M_seed M_then M_was M_kept M_held M_kindOn M_figureOn M_sorts M_size M_items M_moved M_thrown) o := by
  refine zRi_of (cc := cX10_hasRoom) (maxL := 2) (by decide) rfl (Nat.le_of_ble_eq_true rfl) ?_
  intro p e s m args below meth c A Q ls ⟨hx, hb, hml, hown, hts, hA, hK, hZ, hS⟩ hret hP hD hl
  have hts := fun w h => hts w (List.mem_cons_of_mem _ h)
  have hown : s.vm.findClass RX10 = some m.cls := hown
  have hl : lv_has ls 2 [(0, .ref (ad_M 0)), (1, .int p1)] := hl
  have hin10 := zin_X10
  unfold fX10_hasRoom at hF
  refine lv_aload_n hx hb dX10_hasRoom_0 rfl (lv_at hl 0 rfl) ?_
  refine va_get (D := D) (ci := 7) (v := .ref (ad_M 12)) (C := RX10) (T := TX10) (N := 58) hx hb hts hin10 hown hK hP 0 rfl rfl 26 (by decide) (hts _ zm_107) (fun _ h9 => h9) rfl dX10_hasRoom_1 ?_
  refine lv_iload_n hx hb dX10_hasRoom_4 rfl (lv_at hl 1 rfl) ?_
  obtain ⟨h_1, hF⟩ := zgi hF
  refine va_iald hx hb hK hP 12 0 rfl rfl h_1 dX10_hasRoom_5 ?_
  refine lv_aload_n hx hb dX10_hasRoom_6 rfl (lv_at hl 0 rfl) ?_
  refine va_get (D := D) (ci := 7) (v := .int M_holds) (C := RX10) (T := TX10) (N := 58) hx hb hts hin10 hown hK hP 0 rfl rfl 5 (by decide) (hts _ zm_59) (fun _ h9 => h9) rfl dX10_hasRoom_7 ?_
  refine lv_icmp_ge (tgt := 17) hx hb dX10_hasRoom_10 (by decide) (fun c_2 => ?_) (fun c_2 => ?_)
  · have hF := zt c_2 hF
    refine lv_iconst (v := 0) hx hb dX10_hasRoom_17 (by decide) ?_
    obtain rfl := Option.some.inj hF
    exact hret _ _ (zbool (Or.inl rfl)) dX10_hasRoom_18
  · have hF := zf c_2 hF
    refine lv_iconst (v := 1) hx hb dX10_hasRoom_13 (by decide) ?_
    refine lv_goto (tgt := 18) hx hb dX10_hasRoom_14 (by decide) ?_
    obtain rfl := Option.some.inj hF
    exact hret _ _ (zbool (Or.inr rfl)) dX10_hasRoom_18
abbrev roX10_topGoes : Room := { frames := 0, cells := 0, slots := 0, locals := 0 }
set_option maxHeartbeats 4000000 in
set_option maxRecDepth 100000 in
theorem kX10_topGoes (l : Launch) (D : va_G) (ca : Nat → ClassId) (t : Nat → Nat) (ad_M : Nat → Nat) (M_guests : Int32) (M_kind : Nat → Int32) (M_figure : Nat → Int32) (M_told : Nat → Int32) (M_heaps : Int32) (M_holds : Int32) (M_back : Int32) (M_mistakes : Int32) (M_hooks : Int32) (M_letters : Int32) (M_rule : Nat → Int32) (M_at : Int32) (M_well : Int32) (M_sort : Int32) (M_text : Int32) (M_row : Int32) (M_field : Nat → Int32) (M_fields : Int32) (M_begins : Nat → Int32) (M_ruleLetters : Nat → Int32) (M_coming : Nat → Int32) (M_comingMany : Int32) (M_going : Nat → Int32) (M_goingMany : Int32) (M_minute : Nat → Int32) (M_pile : Nat → Int32) (M_high : Nat → Int32) (M_where : Nat → Int32) (M_latest : Int32) (M_lifts : Nat → Int32) (M_begun : Nat → Int32) (M_left : Nat → Int32) (M_has : Nat → Int32) (M_lifted : Nat → Int32) (M_taken : Nat → Int32) (M_above : Nat → Int32) (M_allLifts : Int32) (M_busy : Int32) (M_longest : Nat → Int32) (M_onto : Nat → Int32) (M_worst : Int32) (M_best : Int32) (M_orders : Int32) (M_together : Int32) (M_ofOne : Nat → Int32) (M_ofOther : Nat → Int32) (M_seed : Int32) (M_then : Nat → Int32) (M_was : Nat → Int32) (M_kept : Int32) (M_held : Nat → Int32) (M_kindOn : Nat → Int32) (M_figureOn : Nat → Int32) (M_sorts : Nat → Int32) (M_size : Nat → Int32) (M_items : Nat → Int32) (M_moved : Nat → Int32) (M_thrown : Int32) (p1 : Int32) (fuel : Nat) (o : Int32) (hF : fX10_topGoes fuel M_minute M_pile M_high p1 = some o) : zRi l D (zT ca) t yX10_topGoes (.code yX10_topGoes cX10_topGoes 2 (some .int) :: zW) roX10_topGoes [.ref (ad_M 0), .int p1] (wX10_M ca ad_M M_guests M_kind M_figure M_told M_heaps M_holds M_back M_mistakes M_hooks M_letters M_rule M_at M_well M_sort M_text M_row M_field M_fields M_begins M_ruleLetters M_coming M_comingMany M_going M_goingMany M_minute M_pile M_high M_where M_latest M_lifts M_begun M_left M_has M_lifted M_taken M_above M_allLifts M_busy M_longest M_onto M_worst M_best M_orders M_together M_ofOne M_ofOther M_seed M_then M_was M_kept M_held M_kindOn M_figureOn M_sorts M_size M_items M_moved M_thrown) o := by
  refine zRi_of (cc := cX10_topGoes) (maxL := 2) (by decide) rfl (Nat.le_of_ble_eq_true rfl) ?_
  intro p e s m args below meth c A Q ls ⟨hx, hb, hml, hown, hts, hA, hK, hZ, hS⟩ hret hP hD hl
  have hts := fun w h => hts w (List.mem_cons_of_mem _ h)
  have hown : s.vm.findClass RX10 = some m.cls := hown
  have hl : lv_has ls 2 [(0, .ref (ad_M 0)), (1, .int p1)] := hl
  have hin10 := zin_X10
  unfold fX10_topGoes at hF
  refine lv_aload_n hx hb dX10_topGoes_0 rfl (lv_at hl 0 rfl) ?_
  refine va_get (D := D) (ci := 7) (v := .ref (ad_M 10)) (C := RX10) (T := TX10) (N := 58) hx hb hts hin10 hown hK hP 0 rfl rfl 24 (by decide) (hts _ zm_85) (fun _ h9 => h9) rfl dX10_topGoes_1 ?_
  refine lv_aload_n hx hb dX10_topGoes_4 rfl (lv_at hl 0 rfl) ?_
  refine va_get (D := D) (ci := 7) (v := .ref (ad_M 11)) (C := RX10) (T := TX10) (N := 58) hx hb hts hin10 hown hK hP 0 rfl rfl 25 (by decide) (hts _ zm_108) (fun _ h9 => h9) rfl dX10_topGoes_5 ?_
  refine lv_bipush (v := 10) hx hb dX10_topGoes_8 (by decide) ?_
  refine lv_iload_n hx hb dX10_topGoes_10 rfl (lv_at hl 1 rfl) ?_
  refine lv_imul hx hb dX10_topGoes_11 ?_
  refine lv_aload_n hx hb dX10_topGoes_12 rfl (lv_at hl 0 rfl) ?_
  refine va_get (D := D) (ci := 7) (v := .ref (ad_M 12)) (C := RX10) (T := TX10) (N := 58) hx hb hts hin10 hown hK hP 0 rfl rfl 26 (by decide) (hts _ zm_107) (fun _ h9 => h9) rfl dX10_topGoes_13 ?_
  refine lv_iload_n hx hb dX10_topGoes_16 rfl (lv_at hl 1 rfl) ?_
  obtain ⟨h_1, hF⟩ := zgi hF
  refine va_iald hx hb hK hP 12 0 rfl rfl h_1 dX10_topGoes_17 ?_
  refine lv_iadd hx hb dX10_topGoes_18 ?_
  refine lv_iconst (v := 1) hx hb dX10_topGoes_19 (by decide) ?_
  refine lv_isub hx hb dX10_topGoes_20 ?_
  refine z_let hF (fun x_2 hF => ?_)
  obtain ⟨h_3, hF⟩ := zgi hF
  refine va_iald hx hb hK hP 11 0 rfl rfl h_3 dX10_topGoes_21 ?_
  obtain ⟨h_4, hF⟩ := zgi hF
  refine va_iald hx hb hK hP 10 0 rfl rfl h_4 dX10_topGoes_22 ?_
  obtain rfl := Option.some.inj hF
  exact hret _ _ rfl dX10_topGoes_23
theorem zdv_X10_topGoes : yX10_topGoes.cls = RX10 ∧ yX10_topGoes.cls ≠ "java/lang/invoke/MethodHandle" ∧ yX10_topGoes.cls ≠ "java/lang/invoke/VarHandle" ∧ (parseMethodDescriptor yX10_topGoes.desc).map (fun d => d.parameters.length) = some 1 := by decide +kernel
abbrev roX10_isBetter : Room := { frames := 1, cells := 0, slots := 0, locals := 21 }
set_option maxHeartbeats 4000000 in
set_option maxRecDepth 100000 in
theorem kX10_isBetter (l : Launch) (D : va_G) (ca : Nat → ClassId) (t : Nat → Nat) (ad_M : Nat → Nat) (M_guests : Int32) (M_kind : Nat → Int32) (M_figure : Nat → Int32) (M_told : Nat → Int32) (M_heaps : Int32) (M_holds : Int32) (M_back : Int32) (M_mistakes : Int32) (M_hooks : Int32) (M_letters : Int32) (M_rule : Nat → Int32) (M_at : Int32) (M_well : Int32) (M_sort : Int32) (M_text : Int32) (M_row : Int32) (M_field : Nat → Int32) (M_fields : Int32) (M_begins : Nat → Int32) (M_ruleLetters : Nat → Int32) (M_coming : Nat → Int32) (M_comingMany : Int32) (M_going : Nat → Int32) (M_goingMany : Int32) (M_minute : Nat → Int32) (M_pile : Nat → Int32) (M_high : Nat → Int32) (M_where : Nat → Int32) (M_latest : Int32) (M_lifts : Nat → Int32) (M_begun : Nat → Int32) (M_left : Nat → Int32) (M_has : Nat → Int32) (M_lifted : Nat → Int32) (M_taken : Nat → Int32) (M_above : Nat → Int32) (M_allLifts : Int32) (M_busy : Int32) (M_longest : Nat → Int32) (M_onto : Nat → Int32) (M_worst : Int32) (M_best : Int32) (M_orders : Int32) (M_together : Int32) (M_ofOne : Nat → Int32) (M_ofOther : Nat → Int32) (M_seed : Int32) (M_then : Nat → Int32) (M_was : Nat → Int32) (M_kept : Int32) (M_held : Nat → Int32) (M_kindOn : Nat → Int32) (M_figureOn : Nat → Int32) (M_sorts : Nat → Int32) (M_size : Nat → Int32) (M_items : Nat → Int32) (M_moved : Nat → Int32) (M_thrown : Int32) (p1 : Int32) (p2 : Int32) (p3 : Int32) (p4 : Int32) (fuel : Nat) (o : Int32) (hF : fX10_isBetter fuel M_minute M_pile M_high p1 p2 p3 p4 = some o) : zRi l D (zT ca) t yX10_isBetter (.code yX10_isBetter cX10_isBetter 5 (some .boolean) :: zW) roX10_isBetter [.ref (ad_M 0), .int p1, .int p2, .int p3, .int p4] (wX10_M ca ad_M M_guests M_kind M_figure M_told M_heaps M_holds M_back M_mistakes M_hooks M_letters M_rule M_at M_well M_sort M_text M_row M_field M_fields M_begins M_ruleLetters M_coming M_comingMany M_going M_goingMany M_minute M_pile M_high M_where M_latest M_lifts M_begun M_left M_has M_lifted M_taken M_above M_allLifts M_busy M_longest M_onto M_worst M_best M_orders M_together M_ofOne M_ofOther M_seed M_then M_was M_kept M_held M_kindOn M_figureOn M_sorts M_size M_items M_moved M_thrown) o := by
  refine zRi_of (cc := cX10_isBetter) (maxL := 5) (by decide) rfl (Nat.le_of_ble_eq_true rfl) ?_
  intro p e s m args below meth c A Q ls ⟨hx, hb, hml, hown, hts, hA, hK, hZ, hS⟩ hret hP hD hl
  have hts := fun w h => hts w (List.mem_cons_of_mem _ h)
  have hown : s.vm.findClass RX10 = some m.cls := hown
  have hl : lv_has ls 5 [(0, .ref (ad_M 0)), (1, .int p1), (2, .int p2), (3, .int p3), (4, .int p4)] := hl
  have hin10 := zin_X10
  unfold fX10_isBetter at hF
  refine lv_iload_n hx hb dX10_isBetter_0 rfl (lv_at hl 1 rfl) ?_
  by_cases c_1 : p1 = 1
  · have hF := zt c_1 hF
    refine lv_tableIn (tgt := 32) (off := 31) hx hb dX10_isBetter_1 (by rw [c_1]; decide) (by rw [c_1]; decide) (by rw [c_1]; rfl) (by decide) ?_
    refine lv_iload_n hx hb dX10_isBetter_32 rfl (lv_at hl 3 rfl) ?_
    refine lv_bipush (v := (-4)) hx hb dX10_isBetter_33 (by decide) ?_
    refine lv_icmp_eq (tgt := 53) hx hb dX10_isBetter_35 (by decide) (fun c_2 => ?_) (fun c_2 => ?_)
    · have hF := zt c_2 hF
      refine lv_iconst (v := 1) hx hb dX10_isBetter_53 (by decide) ?_
      refine lv_goto (tgt := 58) hx hb dX10_isBetter_54 (by decide) ?_
      obtain rfl := Option.some.inj hF
      exact hret _ _ (zbool (Or.inr rfl)) dX10_isBetter_58
    · have hF := zf c_2 hF
      refine lv_aload_n hx hb dX10_isBetter_38 rfl (lv_at hl 0 rfl) ?_
      refine va_get (D := D) (ci := 7) (v := .ref (ad_M 12)) (C := RX10) (T := TX10) (N := 58) hx hb hts hin10 hown hK hP 0 rfl rfl 26 (by decide) (hts _ zm_107) (fun _ h9 => h9) rfl dX10_isBetter_39 ?_
      refine lv_iload_n hx hb dX10_isBetter_42 rfl (lv_at hl 2 rfl) ?_
      obtain ⟨h_3, hF⟩ := zgi hF
      refine va_iald hx hb hK hP 12 0 rfl rfl h_3 dX10_isBetter_43 ?_
      refine lv_aload_n hx hb dX10_isBetter_44 rfl (lv_at hl 0 rfl) ?_
      refine va_get (D := D) (ci := 7) (v := .ref (ad_M 12)) (C := RX10) (T := TX10) (N := 58) hx hb hts hin10 hown hK hP 0 rfl rfl 26 (by decide) (hts _ zm_107) (fun _ h9 => h9) rfl dX10_isBetter_45 ?_
      refine lv_iload_n hx hb dX10_isBetter_48 rfl (lv_at hl 3 rfl) ?_
      obtain ⟨h_4, hF⟩ := zgi hF
      refine va_iald hx hb hK hP 12 0 rfl rfl h_4 dX10_isBetter_49 ?_
      refine lv_icmp_ge (tgt := 57) hx hb dX10_isBetter_50 (by decide) (fun c_5 => ?_) (fun c_5 => ?_)
      · have hF := zt c_5 hF
        refine lv_iconst (v := 0) hx hb dX10_isBetter_57 (by decide) ?_
        obtain rfl := Option.some.inj hF
        exact hret _ _ (zbool (Or.inl rfl)) dX10_isBetter_58
      · have hF := zf c_5 hF
        refine lv_iconst (v := 1) hx hb dX10_isBetter_53 (by decide) ?_
        refine lv_goto (tgt := 58) hx hb dX10_isBetter_54 (by decide) ?_
        obtain rfl := Option.some.inj hF
        exact hret _ _ (zbool (Or.inr rfl)) dX10_isBetter_58
  · have hF := zf c_1 hF
    by_cases c_6 : p1 = 2
    · have hF := zt c_6 hF
      refine lv_tableIn (tgt := 59) (off := 58) hx hb dX10_isBetter_1 (by rw [c_6]; decide) (by rw [c_6]; decide) (by rw [c_6]; rfl) (by decide) ?_
      refine lv_iload_n hx hb dX10_isBetter_59 rfl (lv_at hl 3 rfl) ?_
      refine lv_bipush (v := (-4)) hx hb dX10_isBetter_60 (by decide) ?_
      refine lv_icmp_ne (tgt := 78) hx hb dX10_isBetter_62 (by decide) (fun c_7 => ?_) (fun c_7 => ?_)
      · have hF := zf c_7 hF
        refine lv_iconst (v := 0) hx hb dX10_isBetter_78 (by decide) ?_
        obtain rfl := Option.some.inj hF
        exact hret _ _ (zbool (Or.inl rfl)) dX10_isBetter_79
      · have hF := zt c_7 hF
        refine lv_aload_n hx hb dX10_isBetter_65 rfl (lv_at hl 0 rfl) ?_
        refine va_get (D := D) (ci := 7) (v := .ref (ad_M 12)) (C := RX10) (T := TX10) (N := 58) hx hb hts hin10 hown hK hP 0 rfl rfl 26 (by decide) (hts _ zm_107) (fun _ h9 => h9) rfl dX10_isBetter_66 ?_
        refine lv_iload_n hx hb dX10_isBetter_69 rfl (lv_at hl 2 rfl) ?_
        obtain ⟨h_8, hF⟩ := zgi hF
        refine va_iald hx hb hK hP 12 0 rfl rfl h_8 dX10_isBetter_70 ?_
        refine lv_if_ne (tgt := 78) hx hb dX10_isBetter_71 (by decide) (fun c_9 => ?_) (fun c_9 => ?_)
        · have hF := zf c_9 hF
          refine lv_iconst (v := 0) hx hb dX10_isBetter_78 (by decide) ?_
          obtain rfl := Option.some.inj hF
          exact hret _ _ (zbool (Or.inl rfl)) dX10_isBetter_79
        · have hF := zt c_9 hF
          refine lv_iconst (v := 1) hx hb dX10_isBetter_74 (by decide) ?_
          refine lv_goto (tgt := 79) hx hb dX10_isBetter_75 (by decide) ?_
          obtain rfl := Option.some.inj hF
          exact hret _ _ (zbool (Or.inr rfl)) dX10_isBetter_79
    · have hF := zf c_6 hF
      by_cases c_10 : p1 = 3
      · have hF := zt c_10 hF
        refine lv_tableIn (tgt := 80) (off := 79) hx hb dX10_isBetter_1 (by rw [c_10]; decide) (by rw [c_10]; decide) (by rw [c_10]; rfl) (by decide) ?_
        refine lv_aload_n hx hb dX10_isBetter_80 rfl (lv_at hl 0 rfl) ?_
        refine va_get (D := D) (ci := 7) (v := .ref (ad_M 12)) (C := RX10) (T := TX10) (N := 58) hx hb hts hin10 hown hK hP 0 rfl rfl 26 (by decide) (hts _ zm_107) (fun _ h9 => h9) rfl dX10_isBetter_81 ?_
        refine lv_iload_n hx hb dX10_isBetter_84 rfl (lv_at hl 2 rfl) ?_
        obtain ⟨h_11, hF⟩ := zgi hF
        refine va_iald hx hb hK hP 12 0 rfl rfl h_11 dX10_isBetter_85 ?_
        refine lv_if_le (tgt := 112) hx hb dX10_isBetter_86 (by decide) (fun c_12 => ?_) (fun c_12 => ?_)
        · have hF := zt c_12 hF
          refine lv_iconst (v := 0) hx hb dX10_isBetter_112 (by decide) ?_
          obtain rfl := Option.some.inj hF
          exact hret _ _ (zbool (Or.inl rfl)) dX10_isBetter_113
        · have hF := zf c_12 hF
          refine lv_iload_n hx hb dX10_isBetter_89 rfl (lv_at hl 3 rfl) ?_
          refine lv_bipush (v := (-4)) hx hb dX10_isBetter_90 (by decide) ?_
          refine lv_icmp_eq (tgt := 108) hx hb dX10_isBetter_92 (by decide) (fun c_13 => ?_) (fun c_13 => ?_)
          · have hF := zt c_13 hF
            refine lv_iconst (v := 1) hx hb dX10_isBetter_108 (by decide) ?_
            refine lv_goto (tgt := 113) hx hb dX10_isBetter_109 (by decide) ?_
            obtain rfl := Option.some.inj hF
            exact hret _ _ (zbool (Or.inr rfl)) dX10_isBetter_113
          · have hF := zf c_13 hF
            refine lv_aload_n hx hb dX10_isBetter_95 rfl (lv_at hl 0 rfl) ?_
            refine lv_iload_n hx hb dX10_isBetter_96 rfl (lv_at hl 2 rfl) ?_
            obtain ⟨o_14, hc_14, hF⟩ := zb hF
            refine zcVR (rest := []) (kX10_topGoes l D ca t ad_M M_guests M_kind M_figure M_told M_heaps M_holds M_back M_mistakes M_hooks M_letters M_rule M_at M_well M_sort M_text M_row M_field M_fields M_begins M_ruleLetters M_coming M_comingMany M_going M_goingMany M_minute M_pile M_high M_where M_latest M_lifts M_begun M_left M_has M_lifted M_taken M_above M_allLifts M_busy M_longest M_onto M_worst M_best M_orders M_together M_ofOne M_ofOther M_seed M_then M_was M_kept M_held M_kindOn M_figureOn M_sorts M_size M_items M_moved M_thrown p2 fuel _ hc_14) ⟨hx, hb, hml, hown, hts⟩ (zcwV hts zm_110 zm_111 zm_112 zm_19 zm_109 rfl rfl zdv_X10_topGoes ⟨Nat.le_of_ble_eq_true rfl, Nat.le_of_ble_eq_true rfl⟩) hA hK hZ hP hD hS [0, 1, 2, 3, 4, 5, 6, 7, 8, 9, 10, 11, 12, 13, 14, 15, 16, 17, 18, 19, 20, 21, 22, 23, 24, 25, 26, 27, 28, 29, 30, 31, 32, 33] rfl rfl 7 0 rfl rfl rfl hl.1 (Nat.le_of_ble_eq_true rfl) dX10_isBetter_97 rfl ?_
            refine lv_aload_n hx hb dX10_isBetter_100 rfl (lv_at hl 0 rfl) ?_
            refine lv_iload_n hx hb dX10_isBetter_101 rfl (lv_at hl 3 rfl) ?_
            obtain ⟨o_15, hc_15, hF⟩ := zb hF
            refine zcVR (rest := [.int o_14]) (kX10_topGoes l D ca t ad_M M_guests M_kind M_figure M_told M_heaps M_holds M_back M_mistakes M_hooks M_letters M_rule M_at M_well M_sort M_text M_row M_field M_fields M_begins M_ruleLetters M_coming M_comingMany M_going M_goingMany M_minute M_pile M_high M_where M_latest M_lifts M_begun M_left M_has M_lifted M_taken M_above M_allLifts M_busy M_longest M_onto M_worst M_best M_orders M_together M_ofOne M_ofOther M_seed M_then M_was M_kept M_held M_kindOn M_figureOn M_sorts M_size M_items M_moved M_thrown p3 fuel _ hc_15) ⟨hx, hb, hml, hown, hts⟩ (zcwV hts zm_110 zm_111 zm_112 zm_19 zm_109 rfl rfl zdv_X10_topGoes ⟨Nat.le_of_ble_eq_true rfl, Nat.le_of_ble_eq_true rfl⟩) hA hK hZ hP hD hS [0, 1, 2, 3, 4, 5, 6, 7, 8, 9, 10, 11, 12, 13, 14, 15, 16, 17, 18, 19, 20, 21, 22, 23, 24, 25, 26, 27, 28, 29, 30, 31, 32, 33] rfl rfl 7 0 rfl rfl rfl hl.1 (Nat.le_of_ble_eq_true rfl) dX10_isBetter_102 rfl ?_
            refine lv_icmp_le (tgt := 112) hx hb dX10_isBetter_105 (by decide) (fun c_16 => ?_) (fun c_16 => ?_)
            · have hF := zt c_16 hF
              refine lv_iconst (v := 0) hx hb dX10_isBetter_112 (by decide) ?_
              obtain rfl := Option.some.inj hF
              exact hret _ _ (zbool (Or.inl rfl)) dX10_isBetter_113
            · have hF := zf c_16 hF
              refine lv_iconst (v := 1) hx hb dX10_isBetter_108 (by decide) ?_
              refine lv_goto (tgt := 113) hx hb dX10_isBetter_109 (by decide) ?_
              obtain rfl := Option.some.inj hF
              exact hret _ _ (zbool (Or.inr rfl)) dX10_isBetter_113
      · have hF := zf c_10 hF
        by_cases c_17 : p1 = 4
        · have hF := zt c_17 hF
          refine lv_tableIn (tgt := 114) (off := 113) hx hb dX10_isBetter_1 (by rw [c_17]; decide) (by rw [c_17]; decide) (by rw [c_17]; rfl) (by decide) ?_
          refine lv_aload_n hx hb dX10_isBetter_114 rfl (lv_at hl 0 rfl) ?_
          refine va_get (D := D) (ci := 7) (v := .ref (ad_M 12)) (C := RX10) (T := TX10) (N := 58) hx hb hts hin10 hown hK hP 0 rfl rfl 26 (by decide) (hts _ zm_107) (fun _ h9 => h9) rfl dX10_isBetter_115 ?_
          refine lv_iload_n hx hb dX10_isBetter_118 rfl (lv_at hl 2 rfl) ?_
          obtain ⟨h_18, hF⟩ := zgi hF
          refine va_iald hx hb hK hP 12 0 rfl rfl h_18 dX10_isBetter_119 ?_
          refine lv_if_le (tgt := 156) hx hb dX10_isBetter_120 (by decide) (fun c_19 => ?_) (fun c_19 => ?_)
          · have hF := zt c_19 hF
            refine lv_iconst (v := 0) hx hb dX10_isBetter_156 (by decide) ?_
            obtain rfl := Option.some.inj hF
            exact hret _ _ (zbool (Or.inl rfl)) dX10_isBetter_157
          · have hF := zf c_19 hF
            refine lv_aload_n hx hb dX10_isBetter_123 rfl (lv_at hl 0 rfl) ?_
            refine lv_iload_n hx hb dX10_isBetter_124 rfl (lv_at hl 2 rfl) ?_
            obtain ⟨o_20, hc_20, hF⟩ := zb hF
            refine zcVR (rest := []) (kX10_topGoes l D ca t ad_M M_guests M_kind M_figure M_told M_heaps M_holds M_back M_mistakes M_hooks M_letters M_rule M_at M_well M_sort M_text M_row M_field M_fields M_begins M_ruleLetters M_coming M_comingMany M_going M_goingMany M_minute M_pile M_high M_where M_latest M_lifts M_begun M_left M_has M_lifted M_taken M_above M_allLifts M_busy M_longest M_onto M_worst M_best M_orders M_together M_ofOne M_ofOther M_seed M_then M_was M_kept M_held M_kindOn M_figureOn M_sorts M_size M_items M_moved M_thrown p2 fuel _ hc_20) ⟨hx, hb, hml, hown, hts⟩ (zcwV hts zm_110 zm_111 zm_112 zm_19 zm_109 rfl rfl zdv_X10_topGoes ⟨Nat.le_of_ble_eq_true rfl, Nat.le_of_ble_eq_true rfl⟩) hA hK hZ hP hD hS [0, 1, 2, 3, 4, 5, 6, 7, 8, 9, 10, 11, 12, 13, 14, 15, 16, 17, 18, 19, 20, 21, 22, 23, 24, 25, 26, 27, 28, 29, 30, 31, 32, 33] rfl rfl 7 0 rfl rfl rfl hl.1 (Nat.le_of_ble_eq_true rfl) dX10_isBetter_125 rfl ?_
            refine lv_iload hx hb dX10_isBetter_128 (lv_at hl 4 rfl) ?_
            refine lv_icmp_le (tgt := 156) hx hb dX10_isBetter_130 (by decide) (fun c_21 => ?_) (fun c_21 => ?_)
            · have hF := zt c_21 hF
              refine lv_iconst (v := 0) hx hb dX10_isBetter_156 (by decide) ?_
              obtain rfl := Option.some.inj hF
              exact hret _ _ (zbool (Or.inl rfl)) dX10_isBetter_157
            · have hF := zf c_21 hF
              refine lv_iload_n hx hb dX10_isBetter_133 rfl (lv_at hl 3 rfl) ?_
              refine lv_bipush (v := (-4)) hx hb dX10_isBetter_134 (by decide) ?_
              refine lv_icmp_eq (tgt := 152) hx hb dX10_isBetter_136 (by decide) (fun c_22 => ?_) (fun c_22 => ?_)
              · have hF := zt c_22 hF
                refine lv_iconst (v := 1) hx hb dX10_isBetter_152 (by decide) ?_
                refine lv_goto (tgt := 157) hx hb dX10_isBetter_153 (by decide) ?_
                obtain rfl := Option.some.inj hF
                exact hret _ _ (zbool (Or.inr rfl)) dX10_isBetter_157
              · have hF := zf c_22 hF
                refine lv_aload_n hx hb dX10_isBetter_139 rfl (lv_at hl 0 rfl) ?_
                refine lv_iload_n hx hb dX10_isBetter_140 rfl (lv_at hl 2 rfl) ?_
                obtain ⟨o_23, hc_23, hF⟩ := zb hF
                refine zcVR (rest := []) (kX10_topGoes l D ca t ad_M M_guests M_kind M_figure M_told M_heaps M_holds M_back M_mistakes M_hooks M_letters M_rule M_at M_well M_sort M_text M_row M_field M_fields M_begins M_ruleLetters M_coming M_comingMany M_going M_goingMany M_minute M_pile M_high M_where M_latest M_lifts M_begun M_left M_has M_lifted M_taken M_above M_allLifts M_busy M_longest M_onto M_worst M_best M_orders M_together M_ofOne M_ofOther M_seed M_then M_was M_kept M_held M_kindOn M_figureOn M_sorts M_size M_items M_moved M_thrown p2 fuel _ hc_23) ⟨hx, hb, hml, hown, hts⟩ (zcwV hts zm_110 zm_111 zm_112 zm_19 zm_109 rfl rfl zdv_X10_topGoes ⟨Nat.le_of_ble_eq_true rfl, Nat.le_of_ble_eq_true rfl⟩) hA hK hZ hP hD hS [0, 1, 2, 3, 4, 5, 6, 7, 8, 9, 10, 11, 12, 13, 14, 15, 16, 17, 18, 19, 20, 21, 22, 23, 24, 25, 26, 27, 28, 29, 30, 31, 32, 33] rfl rfl 7 0 rfl rfl rfl hl.1 (Nat.le_of_ble_eq_true rfl) dX10_isBetter_141 rfl ?_
                refine lv_aload_n hx hb dX10_isBetter_144 rfl (lv_at hl 0 rfl) ?_
                refine lv_iload_n hx hb dX10_isBetter_145 rfl (lv_at hl 3 rfl) ?_
                obtain ⟨o_24, hc_24, hF⟩ := zb hF
                refine zcVR (rest := [.int o_23]) (kX10_topGoes l D ca t ad_M M_guests M_kind M_figure M_told M_heaps M_holds M_back M_mistakes M_hooks M_letters M_rule M_at M_well M_sort M_text M_row M_field M_fields M_begins M_ruleLetters M_coming M_comingMany M_going M_goingMany M_minute M_pile M_high M_where M_latest M_lifts M_begun M_left M_has M_lifted M_taken M_above M_allLifts M_busy M_longest M_onto M_worst M_best M_orders M_together M_ofOne M_ofOther M_seed M_then M_was M_kept M_held M_kindOn M_figureOn M_sorts M_size M_items M_moved M_thrown p3 fuel _ hc_24) ⟨hx, hb, hml, hown, hts⟩ (zcwV hts zm_110 zm_111 zm_112 zm_19 zm_109 rfl rfl zdv_X10_topGoes ⟨Nat.le_of_ble_eq_true rfl, Nat.le_of_ble_eq_true rfl⟩) hA hK hZ hP hD hS [0, 1, 2, 3, 4, 5, 6, 7, 8, 9, 10, 11, 12, 13, 14, 15, 16, 17, 18, 19, 20, 21, 22, 23, 24, 25, 26, 27, 28, 29, 30, 31, 32, 33] rfl rfl 7 0 rfl rfl rfl hl.1 (Nat.le_of_ble_eq_true rfl) dX10_isBetter_146 rfl ?_
                refine lv_icmp_ge (tgt := 156) hx hb dX10_isBetter_149 (by decide) (fun c_25 => ?_) (fun c_25 => ?_)
                · have hF := zt c_25 hF
                  refine lv_iconst (v := 0) hx hb dX10_isBetter_156 (by decide) ?_
                  obtain rfl := Option.some.inj hF
                  exact hret _ _ (zbool (Or.inl rfl)) dX10_isBetter_157
                · have hF := zf c_25 hF
                  refine lv_iconst (v := 1) hx hb dX10_isBetter_152 (by decide) ?_
                  refine lv_goto (tgt := 157) hx hb dX10_isBetter_153 (by decide) ?_
                  obtain rfl := Option.some.inj hF
                  exact hret _ _ (zbool (Or.inr rfl)) dX10_isBetter_157
        · have hF := zf c_17 hF
          refine lv_tableOut (tgt := 158) hx hb dX10_isBetter_1 (ztab (lo := 1) (hi := 4) (fun k h1 h2 => by rcases (show k = 1 ∨ k = 2 ∨ k = 3 ∨ k = 4 by omega) with rfl | rfl | rfl | rfl <;> first | exact c_1 | exact c_6 | exact c_10 | exact c_17)) (by decide) ?_
          refine lv_iload_n hx hb dX10_isBetter_158 rfl (lv_at hl 3 rfl) ?_
          refine lv_bipush (v := (-4)) hx hb dX10_isBetter_159 (by decide) ?_
          refine lv_icmp_ne (tgt := 168) hx hb dX10_isBetter_161 (by decide) (fun c_26 => ?_) (fun c_26 => ?_)
          · have hF := zf c_26 hF
            refine lv_iconst (v := 0) hx hb dX10_isBetter_168 (by decide) ?_
            obtain rfl := Option.some.inj hF
            exact hret _ _ (zbool (Or.inl rfl)) dX10_isBetter_169
          · have hF := zt c_26 hF
            refine lv_iconst (v := 1) hx hb dX10_isBetter_164 (by decide) ?_
            refine lv_goto (tgt := 169) hx hb dX10_isBetter_165 (by decide) ?_
            obtain rfl := Option.some.inj hF
            exact hret _ _ (zbool (Or.inr rfl)) dX10_isBetter_169
theorem zdv_X10_hasRoom : yX10_hasRoom.cls = RX10 ∧ yX10_hasRoom.cls ≠ "java/lang/invoke/MethodHandle" ∧ yX10_hasRoom.cls ≠ "java/lang/invoke/VarHandle" ∧ (parseMethodDescriptor yX10_hasRoom.desc).map (fun d => d.parameters.length) = some 1 := by decide +kernel
theorem zdv_X10_isBetter : yX10_isBetter.cls = RX10 ∧ yX10_isBetter.cls ≠ "java/lang/invoke/MethodHandle" ∧ yX10_isBetter.cls ≠ "java/lang/invoke/VarHandle" ∧ (parseMethodDescriptor yX10_isBetter.desc).map (fun d => d.parameters.length) = some 4 := by decide +kernel
abbrev roX10_heapBy : Room := { frames := 2, cells := 0, slots := 0, locals := 45 }
set_option maxHeartbeats 4000000 in
set_option maxRecDepth 100000 in
theorem kX10_heapBy (l : Launch) (D : va_G) (ca : Nat → ClassId) (t : Nat → Nat) (ad_M : Nat → Nat) (M_guests : Int32) (M_kind : Nat → Int32) (M_figure : Nat → Int32) (M_told : Nat → Int32) (M_heaps : Int32) (M_holds : Int32) (M_back : Int32) (M_mistakes : Int32) (M_hooks : Int32) (M_letters : Int32) (M_rule : Nat → Int32) (M_at : Int32) (M_well : Int32) (M_sort : Int32) (M_text : Int32) (M_row : Int32) (M_field : Nat → Int32) (M_fields : Int32) (M_begins : Nat → Int32) (M_ruleLetters : Nat → Int32) (M_coming : Nat → Int32) (M_comingMany : Int32) (M_going : Nat → Int32) (M_goingMany : Int32) (M_minute : Nat → Int32) (M_pile : Nat → Int32) (M_high : Nat → Int32) (M_where : Nat → Int32) (M_latest : Int32) (M_lifts : Nat → Int32) (M_begun : Nat → Int32) (M_left : Nat → Int32) (M_has : Nat → Int32) (M_lifted : Nat → Int32) (M_taken : Nat → Int32) (M_above : Nat → Int32) (M_allLifts : Int32) (M_busy : Int32) (M_longest : Nat → Int32) (M_onto : Nat → Int32) (M_worst : Int32) (M_best : Int32) (M_orders : Int32) (M_together : Int32) (M_ofOne : Nat → Int32) (M_ofOther : Nat → Int32) (M_seed : Int32) (M_then : Nat → Int32) (M_was : Nat → Int32) (M_kept : Int32) (M_held : Nat → Int32) (M_kindOn : Nat → Int32) (M_figureOn : Nat → Int32) (M_sorts : Nat → Int32) (M_size : Nat → Int32) (M_items : Nat → Int32) (M_moved : Nat → Int32) (M_thrown : Int32) (p1 : Int32) (p2 : Int32) (fuel : Nat) (o : Int32) (hF : fX10_heapBy fuel M_heaps M_holds M_minute M_pile M_high M_latest p1 p2 = some o) : zRi l D (zT ca) t yX10_heapBy (.code yX10_heapBy cX10_heapBy 6 (some .int) :: zW) roX10_heapBy [.ref (ad_M 0), .int p1, .int p2] (wX10_M ca ad_M M_guests M_kind M_figure M_told M_heaps M_holds M_back M_mistakes M_hooks M_letters M_rule M_at M_well M_sort M_text M_row M_field M_fields M_begins M_ruleLetters M_coming M_comingMany M_going M_goingMany M_minute M_pile M_high M_where M_latest M_lifts M_begun M_left M_has M_lifted M_taken M_above M_allLifts M_busy M_longest M_onto M_worst M_best M_orders M_together M_ofOne M_ofOther M_seed M_then M_was M_kept M_held M_kindOn M_figureOn M_sorts M_size M_items M_moved M_thrown) o := by
  refine zRi_of (cc := cX10_heapBy) (maxL := 6) (by decide) rfl (Nat.le_of_ble_eq_true rfl) ?_
  intro p e s m args below meth c A Q ls ⟨hx, hb, hml, hown, hts, hA, hK, hZ, hS⟩ hret hP hD hl
  have hts := fun w h => hts w (List.mem_cons_of_mem _ h)
  have hown : s.vm.findClass RX10 = some m.cls := hown
  have hl : lv_has ls 6 [(0, .ref (ad_M 0)), (1, .int p1), (2, .int p2)] := hl
  have hin10 := zin_X10
  have l6 : ∀ (n6 : Nat) (v3 : Int32) (v4 : Int32), fX10_heapBy_L6 fuel M_heaps M_holds M_minute M_pile M_high M_latest p1 p2 n6 v3 v4 = some o → ∀ ls : Array Slot, lv_has ls 6 [(0, .ref (ad_M 0)), (1, .int p1), (2, .int p2), (3, .int v3), (4, .int v4)] → W p l e roX10_heapBy s m args below meth c s.heap [] 0 0 Q (F0 m 6 ls []) := by
    intro n6
    induction n6 with
    | zero =>
      intro v3 v4 hF
      rw [fX10_heapBy_L6] at hF
      cases hF
    | succ n6 ih6 =>
      have j76 : ∀ (v3 : Int32) (v4 : Int32), fX10_heapBy_J76 (fX10_heapBy_L6 fuel M_heaps M_holds M_minute M_pile M_high M_latest p1 p2 n6) v3 v4 = some o → ∀ ls : Array Slot, lv_has ls 6 [(0, .ref (ad_M 0)), (1, .int p1), (2, .int p2), (3, .int v3), (4, .int v4)] → W p l e roX10_heapBy s m args below meth c s.heap [] 0 0 Q (F0 m 76 ls []) := by
        intro v3 v4 hF ls hl
        unfold fX10_heapBy_J76 at hF
        refine lv_iload_n hx hb dX10_heapBy_76 rfl (lv_at hl 3 rfl) ?_
        refine lv_istore_n (lv' := [(3, .int v3), (0, .ref (ad_M 0)), (1, .int p1), (2, .int p2), (4, .int v4)]) hx hb dX10_heapBy_77 rfl hl (by decide) rfl (fun ls hl => ?_)
        refine z_iinc (kv := 1) hx hb 4 dX10_heapBy_78 hl rfl (by decide) (by decide) (fun g => [(4, .int g), (3, .int v3), (0, .ref (ad_M 0)), (1, .int p1), (2, .int p2)]) (fun _ => rfl) hF (fun v4_16 ls hF hl => ?_)
        refine lv_goto (tgt := 6) hx hb dX10_heapBy_81 (by decide) ?_
        exact ih6 v3 v4_16 hF ls (lv_sub hl [2, 3, 4, 1, 0] rfl)
      have j46 : ∀ (v3 : Int32) (v4 : Int32), fX10_heapBy_J46 fuel M_holds M_minute M_pile M_high p1 p2 (fX10_heapBy_L6 fuel M_heaps M_holds M_minute M_pile M_high M_latest p1 p2 n6) v3 v4 = some o → ∀ ls : Array Slot, lv_has ls 6 [(0, .ref (ad_M 0)), (1, .int p1), (2, .int p2), (3, .int v3), (4, .int v4)] → W p l e roX10_heapBy s m args below meth c s.heap [] 0 0 Q (F0 m 46 ls []) := by
        intro v3 v4 hF ls hl
        unfold fX10_heapBy_J46 at hF
        refine lv_iload hx hb dX10_heapBy_46 (lv_at hl 4 rfl) ?_
        refine lv_istore (lv' := [(5, .int v4), (0, .ref (ad_M 0)), (1, .int p1), (2, .int p2), (3, .int v3), (4, .int v4)]) hx hb dX10_heapBy_48 hl (by decide) rfl (fun ls hl => ?_)
        refine lv_aload_n hx hb dX10_heapBy_50 rfl (lv_at hl 1 rfl) ?_
        refine lv_iload hx hb dX10_heapBy_51 (lv_at hl 0 rfl) ?_
        obtain ⟨o_11, hc_11, hF⟩ := zb hF
        refine zcVR (rest := []) (kX10_hasRoom l D ca t ad_M M_guests M_kind M_figure M_told M_heaps M_holds M_back M_mistakes M_hooks M_letters M_rule M_at M_well M_sort M_text M_row M_field M_fields M_begins M_ruleLetters M_coming M_comingMany M_going M_goingMany M_minute M_pile M_high M_where M_latest M_lifts M_begun M_left M_has M_lifted M_taken M_above M_allLifts M_busy M_longest M_onto M_worst M_best M_orders M_together M_ofOne M_ofOther M_seed M_then M_was M_kept M_held M_kindOn M_figureOn M_sorts M_size M_items M_moved M_thrown v4 fuel _ hc_11) ⟨hx, hb, hml, hown, hts⟩ (zcwV hts zm_115 zm_116 zm_117 zm_19 zm_114 rfl rfl zdv_X10_hasRoom ⟨Nat.le_of_ble_eq_true rfl, Nat.le_of_ble_eq_true rfl⟩) hA hK hZ hP hD hS [0, 1, 2, 3, 4, 5, 6, 7, 8, 9, 10, 11, 12, 13, 14, 15, 16, 17, 18, 19, 20, 21, 22, 23, 24, 25, 26, 27, 28, 29, 30, 31, 32, 33] rfl rfl 7 0 rfl rfl rfl hl.1 (Nat.le_of_ble_eq_true rfl) dX10_heapBy_53 rfl ?_
        refine lv_if_eq (tgt := 76) hx hb dX10_heapBy_56 (by decide) (fun c_12 => ?_) (fun c_12 => ?_)
        · have hF := zt c_12 hF
          exact j76 v3 v4 hF ls (lv_sub hl [1, 2, 3, 4, 5] rfl)
        · have hF := zf c_12 hF
          refine lv_aload_n hx hb dX10_heapBy_59 rfl (lv_at hl 1 rfl) ?_
          refine lv_iload_n hx hb dX10_heapBy_60 rfl (lv_at hl 2 rfl) ?_
          refine lv_iload hx hb dX10_heapBy_61 (lv_at hl 0 rfl) ?_
          refine lv_iload_n hx hb dX10_heapBy_63 rfl (lv_at hl 4 rfl) ?_
          refine lv_iload_n hx hb dX10_heapBy_64 rfl (lv_at hl 3 rfl) ?_
          obtain ⟨o_13, hc_13, hF⟩ := zb hF
          refine zcVR (rest := []) (kX10_isBetter l D ca t ad_M M_guests M_kind M_figure M_told M_heaps M_holds M_back M_mistakes M_hooks M_letters M_rule M_at M_well M_sort M_text M_row M_field M_fields M_begins M_ruleLetters M_coming M_comingMany M_going M_goingMany M_minute M_pile M_high M_where M_latest M_lifts M_begun M_left M_has M_lifted M_taken M_above M_allLifts M_busy M_longest M_onto M_worst M_best M_orders M_together M_ofOne M_ofOther M_seed M_then M_was M_kept M_held M_kindOn M_figureOn M_sorts M_size M_items M_moved M_thrown p1 v4 v3 p2 fuel _ hc_13) ⟨hx, hb, hml, hown, hts⟩ (zcwV hts zm_119 zm_120 zm_121 zm_19 zm_118 rfl rfl zdv_X10_isBetter ⟨Nat.le_of_ble_eq_true rfl, Nat.le_of_ble_eq_true rfl⟩) hA hK hZ hP hD hS [0, 1, 2, 3, 4, 5, 6, 7, 8, 9, 10, 11, 12, 13, 14, 15, 16, 17, 18, 19, 20, 21, 22, 23, 24, 25, 26, 27, 28, 29, 30, 31, 32, 33] rfl rfl 7 0 rfl rfl rfl hl.1 (Nat.le_of_ble_eq_true rfl) dX10_heapBy_65 rfl ?_
          refine lv_if_eq (tgt := 76) hx hb dX10_heapBy_68 (by decide) (fun c_14 => ?_) (fun c_14 => ?_)
          · have hF := zt c_14 hF
            exact j76 v3 v4 hF ls (lv_sub hl [1, 2, 3, 4, 5] rfl)
          · have hF := zf c_14 hF
            refine lv_iload hx hb dX10_heapBy_71 (lv_at hl 0 rfl) ?_
            refine lv_goto (tgt := 77) hx hb dX10_heapBy_73 (by decide) ?_
            refine lv_istore_n (lv' := [(3, .int v4), (5, .int v4), (0, .ref (ad_M 0)), (1, .int p1), (2, .int p2), (4, .int v4)]) hx hb dX10_heapBy_77 rfl hl (by decide) rfl (fun ls hl => ?_)
            refine z_iinc (kv := 1) hx hb 5 dX10_heapBy_78 hl rfl (by decide) (by decide) (fun g => [(4, .int g), (3, .int v4), (5, .int v4), (0, .ref (ad_M 0)), (1, .int p1), (2, .int p2)]) (fun _ => rfl) hF (fun v4_15 ls hF hl => ?_)
            refine lv_goto (tgt := 6) hx hb dX10_heapBy_81 (by decide) ?_
            exact ih6 v4 v4_15 hF ls (lv_sub hl [3, 4, 5, 1, 0] rfl)
      intro v3 v4 hF ls hl
      rw [fX10_heapBy_L6] at hF
      refine lv_iload hx hb dX10_heapBy_6 (lv_at hl 4 rfl) ?_
      refine lv_aload_n hx hb dX10_heapBy_8 rfl (lv_at hl 0 rfl) ?_
      refine va_get (D := D) (ci := 7) (v := .int M_heaps) (C := RX10) (T := TX10) (N := 58) hx hb hts hin10 hown hK hP 0 rfl rfl 4 (by decide) (hts _ zm_58) (fun _ h9 => h9) rfl dX10_heapBy_9 ?_
      refine lv_icmp_ge (tgt := 84) hx hb dX10_heapBy_12 (by decide) (fun c_1 => ?_) (fun c_1 => ?_)
      · have hF := zt c_1 hF
        refine lv_iload_n hx hb dX10_heapBy_84 rfl (lv_at hl 3 rfl) ?_
        obtain rfl := Option.some.inj hF
        exact hret _ _ rfl dX10_heapBy_85
      · have hF := zf c_1 hF
        refine lv_iload_n hx hb dX10_heapBy_15 rfl (lv_at hl 1 rfl) ?_
        refine lv_iconst (v := 5) hx hb dX10_heapBy_16 (by decide) ?_
        refine lv_icmp_ne (tgt := 46) hx hb dX10_heapBy_17 (by decide) (fun c_2 => ?_) (fun c_2 => ?_)
        · have hF := zf c_2 hF
          exact j46 v3 v4 hF ls (lv_sub hl [0, 1, 2, 3, 4] rfl)
        · have hF := zt c_2 hF
          refine lv_aload_n hx hb dX10_heapBy_20 rfl (lv_at hl 0 rfl) ?_
          refine va_get (D := D) (ci := 7) (v := .int M_latest) (C := RX10) (T := TX10) (N := 58) hx hb hts hin10 hown hK hP 0 rfl rfl 28 (by decide) (hts _ zm_113) (fun _ h9 => h9) rfl dX10_heapBy_21 ?_
          refine lv_bipush (v := (-4)) hx hb dX10_heapBy_24 (by decide) ?_
          refine lv_icmp_eq (tgt := 46) hx hb dX10_heapBy_26 (by decide) (fun c_3 => ?_) (fun c_3 => ?_)
          · have hF := zt c_3 hF
            exact j46 v3 v4 hF ls (lv_sub hl [0, 1, 2, 3, 4] rfl)
          · have hF := zf c_3 hF
            refine lv_aload_n hx hb dX10_heapBy_29 rfl (lv_at hl 0 rfl) ?_
            refine va_get (D := D) (ci := 7) (v := .int M_latest) (C := RX10) (T := TX10) (N := 58) hx hb hts hin10 hown hK hP 0 rfl rfl 28 (by decide) (hts _ zm_113) (fun _ h9 => h9) rfl dX10_heapBy_30 ?_
            refine lv_iconst (v := 1) hx hb dX10_heapBy_33 (by decide) ?_
            refine lv_iadd hx hb dX10_heapBy_34 ?_
            refine lv_iload hx hb dX10_heapBy_35 (lv_at hl 4 rfl) ?_
            refine lv_iadd hx hb dX10_heapBy_37 ?_
            refine lv_aload_n hx hb dX10_heapBy_38 rfl (lv_at hl 0 rfl) ?_
            refine va_get (D := D) (ci := 7) (v := .int M_heaps) (C := RX10) (T := TX10) (N := 58) hx hb hts hin10 hown hK hP 0 rfl rfl 4 (by decide) (hts _ zm_58) (fun _ h9 => h9) rfl dX10_heapBy_39 ?_
            obtain ⟨h_4, hF⟩ := zgd hF
            refine lv_irem hx hb dX10_heapBy_42 h_4 ?_
            refine z_let hF (fun x_5 hF => ?_)
            refine lv_goto (tgt := 48) hx hb dX10_heapBy_43 (by decide) ?_
            refine lv_istore (lv' := [(5, .int x_5), (0, .ref (ad_M 0)), (1, .int p1), (2, .int p2), (3, .int v3), (4, .int v4)]) hx hb dX10_heapBy_48 hl (by decide) rfl (fun ls hl => ?_)
            refine lv_aload_n hx hb dX10_heapBy_50 rfl (lv_at hl 1 rfl) ?_
            refine lv_iload hx hb dX10_heapBy_51 (lv_at hl 0 rfl) ?_
            obtain ⟨o_6, hc_6, hF⟩ := zb hF
            refine zcVR (rest := []) (kX10_hasRoom l D ca t ad_M M_guests M_kind M_figure M_told M_heaps M_holds M_back M_mistakes M_hooks M_letters M_rule M_at M_well M_sort M_text M_row M_field M_fields M_begins M_ruleLetters M_coming M_comingMany M_going M_goingMany M_minute M_pile M_high M_where M_latest M_lifts M_begun M_left M_has M_lifted M_taken M_above M_allLifts M_busy M_longest M_onto M_worst M_best M_orders M_together M_ofOne M_ofOther M_seed M_then M_was M_kept M_held M_kindOn M_figureOn M_sorts M_size M_items M_moved M_thrown x_5 fuel _ hc_6) ⟨hx, hb, hml, hown, hts⟩ (zcwV hts zm_115 zm_116 zm_117 zm_19 zm_114 rfl rfl zdv_X10_hasRoom ⟨Nat.le_of_ble_eq_true rfl, Nat.le_of_ble_eq_true rfl⟩) hA hK hZ hP hD hS [0, 1, 2, 3, 4, 5, 6, 7, 8, 9, 10, 11, 12, 13, 14, 15, 16, 17, 18, 19, 20, 21, 22, 23, 24, 25, 26, 27, 28, 29, 30, 31, 32, 33] rfl rfl 7 0 rfl rfl rfl hl.1 (Nat.le_of_ble_eq_true rfl) dX10_heapBy_53 rfl ?_
            refine lv_if_eq (tgt := 76) hx hb dX10_heapBy_56 (by decide) (fun c_7 => ?_) (fun c_7 => ?_)
            · have hF := zt c_7 hF
              exact j76 v3 v4 hF ls (lv_sub hl [1, 2, 3, 4, 5] rfl)
            · have hF := zf c_7 hF
              refine lv_aload_n hx hb dX10_heapBy_59 rfl (lv_at hl 1 rfl) ?_
              refine lv_iload_n hx hb dX10_heapBy_60 rfl (lv_at hl 2 rfl) ?_
              refine lv_iload hx hb dX10_heapBy_61 (lv_at hl 0 rfl) ?_
              refine lv_iload_n hx hb dX10_heapBy_63 rfl (lv_at hl 4 rfl) ?_
              refine lv_iload_n hx hb dX10_heapBy_64 rfl (lv_at hl 3 rfl) ?_
              obtain ⟨o_8, hc_8, hF⟩ := zb hF
              refine zcVR (rest := []) (kX10_isBetter l D ca t ad_M M_guests M_kind M_figure M_told M_heaps M_holds M_back M_mistakes M_hooks M_letters M_rule M_at M_well M_sort M_text M_row M_field M_fields M_begins M_ruleLetters M_coming M_comingMany M_going M_goingMany M_minute M_pile M_high M_where M_latest M_lifts M_begun M_left M_has M_lifted M_taken M_above M_allLifts M_busy M_longest M_onto M_worst M_best M_orders M_together M_ofOne M_ofOther M_seed M_then M_was M_kept M_held M_kindOn M_figureOn M_sorts M_size M_items M_moved M_thrown p1 x_5 v3 p2 fuel _ hc_8) ⟨hx, hb, hml, hown, hts⟩ (zcwV hts zm_119 zm_120 zm_121 zm_19 zm_118 rfl rfl zdv_X10_isBetter ⟨Nat.le_of_ble_eq_true rfl, Nat.le_of_ble_eq_true rfl⟩) hA hK hZ hP hD hS [0, 1, 2, 3, 4, 5, 6, 7, 8, 9, 10, 11, 12, 13, 14, 15, 16, 17, 18, 19, 20, 21, 22, 23, 24, 25, 26, 27, 28, 29, 30, 31, 32, 33] rfl rfl 7 0 rfl rfl rfl hl.1 (Nat.le_of_ble_eq_true rfl) dX10_heapBy_65 rfl ?_
              refine lv_if_eq (tgt := 76) hx hb dX10_heapBy_68 (by decide) (fun c_9 => ?_) (fun c_9 => ?_)
              · have hF := zt c_9 hF
                exact j76 v3 v4 hF ls (lv_sub hl [1, 2, 3, 4, 5] rfl)
              · have hF := zf c_9 hF
                refine lv_iload hx hb dX10_heapBy_71 (lv_at hl 0 rfl) ?_
                refine lv_goto (tgt := 77) hx hb dX10_heapBy_73 (by decide) ?_
                refine lv_istore_n (lv' := [(3, .int x_5), (5, .int x_5), (0, .ref (ad_M 0)), (1, .int p1), (2, .int p2), (4, .int v4)]) hx hb dX10_heapBy_77 rfl hl (by decide) rfl (fun ls hl => ?_)
                refine z_iinc (kv := 1) hx hb 5 dX10_heapBy_78 hl rfl (by decide) (by decide) (fun g => [(4, .int g), (3, .int x_5), (5, .int x_5), (0, .ref (ad_M 0)), (1, .int p1), (2, .int p2)]) (fun _ => rfl) hF (fun v4_10 ls hF hl => ?_)
                refine lv_goto (tgt := 6) hx hb dX10_heapBy_81 (by decide) ?_
                exact ih6 x_5 v4_10 hF ls (lv_sub hl [3, 4, 5, 1, 0] rfl)
  unfold fX10_heapBy at hF
  refine lv_bipush (v := (-4)) hx hb dX10_heapBy_0 (by decide) ?_
  refine lv_istore_n (lv' := [(3, .int (-4)), (0, .ref (ad_M 0)), (1, .int p1), (2, .int p2)]) hx hb dX10_heapBy_2 rfl hl (by decide) rfl (fun ls hl => ?_)
  refine lv_iconst (v := 0) hx hb dX10_heapBy_3 (by decide) ?_
  refine lv_istore (lv' := [(4, .int 0), (3, .int (-4)), (0, .ref (ad_M 0)), (1, .int p1), (2, .int p2)]) hx hb dX10_heapBy_4 hl (by decide) rfl (fun ls hl => ?_)
  exact l6 fuel (-4) 0 hF ls (lv_sub hl [2, 3, 4, 1, 0] rfl)
