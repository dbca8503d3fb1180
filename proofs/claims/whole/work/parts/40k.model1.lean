theorem zdv_X10_heapBy : yX10_heapBy.cls = RX10 ∧ yX10_heapBy.cls ≠ "java/lang/invoke/MethodHandle" ∧ yX10_heapBy.cls ≠ "java/lang/invoke/VarHandle" ∧ (parseMethodDescriptor yX10_heapBy.desc).map (fun d => d.parameters.length) = some 2 := by decide +kernel
abbrev roX10_heapFor : Room := { frames := 3, cells := 0, slots := 0, locals := 70 }
set_option maxHeartbeats 4000000 in
set_option maxRecDepth 100000 in
theorem kX10_heapFor (l : Launch) (D : va_G) (ca : Nat → ClassId) (t : Nat → Nat) (ad_M : Nat → Nat) (M_guests : Int32) (M_kind : Nat → Int32) (M_figure : Nat → Int32) (M_told : Nat → Int32) (M_heaps : Int32) (M_holds : Int32) (M_back : Int32) (M_mistakes : Int32) (M_hooks : Int32) (M_letters : Int32) (M_rule : Nat → Int32) (M_at : Int32) (M_well : Int32) (M_sort : Int32) (M_text : Int32) (M_row : Int32) (M_field : Nat → Int32) (M_fields : Int32) (M_begins : Nat → Int32) (M_ruleLetters : Nat → Int32) (M_coming : Nat → Int32) (M_comingMany : Int32) (M_going : Nat → Int32) (M_goingMany : Int32) (M_minute : Nat → Int32) (M_pile : Nat → Int32) (M_high : Nat → Int32) (M_where : Nat → Int32) (M_latest : Int32) (M_lifts : Nat → Int32) (M_begun : Nat → Int32) (M_left : Nat → Int32) (M_has : Nat → Int32) (M_lifted : Nat → Int32) (M_taken : Nat → Int32) (M_above : Nat → Int32) (M_allLifts : Int32) (M_busy : Int32) (M_longest : Nat → Int32) (M_onto : Nat → Int32) (M_worst : Int32) (M_best : Int32) (M_orders : Int32) (M_together : Int32) (M_ofOne : Nat → Int32) (M_ofOther : Nat → Int32) (M_seed : Int32) (M_then : Nat → Int32) (M_was : Nat → Int32) (M_kept : Int32) (M_held : Nat → Int32) (M_kindOn : Nat → Int32) (M_figureOn : Nat → Int32) (M_sorts : Nat → Int32) (M_size : Nat → Int32) (M_items : Nat → Int32) (M_moved : Nat → Int32) (M_thrown : Int32) (p1 : Int32) (fuel : Nat) (o : Int32) (hF : fX10_heapFor fuel M_heaps M_holds M_letters M_rule M_minute M_pile M_high M_latest p1 = some o) : zRi l D (zT ca) t yX10_heapFor (.code yX10_heapFor cX10_heapFor 4 (some .int) :: zW) roX10_heapFor [.ref (ad_M 0), .int p1] (wX10_M ca ad_M M_guests M_kind M_figure M_told M_heaps M_holds M_back M_mistakes M_hooks M_letters M_rule M_at M_well M_sort M_text M_row M_field M_fields M_begins M_ruleLetters M_coming M_comingMany M_going M_goingMany M_minute M_pile M_high M_where M_latest M_lifts M_begun M_left M_has M_lifted M_taken M_above M_allLifts M_busy M_longest M_onto M_worst M_best M_orders M_together M_ofOne M_ofOther M_seed M_then M_was M_kept M_held M_kindOn M_figureOn M_sorts M_size M_items M_moved M_thrown) o := by
  refine zRi_of (cc := cX10_heapFor) (maxL := 4) (by decide) rfl (Nat.le_of_ble_eq_true rfl) ?_
  intro p e s m args below meth c A Q ls ⟨hx, hb, hml, hown, hts, hA, hK, hZ, hS⟩ hret hP hD hl
  have hts := fun w h => hts w (List.mem_cons_of_mem _ h)
  have hown : s.vm.findClass RX10 = some m.cls := hown
  have hl : lv_has ls 4 [(0, .ref (ad_M 0)), (1, .int p1)] := hl
  have hin10 := zin_X10
  have j42 : ∀ (v2 : Int32), fX10_heapFor_J42 fuel M_heaps M_holds M_minute M_pile M_high M_latest p1 v2 = some o → ∀ ls : Array Slot, lv_has ls 4 [(0, .ref (ad_M 0)), (1, .int p1), (2, .int v2)] → W p l e roX10_heapFor s m args below meth c s.heap [] 0 0 Q (F0 m 42 ls []) := by
    intro v2 hF ls hl
    unfold fX10_heapFor_J42 at hF
    refine lv_iload_n hx hb dX10_heapFor_42 rfl (lv_at hl 2 rfl) ?_
    refine lv_bipush (v := (-4)) hx hb dX10_heapFor_43 (by decide) ?_
    refine lv_icmp_ne (tgt := 62) hx hb dX10_heapFor_45 (by decide) (fun c_7 => ?_) (fun c_7 => ?_)
    · have hF := zf c_7 hF
      refine lv_iload_n hx hb dX10_heapFor_62 rfl (lv_at hl 2 rfl) ?_
      obtain rfl := Option.some.inj hF
      exact hret _ _ rfl dX10_heapFor_63
    · have hF := zt c_7 hF
      refine lv_aload_n hx hb dX10_heapFor_48 rfl (lv_at hl 0 rfl) ?_
      refine lv_iconst (v := 0) hx hb dX10_heapFor_49 (by decide) ?_
      refine lv_aload_n hx hb dX10_heapFor_50 rfl (lv_at hl 0 rfl) ?_
      refine va_get (D := D) (ci := 7) (v := .ref (ad_M 10)) (C := RX10) (T := TX10) (N := 58) hx hb hts hin10 hown hK hP 0 rfl rfl 24 (by decide) (hts _ zm_85) (fun _ h9 => h9) rfl dX10_heapFor_51 ?_
      refine lv_iload_n hx hb dX10_heapFor_54 rfl (lv_at hl 1 rfl) ?_
      obtain ⟨h_8, hF⟩ := zgi hF
      refine va_iald hx hb hK hP 10 0 rfl rfl h_8 dX10_heapFor_55 ?_
      obtain ⟨o_9, hc_9, hF⟩ := zb hF
      refine zcVR (rest := []) (kX10_heapBy l D ca t ad_M M_guests M_kind M_figure M_told M_heaps M_holds M_back M_mistakes M_hooks M_letters M_rule M_at M_well M_sort M_text M_row M_field M_fields M_begins M_ruleLetters M_coming M_comingMany M_going M_goingMany M_minute M_pile M_high M_where M_latest M_lifts M_begun M_left M_has M_lifted M_taken M_above M_allLifts M_busy M_longest M_onto M_worst M_best M_orders M_together M_ofOne M_ofOther M_seed M_then M_was M_kept M_held M_kindOn M_figureOn M_sorts M_size M_items M_moved M_thrown 0 (M_minute p1.toNatClampNeg) fuel _ hc_9) ⟨hx, hb, hml, hown, hts⟩ (zcwV hts zm_123 zm_124 zm_125 zm_19 zm_122 rfl rfl zdv_X10_heapBy ⟨Nat.le_of_ble_eq_true rfl, Nat.le_of_ble_eq_true rfl⟩) hA hK hZ hP hD hS [0, 1, 2, 3, 4, 5, 6, 7, 8, 9, 10, 11, 12, 13, 14, 15, 16, 17, 18, 19, 20, 21, 22, 23, 24, 25, 26, 27, 28, 29, 30, 31, 32, 33] rfl rfl 7 0 rfl rfl rfl hl.1 (Nat.le_of_ble_eq_true rfl) dX10_heapFor_56 rfl ?_
      refine lv_goto (tgt := 63) hx hb dX10_heapFor_59 (by decide) ?_
      obtain rfl := Option.some.inj hF
      exact hret _ _ rfl dX10_heapFor_63
  have l5 : ∀ (n5 : Nat) (v2 : Int32) (v3 : Int32), fX10_heapFor_L5 fuel M_heaps M_holds M_letters M_rule M_minute M_pile M_high M_latest p1 n5 v2 v3 = some o → ∀ ls : Array Slot, lv_has ls 4 [(0, .ref (ad_M 0)), (1, .int p1), (2, .int v2), (3, .int v3)] → W p l e roX10_heapFor s m args below meth c s.heap [] 0 0 Q (F0 m 5 ls []) := by
    intro n5
    induction n5 with
    | zero =>
      intro v2 v3 hF
      rw [fX10_heapFor_L5] at hF
      cases hF
    | succ n5 ih5 =>
      intro v2 v3 hF ls hl
      rw [fX10_heapFor_L5] at hF
      refine lv_iload_n hx hb dX10_heapFor_5 rfl (lv_at hl 3 rfl) ?_
      refine lv_aload_n hx hb dX10_heapFor_6 rfl (lv_at hl 0 rfl) ?_
      refine va_get (D := D) (ci := 7) (v := .int M_letters) (C := RX10) (T := TX10) (N := 58) hx hb hts hin10 hown hK hP 0 rfl rfl 9 (by decide) (hts _ zm_73) (fun _ h9 => h9) rfl dX10_heapFor_7 ?_
      refine lv_icmp_ge (tgt := 42) hx hb dX10_heapFor_10 (by decide) (fun c_1 => ?_) (fun c_1 => ?_)
      · have hF := zt c_1 hF
        exact j42 v2 hF ls (lv_sub hl [0, 1, 2] rfl)
      · have hF := zf c_1 hF
        refine lv_iload_n hx hb dX10_heapFor_13 rfl (lv_at hl 2 rfl) ?_
        refine lv_bipush (v := (-4)) hx hb dX10_heapFor_14 (by decide) ?_
        refine lv_icmp_ne (tgt := 42) hx hb dX10_heapFor_16 (by decide) (fun c_2 => ?_) (fun c_2 => ?_)
        · have hF := zf c_2 hF
          exact j42 v2 hF ls (lv_sub hl [0, 1, 2] rfl)
        · have hF := zt c_2 hF
          refine lv_aload_n hx hb dX10_heapFor_19 rfl (lv_at hl 0 rfl) ?_
          refine lv_aload_n hx hb dX10_heapFor_20 rfl (lv_at hl 0 rfl) ?_
          refine va_get (D := D) (ci := 7) (v := .ref (ad_M 4)) (C := RX10) (T := TX10) (N := 58) hx hb hts hin10 hown hK hP 0 rfl rfl 10 (by decide) (hts _ zm_78) (fun _ h9 => h9) rfl dX10_heapFor_21 ?_
          refine lv_iload_n hx hb dX10_heapFor_24 rfl (lv_at hl 3 rfl) ?_
          obtain ⟨h_3, hF⟩ := zgi hF
          refine va_iald hx hb hK hP 4 0 rfl rfl h_3 dX10_heapFor_25 ?_
          refine lv_aload_n hx hb dX10_heapFor_26 rfl (lv_at hl 0 rfl) ?_
          refine va_get (D := D) (ci := 7) (v := .ref (ad_M 10)) (C := RX10) (T := TX10) (N := 58) hx hb hts hin10 hown hK hP 0 rfl rfl 24 (by decide) (hts _ zm_85) (fun _ h9 => h9) rfl dX10_heapFor_27 ?_
          refine lv_iload_n hx hb dX10_heapFor_30 rfl (lv_at hl 1 rfl) ?_
          obtain ⟨h_4, hF⟩ := zgi hF
          refine va_iald hx hb hK hP 10 0 rfl rfl h_4 dX10_heapFor_31 ?_
          obtain ⟨o_5, hc_5, hF⟩ := zb hF
          refine zcVR (rest := []) (kX10_heapBy l D ca t ad_M M_guests M_kind M_figure M_told M_heaps M_holds M_back M_mistakes M_hooks M_letters M_rule M_at M_well M_sort M_text M_row M_field M_fields M_begins M_ruleLetters M_coming M_comingMany M_going M_goingMany M_minute M_pile M_high M_where M_latest M_lifts M_begun M_left M_has M_lifted M_taken M_above M_allLifts M_busy M_longest M_onto M_worst M_best M_orders M_together M_ofOne M_ofOther M_seed M_then M_was M_kept M_held M_kindOn M_figureOn M_sorts M_size M_items M_moved M_thrown (M_rule v3.toNatClampNeg) (M_minute p1.toNatClampNeg) fuel _ hc_5) ⟨hx, hb, hml, hown, hts⟩ (zcwV hts zm_123 zm_124 zm_125 zm_19 zm_122 rfl rfl zdv_X10_heapBy ⟨Nat.le_of_ble_eq_true rfl, Nat.le_of_ble_eq_true rfl⟩) hA hK hZ hP hD hS [0, 1, 2, 3, 4, 5, 6, 7, 8, 9, 10, 11, 12, 13, 14, 15, 16, 17, 18, 19, 20, 21, 22, 23, 24, 25, 26, 27, 28, 29, 30, 31, 32, 33] rfl rfl 7 0 rfl rfl rfl hl.1 (Nat.le_of_ble_eq_true rfl) dX10_heapFor_32 rfl ?_
          refine lv_istore_n (lv' := [(2, .int o_5), (0, .ref (ad_M 0)), (1, .int p1), (3, .int v3)]) hx hb dX10_heapFor_35 rfl hl (by decide) rfl (fun ls hl => ?_)
          refine z_iinc (kv := 1) hx hb 3 dX10_heapFor_36 hl rfl (by decide) (by decide) (fun g => [(3, .int g), (2, .int o_5), (0, .ref (ad_M 0)), (1, .int p1)]) (fun _ => rfl) hF (fun v3_6 ls hF hl => ?_)
          refine lv_goto (tgt := 5) hx hb dX10_heapFor_39 (by decide) ?_
          exact ih5 o_5 v3_6 hF ls (lv_sub hl [2, 3, 1, 0] rfl)
  unfold fX10_heapFor at hF
  refine lv_bipush (v := (-4)) hx hb dX10_heapFor_0 (by decide) ?_
  refine lv_istore_n (lv' := [(2, .int (-4)), (0, .ref (ad_M 0)), (1, .int p1)]) hx hb dX10_heapFor_2 rfl hl (by decide) rfl (fun ls hl => ?_)
  refine lv_iconst (v := 0) hx hb dX10_heapFor_3 (by decide) ?_
  refine lv_istore_n (lv' := [(3, .int 0), (2, .int (-4)), (0, .ref (ad_M 0)), (1, .int p1)]) hx hb dX10_heapFor_4 rfl hl (by decide) rfl (fun ls hl => ?_)
  exact l5 fuel (-4) 0 hF ls (lv_sub hl [2, 3, 1, 0] rfl)
abbrev roX10_putOn : Room := { frames := 0, cells := 0, slots := 0, locals := 0 }
set_option maxHeartbeats 4000000 in
set_option maxRecDepth 100000 in
theorem kX10_putOn (l : Launch) (D : va_G) (ca : Nat → ClassId) (t : Nat → Nat) (ad_M : Nat → Nat) (M_guests : Int32) (M_kind : Nat → Int32) (M_figure : Nat → Int32) (M_told : Nat → Int32) (M_heaps : Int32) (M_holds : Int32) (M_back : Int32) (M_mistakes : Int32) (M_hooks : Int32) (M_letters : Int32) (M_rule : Nat → Int32) (M_at : Int32) (M_well : Int32) (M_sort : Int32) (M_text : Int32) (M_row : Int32) (M_field : Nat → Int32) (M_fields : Int32) (M_begins : Nat → Int32) (M_ruleLetters : Nat → Int32) (M_coming : Nat → Int32) (M_comingMany : Int32) (M_going : Nat → Int32) (M_goingMany : Int32) (M_minute : Nat → Int32) (M_pile : Nat → Int32) (M_high : Nat → Int32) (M_where : Nat → Int32) (M_latest : Int32) (M_lifts : Nat → Int32) (M_begun : Nat → Int32) (M_left : Nat → Int32) (M_has : Nat → Int32) (M_lifted : Nat → Int32) (M_taken : Nat → Int32) (M_above : Nat → Int32) (M_allLifts : Int32) (M_busy : Int32) (M_longest : Nat → Int32) (M_onto : Nat → Int32) (M_worst : Int32) (M_best : Int32) (M_orders : Int32) (M_together : Int32) (M_ofOne : Nat → Int32) (M_ofOther : Nat → Int32) (M_seed : Int32) (M_then : Nat → Int32) (M_was : Nat → Int32) (M_kept : Int32) (M_held : Nat → Int32) (M_kindOn : Nat → Int32) (M_figureOn : Nat → Int32) (M_sorts : Nat → Int32) (M_size : Nat → Int32) (M_items : Nat → Int32) (M_moved : Nat → Int32) (M_thrown : Int32) (p1 : Int32) (p2 : Int32) (fuel : Nat) (o : (Nat → Int32) × (Nat → Int32)) (hF : fX10_putOn fuel M_pile M_high p1 p2 = some o) : zMv l D (zT ca) t yX10_putOn (.code yX10_putOn cX10_putOn 3 none :: zW) roX10_putOn [.ref (ad_M 0), .int p1, .int p2] (wX10_M ca ad_M M_guests M_kind M_figure M_told M_heaps M_holds M_back M_mistakes M_hooks M_letters M_rule M_at M_well M_sort M_text M_row M_field M_fields M_begins M_ruleLetters M_coming M_comingMany M_going M_goingMany M_minute M_pile M_high M_where M_latest M_lifts M_begun M_left M_has M_lifted M_taken M_above M_allLifts M_busy M_longest M_onto M_worst M_best M_orders M_together M_ofOne M_ofOther M_seed M_then M_was M_kept M_held M_kindOn M_figureOn M_sorts M_size M_items M_moved M_thrown) (wX10_M ca ad_M M_guests M_kind M_figure M_told M_heaps M_holds M_back M_mistakes M_hooks M_letters M_rule M_at M_well M_sort M_text M_row M_field M_fields M_begins M_ruleLetters M_coming M_comingMany M_going M_goingMany M_minute o.1 o.2 M_where M_latest M_lifts M_begun M_left M_has M_lifted M_taken M_above M_allLifts M_busy M_longest M_onto M_worst M_best M_orders M_together M_ofOne M_ofOther M_seed M_then M_was M_kept M_held M_kindOn M_figureOn M_sorts M_size M_items M_moved M_thrown) := by
  refine zMv_of (cc := cX10_putOn) (maxL := 3) (by decide) rfl (Nat.le_of_ble_eq_true rfl) ?_
  intro p e s m args below meth c A Q ls ⟨hx, hb, hml, hown, hts, hA, hK, hZ, hS⟩ hret hP hD hl
  have hts := fun w h => hts w (List.mem_cons_of_mem _ h)
  have hown : s.vm.findClass RX10 = some m.cls := hown
  have hl : lv_has ls 3 [(0, .ref (ad_M 0)), (1, .int p1), (2, .int p2)] := hl
  have hin10 := zin_X10
  unfold fX10_putOn at hF
  refine lv_aload_n hx hb dX10_putOn_0 rfl (lv_at hl 0 rfl) ?_
  refine va_get (D := D) (ci := 7) (v := .ref (ad_M 11)) (C := RX10) (T := TX10) (N := 58) hx hb hts hin10 hown hK hP 0 rfl rfl 25 (by decide) (hts _ zm_108) (fun _ h9 => h9) rfl dX10_putOn_1 ?_
  refine lv_bipush (v := 10) hx hb dX10_putOn_4 (by decide) ?_
  refine lv_iload_n hx hb dX10_putOn_6 rfl (lv_at hl 1 rfl) ?_
  refine lv_imul hx hb dX10_putOn_7 ?_
  refine lv_aload_n hx hb dX10_putOn_8 rfl (lv_at hl 0 rfl) ?_
  refine va_get (D := D) (ci := 7) (v := .ref (ad_M 12)) (C := RX10) (T := TX10) (N := 58) hx hb hts hin10 hown hK hP 0 rfl rfl 26 (by decide) (hts _ zm_107) (fun _ h9 => h9) rfl dX10_putOn_9 ?_
  refine lv_iload_n hx hb dX10_putOn_12 rfl (lv_at hl 1 rfl) ?_
  obtain ⟨h_1, hF⟩ := zgi hF
  refine va_iald hx hb hK hP 12 0 rfl rfl h_1 dX10_putOn_13 ?_
  refine lv_iadd hx hb dX10_putOn_14 ?_
  refine lv_iload_n hx hb dX10_putOn_15 rfl (lv_at hl 2 rfl) ?_
  obtain ⟨h_2, hF⟩ := zgi hF
  refine z_iast hx hb hK hP hD hS 11 0 rfl rfl h_2 dX10_putOn_16 (fun g => (wX10_M ca ad_M M_guests M_kind M_figure M_told M_heaps M_holds M_back M_mistakes M_hooks M_letters M_rule M_at M_well M_sort M_text M_row M_field M_fields M_begins M_ruleLetters M_coming M_comingMany M_going M_goingMany M_minute g M_high M_where M_latest M_lifts M_begun M_left M_has M_lifted M_taken M_above M_allLifts M_busy M_longest M_onto M_worst M_best M_orders M_together M_ofOne M_ofOther M_seed M_then M_was M_kept M_held M_kindOn M_figureOn M_sorts M_size M_items M_moved M_thrown)) (fun _ => rfl) hF (fun M_pile_3 H locs hF hP hD hS => ?_)
  refine lv_aload_n hx hb dX10_putOn_17 rfl (lv_at hl 0 rfl) ?_
  refine va_get (D := D) (ci := 7) (v := .ref (ad_M 12)) (C := RX10) (T := TX10) (N := 58) hx hb hts hin10 hown hK hP 0 rfl rfl 26 (by decide) (hts _ zm_107) (fun _ h9 => h9) rfl dX10_putOn_18 ?_
  refine lv_iload_n hx hb dX10_putOn_21 rfl (lv_at hl 1 rfl) ?_
  refine lv_dup2_11 hx hb dX10_putOn_22 rfl rfl ?_
  refine va_iald hx hb hK hP 12 0 rfl rfl h_1 dX10_putOn_23 ?_
  refine lv_iconst (v := 1) hx hb dX10_putOn_24 (by decide) ?_
  refine lv_iadd hx hb dX10_putOn_25 ?_
  refine z_iast hx hb hK hP hD hS 12 0 rfl rfl h_1 dX10_putOn_26 (fun g => (wX10_M ca ad_M M_guests M_kind M_figure M_told M_heaps M_holds M_back M_mistakes M_hooks M_letters M_rule M_at M_well M_sort M_text M_row M_field M_fields M_begins M_ruleLetters M_coming M_comingMany M_going M_goingMany M_minute M_pile_3 g M_where M_latest M_lifts M_begun M_left M_has M_lifted M_taken M_above M_allLifts M_busy M_longest M_onto M_worst M_best M_orders M_together M_ofOne M_ofOther M_seed M_then M_was M_kept M_held M_kindOn M_figureOn M_sorts M_size M_items M_moved M_thrown)) (fun _ => rfl) hF (fun M_high_4 H locs hF hP hD hS => ?_)
  obtain rfl := Option.some.inj hF
  exact hret _ _ _ _ hP hD hS dX10_putOn_27
abbrev roX10_clear : Room := { frames := 0, cells := 0, slots := 0, locals := 0 }
set_option maxHeartbeats 4000000 in
set_option maxRecDepth 100000 in
theorem kX10_clear (l : Launch) (D : va_G) (ca : Nat → ClassId) (t : Nat → Nat) (ad_M : Nat → Nat) (M_guests : Int32) (M_kind : Nat → Int32) (M_figure : Nat → Int32) (M_told : Nat → Int32) (M_heaps : Int32) (M_holds : Int32) (M_back : Int32) (M_mistakes : Int32) (M_hooks : Int32) (M_letters : Int32) (M_rule : Nat → Int32) (M_at : Int32) (M_well : Int32) (M_sort : Int32) (M_text : Int32) (M_row : Int32) (M_field : Nat → Int32) (M_fields : Int32) (M_begins : Nat → Int32) (M_ruleLetters : Nat → Int32) (M_coming : Nat → Int32) (M_comingMany : Int32) (M_going : Nat → Int32) (M_goingMany : Int32) (M_minute : Nat → Int32) (M_pile : Nat → Int32) (M_high : Nat → Int32) (M_where : Nat → Int32) (M_latest : Int32) (M_lifts : Nat → Int32) (M_begun : Nat → Int32) (M_left : Nat → Int32) (M_has : Nat → Int32) (M_lifted : Nat → Int32) (M_taken : Nat → Int32) (M_above : Nat → Int32) (M_allLifts : Int32) (M_busy : Int32) (M_longest : Nat → Int32) (M_onto : Nat → Int32) (M_worst : Int32) (M_best : Int32) (M_orders : Int32) (M_together : Int32) (M_ofOne : Nat → Int32) (M_ofOther : Nat → Int32) (M_seed : Int32) (M_then : Nat → Int32) (M_was : Nat → Int32) (M_kept : Int32) (M_held : Nat → Int32) (M_kindOn : Nat → Int32) (M_figureOn : Nat → Int32) (M_sorts : Nat → Int32) (M_size : Nat → Int32) (M_items : Nat → Int32) (M_moved : Nat → Int32) (M_thrown : Int32) (fuel : Nat) (o : (Nat → Int32) × Int32) (hF : fX10_clear fuel M_high M_latest = some o) : zMv l D (zT ca) t yX10_clear (.code yX10_clear cX10_clear 2 none :: zW) roX10_clear [.ref (ad_M 0)] (wX10_M ca ad_M M_guests M_kind M_figure M_told M_heaps M_holds M_back M_mistakes M_hooks M_letters M_rule M_at M_well M_sort M_text M_row M_field M_fields M_begins M_ruleLetters M_coming M_comingMany M_going M_goingMany M_minute M_pile M_high M_where M_latest M_lifts M_begun M_left M_has M_lifted M_taken M_above M_allLifts M_busy M_longest M_onto M_worst M_best M_orders M_together M_ofOne M_ofOther M_seed M_then M_was M_kept M_held M_kindOn M_figureOn M_sorts M_size M_items M_moved M_thrown) (wX10_M ca ad_M M_guests M_kind M_figure M_told M_heaps M_holds M_back M_mistakes M_hooks M_letters M_rule M_at M_well M_sort M_text M_row M_field M_fields M_begins M_ruleLetters M_coming M_comingMany M_going M_goingMany M_minute M_pile o.1 M_where o.2 M_lifts M_begun M_left M_has M_lifted M_taken M_above M_allLifts M_busy M_longest M_onto M_worst M_best M_orders M_together M_ofOne M_ofOther M_seed M_then M_was M_kept M_held M_kindOn M_figureOn M_sorts M_size M_items M_moved M_thrown) := by
  refine zMv_of (cc := cX10_clear) (maxL := 2) (by decide) rfl (Nat.le_of_ble_eq_true rfl) ?_
  intro p e s m args below meth c A Q ls ⟨hx, hb, hml, hown, hts, hA, hK, hZ, hS⟩ hret hP hD hl
  have hts := fun w h => hts w (List.mem_cons_of_mem _ h)
  have hown : s.vm.findClass RX10 = some m.cls := hown
  have hl : lv_has ls 2 [(0, .ref (ad_M 0))] := hl
  have hin10 := zin_X10
  have l8 : ∀ (n8 : Nat) (v1 : Int32) (M_high : Nat → Int32) (M_latest : Int32) (H : Heap) (locs : List Loc), fX10_clear_L8 n8 v1 M_high M_latest = some o → va_P D vwCl (wX10_M ca ad_M M_guests M_kind M_figure M_told M_heaps M_holds M_back M_mistakes M_hooks M_letters M_rule M_at M_well M_sort M_text M_row M_field M_fields M_begins M_ruleLetters M_coming M_comingMany M_going M_goingMany M_minute M_pile M_high M_where M_latest M_lifts M_begun M_left M_has M_lifted M_taken M_above M_allLifts M_busy M_longest M_onto M_worst M_best M_orders M_together M_ofOne M_ofOther M_seed M_then M_was M_kept M_held M_kindOn M_figureOn M_sorts M_size M_items M_moved M_thrown) H → va_D A (wX10_M ca ad_M M_guests M_kind M_figure M_told M_heaps M_holds M_back M_mistakes M_hooks M_letters M_rule M_at M_well M_sort M_text M_row M_field M_fields M_begins M_ruleLetters M_coming M_comingMany M_going M_goingMany M_minute M_pile M_high M_where M_latest M_lifts M_begun M_left M_has M_lifted M_taken M_above M_allLifts M_busy M_longest M_onto M_worst M_best M_orders M_together M_ofOne M_ofOther M_seed M_then M_was M_kept M_held M_kindOn M_figureOn M_sorts M_size M_items M_moved M_thrown) → va_S A s.heap H locs → ∀ ls : Array Slot, lv_has ls 2 [(0, .ref (ad_M 0)), (1, .int v1)] → W p l e roX10_clear s m args below meth c H locs 0 0 Q (F0 m 8 ls []) := by
    intro n8
    induction n8 with
    | zero =>
      intro v1 M_high M_latest H locs hF
      rw [fX10_clear_L8] at hF
      cases hF
    | succ n8 ih8 =>
      intro v1 M_high M_latest H locs hF hP hD hS ls hl
      rw [fX10_clear_L8] at hF
      refine lv_iload_n hx hb dX10_clear_8 rfl (lv_at hl 1 rfl) ?_
      refine lv_iconst (v := 3) hx hb dX10_clear_9 (by decide) ?_
      refine lv_icmp_ge (tgt := 26) hx hb dX10_clear_10 (by decide) (fun c_1 => ?_) (fun c_1 => ?_)
      · have hF := zt c_1 hF
        obtain rfl := Option.some.inj hF
        exact hret _ _ _ _ hP hD hS dX10_clear_26
      · have hF := zf c_1 hF
        refine lv_aload_n hx hb dX10_clear_13 rfl (lv_at hl 0 rfl) ?_
        refine va_get (D := D) (ci := 7) (v := .ref (ad_M 12)) (C := RX10) (T := TX10) (N := 58) hx hb hts hin10 hown hK hP 0 rfl rfl 26 (by decide) (hts _ zm_107) (fun _ h9 => h9) rfl dX10_clear_14 ?_
        refine lv_iload_n hx hb dX10_clear_17 rfl (lv_at hl 1 rfl) ?_
        refine lv_iconst (v := 0) hx hb dX10_clear_18 (by decide) ?_
        obtain ⟨h_2, hF⟩ := zgi hF
        refine z_iast hx hb hK hP hD hS 12 0 rfl rfl h_2 dX10_clear_19 (fun g => (wX10_M ca ad_M M_guests M_kind M_figure M_told M_heaps M_holds M_back M_mistakes M_hooks M_letters M_rule M_at M_well M_sort M_text M_row M_field M_fields M_begins M_ruleLetters M_coming M_comingMany M_going M_goingMany M_minute M_pile g M_where M_latest M_lifts M_begun M_left M_has M_lifted M_taken M_above M_allLifts M_busy M_longest M_onto M_worst M_best M_orders M_together M_ofOne M_ofOther M_seed M_then M_was M_kept M_held M_kindOn M_figureOn M_sorts M_size M_items M_moved M_thrown)) (fun _ => rfl) hF (fun M_high_3 H locs hF hP hD hS => ?_)
        refine z_iinc (kv := 1) hx hb 1 dX10_clear_20 hl rfl (by decide) (by decide) (fun g => [(1, .int g), (0, .ref (ad_M 0))]) (fun _ => rfl) hF (fun v1_4 ls hF hl => ?_)
        refine lv_goto (tgt := 8) hx hb dX10_clear_23 (by decide) ?_
        exact ih8 v1_4 M_high_3 M_latest _ _ hF hP hD hS ls (lv_sub hl [1, 0] rfl)
  unfold fX10_clear at hF
  refine lv_aload_n hx hb dX10_clear_0 rfl (lv_at hl 0 rfl) ?_
  refine lv_bipush (v := (-4)) hx hb dX10_clear_1 (by decide) ?_
  refine va_put (D := D) (ci := 7) (v := .int (-4)) (C := RX10) (T := TX10) (N := 58) hx hb hts hin10 tyX10 tyX10_ok nmX10 hown hK hP hD hS 0 rfl rfl 28 (by decide) (hts _ zm_113) (fun _ h9 => h9) rfl (tyX10_ok 28 (by decide)) rfl rfl (Nat.le_of_ble_eq_true rfl) dX10_clear_3 (fun H locs hP hD hS => ?_)
  have hP : va_P D vwCl (wX10_M ca ad_M M_guests M_kind M_figure M_told M_heaps M_holds M_back M_mistakes M_hooks M_letters M_rule M_at M_well M_sort M_text M_row M_field M_fields M_begins M_ruleLetters M_coming M_comingMany M_going M_goingMany M_minute M_pile M_high M_where (-4) M_lifts M_begun M_left M_has M_lifted M_taken M_above M_allLifts M_busy M_longest M_onto M_worst M_best M_orders M_together M_ofOne M_ofOther M_seed M_then M_was M_kept M_held M_kindOn M_figureOn M_sorts M_size M_items M_moved M_thrown) H := hP
  have hD : va_D A (wX10_M ca ad_M M_guests M_kind M_figure M_told M_heaps M_holds M_back M_mistakes M_hooks M_letters M_rule M_at M_well M_sort M_text M_row M_field M_fields M_begins M_ruleLetters M_coming M_comingMany M_going M_goingMany M_minute M_pile M_high M_where (-4) M_lifts M_begun M_left M_has M_lifted M_taken M_above M_allLifts M_busy M_longest M_onto M_worst M_best M_orders M_together M_ofOne M_ofOther M_seed M_then M_was M_kept M_held M_kindOn M_figureOn M_sorts M_size M_items M_moved M_thrown) := hD
  refine lv_iconst (v := 0) hx hb dX10_clear_6 (by decide) ?_
  refine lv_istore_n (lv' := [(1, .int 0), (0, .ref (ad_M 0))]) hx hb dX10_clear_7 rfl hl (by decide) rfl (fun ls hl => ?_)
  exact l8 fuel 0 M_high (-4) _ _ hF hP hD hS ls (lv_sub hl [1, 0] rfl)
theorem zdv_X10_clear : yX10_clear.cls = RX10 ∧ yX10_clear.cls ≠ "java/lang/invoke/MethodHandle" ∧ yX10_clear.cls ≠ "java/lang/invoke/VarHandle" ∧ (parseMethodDescriptor yX10_clear.desc).map (fun d => d.parameters.length) = some 0 := by decide +kernel
theorem zdv_X10_heapFor : yX10_heapFor.cls = RX10 ∧ yX10_heapFor.cls ≠ "java/lang/invoke/MethodHandle" ∧ yX10_heapFor.cls ≠ "java/lang/invoke/VarHandle" ∧ (parseMethodDescriptor yX10_heapFor.desc).map (fun d => d.parameters.length) = some 1 := by decide +kernel
theorem zdv_X10_putOn : yX10_putOn.cls = RX10 ∧ yX10_putOn.cls ≠ "java/lang/invoke/MethodHandle" ∧ yX10_putOn.cls ≠ "java/lang/invoke/VarHandle" ∧ (parseMethodDescriptor yX10_putOn.desc).map (fun d => d.parameters.length) = some 2 := by decide +kernel
abbrev roX10_lay : Room := { frames := 4, cells := 0, slots := 0, locals := 93 }
set_option maxHeartbeats 4000000 in
set_option maxRecDepth 100000 in
theorem kX10_lay (l : Launch) (D : va_G) (ca : Nat → ClassId) (t : Nat → Nat) (ad_M : Nat → Nat) (M_guests : Int32) (M_kind : Nat → Int32) (M_figure : Nat → Int32) (M_told : Nat → Int32) (M_heaps : Int32) (M_holds : Int32) (M_back : Int32) (M_mistakes : Int32) (M_hooks : Int32) (M_letters : Int32) (M_rule : Nat → Int32) (M_at : Int32) (M_well : Int32) (M_sort : Int32) (M_text : Int32) (M_row : Int32) (M_field : Nat → Int32) (M_fields : Int32) (M_begins : Nat → Int32) (M_ruleLetters : Nat → Int32) (M_coming : Nat → Int32) (M_comingMany : Int32) (M_going : Nat → Int32) (M_goingMany : Int32) (M_minute : Nat → Int32) (M_pile : Nat → Int32) (M_high : Nat → Int32) (M_where : Nat → Int32) (M_latest : Int32) (M_lifts : Nat → Int32) (M_begun : Nat → Int32) (M_left : Nat → Int32) (M_has : Nat → Int32) (M_lifted : Nat → Int32) (M_taken : Nat → Int32) (M_above : Nat → Int32) (M_allLifts : Int32) (M_busy : Int32) (M_longest : Nat → Int32) (M_onto : Nat → Int32) (M_worst : Int32) (M_best : Int32) (M_orders : Int32) (M_together : Int32) (M_ofOne : Nat → Int32) (M_ofOther : Nat → Int32) (M_seed : Int32) (M_then : Nat → Int32) (M_was : Nat → Int32) (M_kept : Int32) (M_held : Nat → Int32) (M_kindOn : Nat → Int32) (M_figureOn : Nat → Int32) (M_sorts : Nat → Int32) (M_size : Nat → Int32) (M_items : Nat → Int32) (M_moved : Nat → Int32) (M_thrown : Int32) (fuel : Nat) (o : (Nat → Int32) × (Nat → Int32) × (Nat → Int32) × Int32) (hF : fX10_lay fuel M_heaps M_holds M_hooks M_letters M_rule M_coming M_comingMany M_minute M_pile M_high M_where M_latest = some o) : zMv l D (zT ca) t yX10_lay (.code yX10_lay cX10_lay 3 none :: zW) roX10_lay [.ref (ad_M 0)] (wX10_M ca ad_M M_guests M_kind M_figure M_told M_heaps M_holds M_back M_mistakes M_hooks M_letters M_rule M_at M_well M_sort M_text M_row M_field M_fields M_begins M_ruleLetters M_coming M_comingMany M_going M_goingMany M_minute M_pile M_high M_where M_latest M_lifts M_begun M_left M_has M_lifted M_taken M_above M_allLifts M_busy M_longest M_onto M_worst M_best M_orders M_together M_ofOne M_ofOther M_seed M_then M_was M_kept M_held M_kindOn M_figureOn M_sorts M_size M_items M_moved M_thrown) (wX10_M ca ad_M M_guests M_kind M_figure M_told M_heaps M_holds M_back M_mistakes M_hooks M_letters M_rule M_at M_well M_sort M_text M_row M_field M_fields M_begins M_ruleLetters M_coming M_comingMany M_going M_goingMany M_minute o.1 o.2.1 o.2.2.1 o.2.2.2 M_lifts M_begun M_left M_has M_lifted M_taken M_above M_allLifts M_busy M_longest M_onto M_worst M_best M_orders M_together M_ofOne M_ofOther M_seed M_then M_was M_kept M_held M_kindOn M_figureOn M_sorts M_size M_items M_moved M_thrown) := by
  refine zMv_of (cc := cX10_lay) (maxL := 3) (by decide) rfl (Nat.le_of_ble_eq_true rfl) ?_
  intro p e s m args below meth c A Q ls ⟨hx, hb, hml, hown, hts, hA, hK, hZ, hS⟩ hret hP hD hl
  have hts := fun w h => hts w (List.mem_cons_of_mem _ h)
  have hown : s.vm.findClass RX10 = some m.cls := hown
  have hl : lv_has ls 3 [(0, .ref (ad_M 0))] := hl
  have hin10 := zin_X10
  have l6 : ∀ (n6 : Nat) (v1 : Int32) (M_pile : Nat → Int32) (M_high : Nat → Int32) (M_where : Nat → Int32) (M_latest : Int32) (H : Heap) (locs : List Loc), fX10_lay_L6 fuel M_heaps M_holds M_hooks M_letters M_rule M_coming M_comingMany M_minute n6 v1 M_pile M_high M_where M_latest = some o → va_P D vwCl (wX10_M ca ad_M M_guests M_kind M_figure M_told M_heaps M_holds M_back M_mistakes M_hooks M_letters M_rule M_at M_well M_sort M_text M_row M_field M_fields M_begins M_ruleLetters M_coming M_comingMany M_going M_goingMany M_minute M_pile M_high M_where M_latest M_lifts M_begun M_left M_has M_lifted M_taken M_above M_allLifts M_busy M_longest M_onto M_worst M_best M_orders M_together M_ofOne M_ofOther M_seed M_then M_was M_kept M_held M_kindOn M_figureOn M_sorts M_size M_items M_moved M_thrown) H → va_D A (wX10_M ca ad_M M_guests M_kind M_figure M_told M_heaps M_holds M_back M_mistakes M_hooks M_letters M_rule M_at M_well M_sort M_text M_row M_field M_fields M_begins M_ruleLetters M_coming M_comingMany M_going M_goingMany M_minute M_pile M_high M_where M_latest M_lifts M_begun M_left M_has M_lifted M_taken M_above M_allLifts M_busy M_longest M_onto M_worst M_best M_orders M_together M_ofOne M_ofOther M_seed M_then M_was M_kept M_held M_kindOn M_figureOn M_sorts M_size M_items M_moved M_thrown) → va_S A s.heap H locs → ∀ ls : Array Slot, lv_has ls 3 [(0, .ref (ad_M 0)), (1, .int v1)] → W p l e roX10_lay s m args below meth c H locs 0 0 Q (F0 m 6 ls []) := by
    intro n6
    induction n6 with
    | zero =>
      intro v1 M_pile M_high M_where M_latest H locs hF
      rw [fX10_lay_L6] at hF
      cases hF
    | succ n6 ih6 =>
      have j80 : ∀ (v1 : Int32) (M_pile : Nat → Int32) (M_high : Nat → Int32) (M_where : Nat → Int32) (M_latest : Int32) (H : Heap) (locs : List Loc), fX10_lay_J80 (fX10_lay_L6 fuel M_heaps M_holds M_hooks M_letters M_rule M_coming M_comingMany M_minute n6) v1 M_pile M_high M_where M_latest = some o → va_P D vwCl (wX10_M ca ad_M M_guests M_kind M_figure M_told M_heaps M_holds M_back M_mistakes M_hooks M_letters M_rule M_at M_well M_sort M_text M_row M_field M_fields M_begins M_ruleLetters M_coming M_comingMany M_going M_goingMany M_minute M_pile M_high M_where M_latest M_lifts M_begun M_left M_has M_lifted M_taken M_above M_allLifts M_busy M_longest M_onto M_worst M_best M_orders M_together M_ofOne M_ofOther M_seed M_then M_was M_kept M_held M_kindOn M_figureOn M_sorts M_size M_items M_moved M_thrown) H → va_D A (wX10_M ca ad_M M_guests M_kind M_figure M_told M_heaps M_holds M_back M_mistakes M_hooks M_letters M_rule M_at M_well M_sort M_text M_row M_field M_fields M_begins M_ruleLetters M_coming M_comingMany M_going M_goingMany M_minute M_pile M_high M_where M_latest M_lifts M_begun M_left M_has M_lifted M_taken M_above M_allLifts M_busy M_longest M_onto M_worst M_best M_orders M_together M_ofOne M_ofOther M_seed M_then M_was M_kept M_held M_kindOn M_figureOn M_sorts M_size M_items M_moved M_thrown) → va_S A s.heap H locs → ∀ ls : Array Slot, lv_has ls 3 [(0, .ref (ad_M 0)), (1, .int v1)] → W p l e roX10_lay s m args below meth c H locs 0 0 Q (F0 m 80 ls []) := by
        intro v1 M_pile M_high M_where M_latest H locs hF hP hD hS ls hl
        unfold fX10_lay_J80 at hF
        refine z_iinc (kv := 1) hx hb 1 dX10_lay_80 hl rfl (by decide) (by decide) (fun g => [(1, .int g), (0, .ref (ad_M 0))]) (fun _ => rfl) hF (fun v1_20 ls hF hl => ?_)
        refine lv_goto (tgt := 6) hx hb dX10_lay_83 (by decide) ?_
        exact ih6 v1_20 M_pile M_high M_where M_latest _ _ hF hP hD hS ls (lv_sub hl [1, 0] rfl)
      intro v1 M_pile M_high M_where M_latest H locs hF hP hD hS ls hl
      rw [fX10_lay_L6] at hF
      refine lv_iload_n hx hb dX10_lay_6 rfl (lv_at hl 1 rfl) ?_
      refine lv_aload_n hx hb dX10_lay_7 rfl (lv_at hl 0 rfl) ?_
      refine va_get (D := D) (ci := 7) (v := .int M_comingMany) (C := RX10) (T := TX10) (N := 58) hx hb hts hin10 hown hK hP 0 rfl rfl 21 (by decide) (hts _ zm_83) (fun _ h9 => h9) rfl dX10_lay_8 ?_
      refine lv_icmp_ge (tgt := 86) hx hb dX10_lay_11 (by decide) (fun c_2 => ?_) (fun c_2 => ?_)
      · have hF := zt c_2 hF
        obtain rfl := Option.some.inj hF
        exact hret _ _ _ _ hP hD hS dX10_lay_86
      · have hF := zf c_2 hF
        refine lv_aload_n hx hb dX10_lay_14 rfl (lv_at hl 0 rfl) ?_
        refine va_get (D := D) (ci := 7) (v := .ref (ad_M 8)) (C := RX10) (T := TX10) (N := 58) hx hb hts hin10 hown hK hP 0 rfl rfl 20 (by decide) (hts _ zm_84) (fun _ h9 => h9) rfl dX10_lay_15 ?_
        refine lv_iload_n hx hb dX10_lay_18 rfl (lv_at hl 1 rfl) ?_
        obtain ⟨h_3, hF⟩ := zgi hF
        refine va_iald hx hb hK hP 8 0 rfl rfl h_3 dX10_lay_19 ?_
        refine z_let hF (fun v2_4 hF => ?_)
        refine lv_istore_n (lv' := [(2, .int v2_4), (0, .ref (ad_M 0)), (1, .int v1)]) hx hb dX10_lay_20 rfl hl (by decide) rfl (fun ls hl => ?_)
        refine lv_aload_n hx hb dX10_lay_21 rfl (lv_at hl 1 rfl) ?_
        refine va_get (D := D) (ci := 7) (v := .ref (ad_M 13)) (C := RX10) (T := TX10) (N := 58) hx hb hts hin10 hown hK hP 0 rfl rfl 27 (by decide) (hts _ zm_130) (fun _ h9 => h9) rfl dX10_lay_22 ?_
        refine lv_iload_n hx hb dX10_lay_25 rfl (lv_at hl 0 rfl) ?_
        refine lv_aload_n hx hb dX10_lay_26 rfl (lv_at hl 1 rfl) ?_
        refine lv_iload_n hx hb dX10_lay_27 rfl (lv_at hl 0 rfl) ?_
        obtain ⟨o_5, hc_5, hF⟩ := zb hF
        refine zcVR (rest := [.int v2_4, .ref (ad_M 13)]) (kX10_hangs l D ca t ad_M M_guests M_kind M_figure M_told M_heaps M_holds M_back M_mistakes M_hooks M_letters M_rule M_at M_well M_sort M_text M_row M_field M_fields M_begins M_ruleLetters M_coming M_comingMany M_going M_goingMany M_minute M_pile M_high M_where M_latest M_lifts M_begun M_left M_has M_lifted M_taken M_above M_allLifts M_busy M_longest M_onto M_worst M_best M_orders M_together M_ofOne M_ofOther M_seed M_then M_was M_kept M_held M_kindOn M_figureOn M_sorts M_size M_items M_moved M_thrown v2_4 fuel _ hc_5) ⟨hx, hb, hml, hown, hts⟩ (zcwV hts zm_67 zm_68 zm_69 zm_19 zm_66 rfl rfl zdv_X10_hangs ⟨Nat.le_of_ble_eq_true rfl, Nat.le_of_ble_eq_true rfl⟩) hA hK hZ hP hD hS [0, 1, 2, 3, 4, 5, 6, 7, 8, 9, 10, 11, 12, 13, 14, 15, 16, 17, 18, 19, 20, 21, 22, 23, 24, 25, 26, 27, 28, 29, 30, 31, 32, 33] rfl rfl 7 0 rfl rfl rfl hl.1 (Nat.le_of_ble_eq_true rfl) dX10_lay_28 rfl ?_
        refine lv_if_eq (tgt := 39) hx hb dX10_lay_31 (by decide) (fun c_6 => ?_) (fun c_6 => ?_)
        · have hF := zt c_6 hF
          refine lv_aload_n hx hb dX10_lay_39 rfl (lv_at hl 1 rfl) ?_
          refine lv_iload_n hx hb dX10_lay_40 rfl (lv_at hl 0 rfl) ?_
          obtain ⟨o_7, hc_7, hF⟩ := zb hF
          refine zcVR (rest := [.int v2_4, .ref (ad_M 13)]) (kX10_heapFor l D ca t ad_M M_guests M_kind M_figure M_told M_heaps M_holds M_back M_mistakes M_hooks M_letters M_rule M_at M_well M_sort M_text M_row M_field M_fields M_begins M_ruleLetters M_coming M_comingMany M_going M_goingMany M_minute M_pile M_high M_where M_latest M_lifts M_begun M_left M_has M_lifted M_taken M_above M_allLifts M_busy M_longest M_onto M_worst M_best M_orders M_together M_ofOne M_ofOther M_seed M_then M_was M_kept M_held M_kindOn M_figureOn M_sorts M_size M_items M_moved M_thrown v2_4 fuel _ hc_7) ⟨hx, hb, hml, hown, hts⟩ (zcwV hts zm_132 zm_133 zm_134 zm_19 zm_131 rfl rfl zdv_X10_heapFor ⟨Nat.le_of_ble_eq_true rfl, Nat.le_of_ble_eq_true rfl⟩) hA hK hZ hP hD hS [0, 1, 2, 3, 4, 5, 6, 7, 8, 9, 10, 11, 12, 13, 14, 15, 16, 17, 18, 19, 20, 21, 22, 23, 24, 25, 26, 27, 28, 29, 30, 31, 32, 33] rfl rfl 7 0 rfl rfl rfl hl.1 (Nat.le_of_ble_eq_true rfl) dX10_lay_41 rfl ?_
          obtain ⟨h_8, hF⟩ := zgi hF
          refine z_iast hx hb hK hP hD hS 13 0 rfl rfl h_8 dX10_lay_44 (fun g => (wX10_M ca ad_M M_guests M_kind M_figure M_told M_heaps M_holds M_back M_mistakes M_hooks M_letters M_rule M_at M_well M_sort M_text M_row M_field M_fields M_begins M_ruleLetters M_coming M_comingMany M_going M_goingMany M_minute M_pile M_high g M_latest M_lifts M_begun M_left M_has M_lifted M_taken M_above M_allLifts M_busy M_longest M_onto M_worst M_best M_orders M_together M_ofOne M_ofOther M_seed M_then M_was M_kept M_held M_kindOn M_figureOn M_sorts M_size M_items M_moved M_thrown)) (fun _ => rfl) hF (fun M_where_9 H locs hF hP hD hS => ?_)
          refine lv_aload_n hx hb dX10_lay_45 rfl (lv_at hl 1 rfl) ?_
          refine va_get (D := D) (ci := 7) (v := .ref (ad_M 13)) (C := RX10) (T := TX10) (N := 58) hx hb hts hin10 hown hK hP 0 rfl rfl 27 (by decide) (hts _ zm_130) (fun _ h9 => h9) rfl dX10_lay_46 ?_
          refine lv_iload_n hx hb dX10_lay_49 rfl (lv_at hl 0 rfl) ?_
          refine va_iald hx hb hK hP 13 0 rfl rfl h_8 dX10_lay_50 ?_
          refine lv_iconst (v := 0) hx hb dX10_lay_51 (by decide) ?_
          refine lv_iconst (v := 2) hx hb dX10_lay_52 (by decide) ?_
          obtain ⟨o_10, hc_10, hF⟩ := zb hF
          refine zcSR (rest := []) (kX10_isIn l D ca t (M_where_9 v2_4.toNatClampNeg) 0 2 fuel _ hc_10) ⟨hx, hb, hml, hown, hts⟩ (zcwS hts zm_20 zm_18 zm_19 zm_17 rfl rfl zds_X10_isIn ⟨Nat.le_of_ble_eq_true rfl, Nat.le_of_ble_eq_true rfl⟩) hA hK hZ hP hD hS [] rfl rfl rfl hl.1 (Nat.le_of_ble_eq_true rfl) dX10_lay_53 rfl ?_
          refine lv_if_eq (tgt := 80) hx hb dX10_lay_56 (by decide) (fun c_11 => ?_) (fun c_11 => ?_)
          · have hF := zt c_11 hF
            exact j80 v1 M_pile M_high M_where_9 M_latest _ _ hF hP hD hS ls (lv_sub hl [1, 2] rfl)
          · have hF := zf c_11 hF
            refine lv_aload_n hx hb dX10_lay_59 rfl (lv_at hl 1 rfl) ?_
            refine lv_aload_n hx hb dX10_lay_60 rfl (lv_at hl 1 rfl) ?_
            refine va_get (D := D) (ci := 7) (v := .ref (ad_M 13)) (C := RX10) (T := TX10) (N := 58) hx hb hts hin10 hown hK hP 0 rfl rfl 27 (by decide) (hts _ zm_130) (fun _ h9 => h9) rfl dX10_lay_61 ?_
            refine lv_iload_n hx hb dX10_lay_64 rfl (lv_at hl 0 rfl) ?_
            refine va_iald hx hb hK hP 13 0 rfl rfl h_8 dX10_lay_65 ?_
            refine lv_iload_n hx hb dX10_lay_66 rfl (lv_at hl 0 rfl) ?_
            obtain ⟨o_12, hc_12, hF⟩ := zb hF
            refine zcVv (rest := []) (ws' := (wX10_M ca ad_M M_guests M_kind M_figure M_told M_heaps M_holds M_back M_mistakes M_hooks M_letters M_rule M_at M_well M_sort M_text M_row M_field M_fields M_begins M_ruleLetters M_coming M_comingMany M_going M_goingMany M_minute o_12.1 o_12.2 M_where_9 M_latest M_lifts M_begun M_left M_has M_lifted M_taken M_above M_allLifts M_busy M_longest M_onto M_worst M_best M_orders M_together M_ofOne M_ofOther M_seed M_then M_was M_kept M_held M_kindOn M_figureOn M_sorts M_size M_items M_moved M_thrown)) (kX10_putOn l D ca t ad_M M_guests M_kind M_figure M_told M_heaps M_holds M_back M_mistakes M_hooks M_letters M_rule M_at M_well M_sort M_text M_row M_field M_fields M_begins M_ruleLetters M_coming M_comingMany M_going M_goingMany M_minute M_pile M_high M_where_9 M_latest M_lifts M_begun M_left M_has M_lifted M_taken M_above M_allLifts M_busy M_longest M_onto M_worst M_best M_orders M_together M_ofOne M_ofOther M_seed M_then M_was M_kept M_held M_kindOn M_figureOn M_sorts M_size M_items M_moved M_thrown (M_where_9 v2_4.toNatClampNeg) v2_4 fuel _ hc_12) ⟨hx, hb, hml, hown, hts⟩ (zcwV hts zm_136 zm_137 zm_138 zm_19 zm_135 rfl rfl zdv_X10_putOn ⟨Nat.le_of_ble_eq_true rfl, Nat.le_of_ble_eq_true rfl⟩) hA hK hZ hP hD hS [0, 1, 2, 3, 4, 5, 6, 7, 8, 9, 10, 11, 12, 13, 14, 15, 16, 17, 18, 19, 20, 21, 22, 23, 24, 25, 26, 27, 28, 29, 30, 31, 32, 33] [] [0, 1, 2, 3, 4, 5, 6, 7, 8, 9, 10, 11, 12, 13, 14, 15, 16, 17, 18, 19, 20, 21, 22, 23, 24, 25, 26, 27, 28, 29, 30, 31, 32, 33] rfl rfl rfl rfl rfl rfl rfl 7 0 rfl rfl rfl hl.1 (Nat.le_of_ble_eq_true rfl) dX10_lay_67 rfl (fun H locs hP hD hS => ?_)
            refine lv_aload_n hx hb dX10_lay_70 rfl (lv_at hl 1 rfl) ?_
            refine lv_aload_n hx hb dX10_lay_71 rfl (lv_at hl 1 rfl) ?_
            refine va_get (D := D) (ci := 7) (v := .ref (ad_M 13)) (C := RX10) (T := TX10) (N := 58) hx hb hts hin10 hown hK hP 0 rfl rfl 27 (by decide) (hts _ zm_130) (fun _ h9 => h9) rfl dX10_lay_72 ?_
            refine lv_iload_n hx hb dX10_lay_75 rfl (lv_at hl 0 rfl) ?_
            refine va_iald hx hb hK hP 13 0 rfl rfl h_8 dX10_lay_76 ?_
            refine z_let hF (fun latest_13 hF => ?_)
            refine va_put (D := D) (ci := 7) (v := .int latest_13) (C := RX10) (T := TX10) (N := 58) hx hb hts hin10 tyX10 tyX10_ok nmX10 hown hK hP hD hS 0 rfl rfl 28 (by decide) (hts _ zm_113) (fun _ h9 => h9) rfl (tyX10_ok 28 (by decide)) rfl rfl (Nat.le_of_ble_eq_true rfl) dX10_lay_77 (fun H locs hP hD hS => ?_)
            have hP : va_P D vwCl (wX10_M ca ad_M M_guests M_kind M_figure M_told M_heaps M_holds M_back M_mistakes M_hooks M_letters M_rule M_at M_well M_sort M_text M_row M_field M_fields M_begins M_ruleLetters M_coming M_comingMany M_going M_goingMany M_minute o_12.1 o_12.2 M_where_9 latest_13 M_lifts M_begun M_left M_has M_lifted M_taken M_above M_allLifts M_busy M_longest M_onto M_worst M_best M_orders M_together M_ofOne M_ofOther M_seed M_then M_was M_kept M_held M_kindOn M_figureOn M_sorts M_size M_items M_moved M_thrown) H := hP
            have hD : va_D A (wX10_M ca ad_M M_guests M_kind M_figure M_told M_heaps M_holds M_back M_mistakes M_hooks M_letters M_rule M_at M_well M_sort M_text M_row M_field M_fields M_begins M_ruleLetters M_coming M_comingMany M_going M_goingMany M_minute o_12.1 o_12.2 M_where_9 latest_13 M_lifts M_begun M_left M_has M_lifted M_taken M_above M_allLifts M_busy M_longest M_onto M_worst M_best M_orders M_together M_ofOne M_ofOther M_seed M_then M_was M_kept M_held M_kindOn M_figureOn M_sorts M_size M_items M_moved M_thrown) := hD
            exact j80 v1 o_12.1 o_12.2 M_where_9 latest_13 _ _ hF hP hD hS ls (lv_sub hl [1, 2] rfl)
        · have hF := zf c_6 hF
          refine lv_bipush (v := 9) hx hb dX10_lay_34 (by decide) ?_
          refine lv_goto (tgt := 44) hx hb dX10_lay_36 (by decide) ?_
          obtain ⟨h_14, hF⟩ := zgi hF
          refine z_iast hx hb hK hP hD hS 13 0 rfl rfl h_14 dX10_lay_44 (fun g => (wX10_M ca ad_M M_guests M_kind M_figure M_told M_heaps M_holds M_back M_mistakes M_hooks M_letters M_rule M_at M_well M_sort M_text M_row M_field M_fields M_begins M_ruleLetters M_coming M_comingMany M_going M_goingMany M_minute M_pile M_high g M_latest M_lifts M_begun M_left M_has M_lifted M_taken M_above M_allLifts M_busy M_longest M_onto M_worst M_best M_orders M_together M_ofOne M_ofOther M_seed M_then M_was M_kept M_held M_kindOn M_figureOn M_sorts M_size M_items M_moved M_thrown)) (fun _ => rfl) hF (fun M_where_15 H locs hF hP hD hS => ?_)
          refine lv_aload_n hx hb dX10_lay_45 rfl (lv_at hl 1 rfl) ?_
          refine va_get (D := D) (ci := 7) (v := .ref (ad_M 13)) (C := RX10) (T := TX10) (N := 58) hx hb hts hin10 hown hK hP 0 rfl rfl 27 (by decide) (hts _ zm_130) (fun _ h9 => h9) rfl dX10_lay_46 ?_
          refine lv_iload_n hx hb dX10_lay_49 rfl (lv_at hl 0 rfl) ?_
          refine va_iald hx hb hK hP 13 0 rfl rfl h_14 dX10_lay_50 ?_
          refine lv_iconst (v := 0) hx hb dX10_lay_51 (by decide) ?_
          refine lv_iconst (v := 2) hx hb dX10_lay_52 (by decide) ?_
          obtain ⟨o_16, hc_16, hF⟩ := zb hF
          refine zcSR (rest := []) (kX10_isIn l D ca t (M_where_15 v2_4.toNatClampNeg) 0 2 fuel _ hc_16) ⟨hx, hb, hml, hown, hts⟩ (zcwS hts zm_20 zm_18 zm_19 zm_17 rfl rfl zds_X10_isIn ⟨Nat.le_of_ble_eq_true rfl, Nat.le_of_ble_eq_true rfl⟩) hA hK hZ hP hD hS [] rfl rfl rfl hl.1 (Nat.le_of_ble_eq_true rfl) dX10_lay_53 rfl ?_
          refine lv_if_eq (tgt := 80) hx hb dX10_lay_56 (by decide) (fun c_17 => ?_) (fun c_17 => ?_)
          · have hF := zt c_17 hF
            exact j80 v1 M_pile M_high M_where_15 M_latest _ _ hF hP hD hS ls (lv_sub hl [1, 2] rfl)
          · have hF := zf c_17 hF
            refine lv_aload_n hx hb dX10_lay_59 rfl (lv_at hl 1 rfl) ?_
            refine lv_aload_n hx hb dX10_lay_60 rfl (lv_at hl 1 rfl) ?_
            refine va_get (D := D) (ci := 7) (v := .ref (ad_M 13)) (C := RX10) (T := TX10) (N := 58) hx hb hts hin10 hown hK hP 0 rfl rfl 27 (by decide) (hts _ zm_130) (fun _ h9 => h9) rfl dX10_lay_61 ?_
            refine lv_iload_n hx hb dX10_lay_64 rfl (lv_at hl 0 rfl) ?_
            refine va_iald hx hb hK hP 13 0 rfl rfl h_14 dX10_lay_65 ?_
            refine lv_iload_n hx hb dX10_lay_66 rfl (lv_at hl 0 rfl) ?_
            obtain ⟨o_18, hc_18, hF⟩ := zb hF
            refine zcVv (rest := []) (ws' := (wX10_M ca ad_M M_guests M_kind M_figure M_told M_heaps M_holds M_back M_mistakes M_hooks M_letters M_rule M_at M_well M_sort M_text M_row M_field M_fields M_begins M_ruleLetters M_coming M_comingMany M_going M_goingMany M_minute o_18.1 o_18.2 M_where_15 M_latest M_lifts M_begun M_left M_has M_lifted M_taken M_above M_allLifts M_busy M_longest M_onto M_worst M_best M_orders M_together M_ofOne M_ofOther M_seed M_then M_was M_kept M_held M_kindOn M_figureOn M_sorts M_size M_items M_moved M_thrown)) (kX10_putOn l D ca t ad_M M_guests M_kind M_figure M_told M_heaps M_holds M_back M_mistakes M_hooks M_letters M_rule M_at M_well M_sort M_text M_row M_field M_fields M_begins M_ruleLetters M_coming M_comingMany M_going M_goingMany M_minute M_pile M_high M_where_15 M_latest M_lifts M_begun M_left M_has M_lifted M_taken M_above M_allLifts M_busy M_longest M_onto M_worst M_best M_orders M_together M_ofOne M_ofOther M_seed M_then M_was M_kept M_held M_kindOn M_figureOn M_sorts M_size M_items M_moved M_thrown (M_where_15 v2_4.toNatClampNeg) v2_4 fuel _ hc_18) ⟨hx, hb, hml, hown, hts⟩ (zcwV hts zm_136 zm_137 zm_138 zm_19 zm_135 rfl rfl zdv_X10_putOn ⟨Nat.le_of_ble_eq_true rfl, Nat.le_of_ble_eq_true rfl⟩) hA hK hZ hP hD hS [0, 1, 2, 3, 4, 5, 6, 7, 8, 9, 10, 11, 12, 13, 14, 15, 16, 17, 18, 19, 20, 21, 22, 23, 24, 25, 26, 27, 28, 29, 30, 31, 32, 33] [] [0, 1, 2, 3, 4, 5, 6, 7, 8, 9, 10, 11, 12, 13, 14, 15, 16, 17, 18, 19, 20, 21, 22, 23, 24, 25, 26, 27, 28, 29, 30, 31, 32, 33] rfl rfl rfl rfl rfl rfl rfl 7 0 rfl rfl rfl hl.1 (Nat.le_of_ble_eq_true rfl) dX10_lay_67 rfl (fun H locs hP hD hS => ?_)
            refine lv_aload_n hx hb dX10_lay_70 rfl (lv_at hl 1 rfl) ?_
            refine lv_aload_n hx hb dX10_lay_71 rfl (lv_at hl 1 rfl) ?_
            refine va_get (D := D) (ci := 7) (v := .ref (ad_M 13)) (C := RX10) (T := TX10) (N := 58) hx hb hts hin10 hown hK hP 0 rfl rfl 27 (by decide) (hts _ zm_130) (fun _ h9 => h9) rfl dX10_lay_72 ?_
            refine lv_iload_n hx hb dX10_lay_75 rfl (lv_at hl 0 rfl) ?_
            refine va_iald hx hb hK hP 13 0 rfl rfl h_14 dX10_lay_76 ?_
            refine z_let hF (fun latest_19 hF => ?_)
            refine va_put (D := D) (ci := 7) (v := .int latest_19) (C := RX10) (T := TX10) (N := 58) hx hb hts hin10 tyX10 tyX10_ok nmX10 hown hK hP hD hS 0 rfl rfl 28 (by decide) (hts _ zm_113) (fun _ h9 => h9) rfl (tyX10_ok 28 (by decide)) rfl rfl (Nat.le_of_ble_eq_true rfl) dX10_lay_77 (fun H locs hP hD hS => ?_)
            have hP : va_P D vwCl (wX10_M ca ad_M M_guests M_kind M_figure M_told M_heaps M_holds M_back M_mistakes M_hooks M_letters M_rule M_at M_well M_sort M_text M_row M_field M_fields M_begins M_ruleLetters M_coming M_comingMany M_going M_goingMany M_minute o_18.1 o_18.2 M_where_15 latest_19 M_lifts M_begun M_left M_has M_lifted M_taken M_above M_allLifts M_busy M_longest M_onto M_worst M_best M_orders M_together M_ofOne M_ofOther M_seed M_then M_was M_kept M_held M_kindOn M_figureOn M_sorts M_size M_items M_moved M_thrown) H := hP
            have hD : va_D A (wX10_M ca ad_M M_guests M_kind M_figure M_told M_heaps M_holds M_back M_mistakes M_hooks M_letters M_rule M_at M_well M_sort M_text M_row M_field M_fields M_begins M_ruleLetters M_coming M_comingMany M_going M_goingMany M_minute o_18.1 o_18.2 M_where_15 latest_19 M_lifts M_begun M_left M_has M_lifted M_taken M_above M_allLifts M_busy M_longest M_onto M_worst M_best M_orders M_together M_ofOne M_ofOther M_seed M_then M_was M_kept M_held M_kindOn M_figureOn M_sorts M_size M_items M_moved M_thrown) := hD
            exact j80 v1 o_18.1 o_18.2 M_where_15 latest_19 _ _ hF hP hD hS ls (lv_sub hl [1, 2] rfl)
  unfold fX10_lay at hF
  refine lv_aload_n hx hb dX10_lay_0 rfl (lv_at hl 0 rfl) ?_
  obtain ⟨o_1, hc_1, hF⟩ := zb hF
  refine zcVv (rest := []) (ws' := (wX10_M ca ad_M M_guests M_kind M_figure M_told M_heaps M_holds M_back M_mistakes M_hooks M_letters M_rule M_at M_well M_sort M_text M_row M_field M_fields M_begins M_ruleLetters M_coming M_comingMany M_going M_goingMany M_minute M_pile o_1.1 M_where o_1.2 M_lifts M_begun M_left M_has M_lifted M_taken M_above M_allLifts M_busy M_longest M_onto M_worst M_best M_orders M_together M_ofOne M_ofOther M_seed M_then M_was M_kept M_held M_kindOn M_figureOn M_sorts M_size M_items M_moved M_thrown)) (kX10_clear l D ca t ad_M M_guests M_kind M_figure M_told M_heaps M_holds M_back M_mistakes M_hooks M_letters M_rule M_at M_well M_sort M_text M_row M_field M_fields M_begins M_ruleLetters M_coming M_comingMany M_going M_goingMany M_minute M_pile M_high M_where M_latest M_lifts M_begun M_left M_has M_lifted M_taken M_above M_allLifts M_busy M_longest M_onto M_worst M_best M_orders M_together M_ofOne M_ofOther M_seed M_then M_was M_kept M_held M_kindOn M_figureOn M_sorts M_size M_items M_moved M_thrown fuel _ hc_1) ⟨hx, hb, hml, hown, hts⟩ (zcwV hts zm_127 zm_128 zm_129 zm_19 zm_126 rfl rfl zdv_X10_clear ⟨Nat.le_of_ble_eq_true rfl, Nat.le_of_ble_eq_true rfl⟩) hA hK hZ hP hD hS [0, 1, 2, 3, 4, 5, 6, 7, 8, 9, 10, 11, 12, 13, 14, 15, 16, 17, 18, 19, 20, 21, 22, 23, 24, 25, 26, 27, 28, 29, 30, 31, 32, 33] [] [0, 1, 2, 3, 4, 5, 6, 7, 8, 9, 10, 11, 12, 13, 14, 15, 16, 17, 18, 19, 20, 21, 22, 23, 24, 25, 26, 27, 28, 29, 30, 31, 32, 33] rfl rfl rfl rfl rfl rfl rfl 7 0 rfl rfl rfl hl.1 (Nat.le_of_ble_eq_true rfl) dX10_lay_1 rfl (fun H locs hP hD hS => ?_)
  refine lv_iconst (v := 0) hx hb dX10_lay_4 (by decide) ?_
  refine lv_istore_n (lv' := [(1, .int 0), (0, .ref (ad_M 0))]) hx hb dX10_lay_5 rfl hl (by decide) rfl (fun ls hl => ?_)
  exact l6 fuel 0 M_pile o_1.1 M_where o_1.2 _ _ hF hP hD hS ls (lv_sub hl [1, 0] rfl)
abbrev roX10_placeOf : Room := { frames := 0, cells := 0, slots := 0, locals := 0 }
set_option maxHeartbeats 4000000 in
set_option maxRecDepth 100000 in
theorem kX10_placeOf (l : Launch) (D : va_G) (ca : Nat → ClassId) (t : Nat → Nat) (ad_M : Nat → Nat) (M_guests : Int32) (M_kind : Nat → Int32) (M_figure : Nat → Int32) (M_told : Nat → Int32) (M_heaps : Int32) (M_holds : Int32) (M_back : Int32) (M_mistakes : Int32) (M_hooks : Int32) (M_letters : Int32) (M_rule : Nat → Int32) (M_at : Int32) (M_well : Int32) (M_sort : Int32) (M_text : Int32) (M_row : Int32) (M_field : Nat → Int32) (M_fields : Int32) (M_begins : Nat → Int32) (M_ruleLetters : Nat → Int32) (M_coming : Nat → Int32) (M_comingMany : Int32) (M_going : Nat → Int32) (M_goingMany : Int32) (M_minute : Nat → Int32) (M_pile : Nat → Int32) (M_high : Nat → Int32) (M_where : Nat → Int32) (M_latest : Int32) (M_lifts : Nat → Int32) (M_begun : Nat → Int32) (M_left : Nat → Int32) (M_has : Nat → Int32) (M_lifted : Nat → Int32) (M_taken : Nat → Int32) (M_above : Nat → Int32) (M_allLifts : Int32) (M_busy : Int32) (M_longest : Nat → Int32) (M_onto : Nat → Int32) (M_worst : Int32) (M_best : Int32) (M_orders : Int32) (M_together : Int32) (M_ofOne : Nat → Int32) (M_ofOther : Nat → Int32) (M_seed : Int32) (M_then : Nat → Int32) (M_was : Nat → Int32) (M_kept : Int32) (M_held : Nat → Int32) (M_kindOn : Nat → Int32) (M_figureOn : Nat → Int32) (M_sorts : Nat → Int32) (M_size : Nat → Int32) (M_items : Nat → Int32) (M_moved : Nat → Int32) (M_thrown : Int32) (p1 : Int32) (p2 : Int32) (fuel : Nat) (o : Int32) (hF : fX10_placeOf fuel M_pile M_high p1 p2 = some o) : zRi l D (zT ca) t yX10_placeOf (.code yX10_placeOf cX10_placeOf 4 (some .int) :: zW) roX10_placeOf [.ref (ad_M 0), .int p1, .int p2] (wX10_M ca ad_M M_guests M_kind M_figure M_told M_heaps M_holds M_back M_mistakes M_hooks M_letters M_rule M_at M_well M_sort M_text M_row M_field M_fields M_begins M_ruleLetters M_coming M_comingMany M_going M_goingMany M_minute M_pile M_high M_where M_latest M_lifts M_begun M_left M_has M_lifted M_taken M_above M_allLifts M_busy M_longest M_onto M_worst M_best M_orders M_together M_ofOne M_ofOther M_seed M_then M_was M_kept M_held M_kindOn M_figureOn M_sorts M_size M_items M_moved M_thrown) o := by
  refine zRi_of (cc := cX10_placeOf) (maxL := 4) (by decide) rfl (Nat.le_of_ble_eq_true rfl) ?_
  intro p e s m args below meth c A Q ls ⟨hx, hb, hml, hown, hts, hA, hK, hZ, hS⟩ hret hP hD hl
  have hts := fun w h => hts w (List.mem_cons_of_mem _ h)
  have hown : s.vm.findClass RX10 = some m.cls := hown
  have hl : lv_has ls 4 [(0, .ref (ad_M 0)), (1, .int p1), (2, .int p2)] := hl
  have hin10 := zin_X10
  have l2 : ∀ (n2 : Nat) (v3 : Int32), fX10_placeOf_L2 M_pile M_high p1 p2 n2 v3 = some o → ∀ ls : Array Slot, lv_has ls 4 [(0, .ref (ad_M 0)), (1, .int p1), (2, .int p2), (3, .int v3)] → W p l e roX10_placeOf s m args below meth c s.heap [] 0 0 Q (F0 m 2 ls []) := by
    intro n2
    induction n2 with
    | zero =>
      intro v3 hF
      rw [fX10_placeOf_L2] at hF
      cases hF
    | succ n2 ih2 =>
      intro v3 hF ls hl
      rw [fX10_placeOf_L2] at hF
      refine lv_iload_n hx hb dX10_placeOf_2 rfl (lv_at hl 3 rfl) ?_
      refine lv_aload_n hx hb dX10_placeOf_3 rfl (lv_at hl 0 rfl) ?_
      refine va_get (D := D) (ci := 7) (v := .ref (ad_M 12)) (C := RX10) (T := TX10) (N := 58) hx hb hts hin10 hown hK hP 0 rfl rfl 26 (by decide) (hts _ zm_107) (fun _ h9 => h9) rfl dX10_placeOf_4 ?_
      refine lv_iload_n hx hb dX10_placeOf_7 rfl (lv_at hl 2 rfl) ?_
      obtain ⟨h_1, hF⟩ := zgi hF
      refine va_iald hx hb hK hP 12 0 rfl rfl h_1 dX10_placeOf_8 ?_
      refine lv_icmp_ge (tgt := 35) hx hb dX10_placeOf_9 (by decide) (fun c_2 => ?_) (fun c_2 => ?_)
      · have hF := zt c_2 hF
        refine lv_bipush (v := (-4)) hx hb dX10_placeOf_35 (by decide) ?_
        obtain rfl := Option.some.inj hF
        exact hret _ _ rfl dX10_placeOf_37
      · have hF := zf c_2 hF
        refine lv_aload_n hx hb dX10_placeOf_12 rfl (lv_at hl 0 rfl) ?_
        refine va_get (D := D) (ci := 7) (v := .ref (ad_M 11)) (C := RX10) (T := TX10) (N := 58) hx hb hts hin10 hown hK hP 0 rfl rfl 25 (by decide) (hts _ zm_108) (fun _ h9 => h9) rfl dX10_placeOf_13 ?_
        refine lv_bipush (v := 10) hx hb dX10_placeOf_16 (by decide) ?_
        refine lv_iload_n hx hb dX10_placeOf_18 rfl (lv_at hl 2 rfl) ?_
        refine lv_imul hx hb dX10_placeOf_19 ?_
        refine lv_iload_n hx hb dX10_placeOf_20 rfl (lv_at hl 3 rfl) ?_
        refine lv_iadd hx hb dX10_placeOf_21 ?_
        obtain ⟨h_3, hF⟩ := zgi hF
        refine va_iald hx hb hK hP 11 0 rfl rfl h_3 dX10_placeOf_22 ?_
        refine lv_iload_n hx hb dX10_placeOf_23 rfl (lv_at hl 1 rfl) ?_
        refine lv_icmp_ne (tgt := 29) hx hb dX10_placeOf_24 (by decide) (fun c_4 => ?_) (fun c_4 => ?_)
        · have hF := zf c_4 hF
          refine z_iinc (kv := 1) hx hb 3 dX10_placeOf_29 hl rfl (by decide) (by decide) (fun g => [(3, .int g), (0, .ref (ad_M 0)), (1, .int p1), (2, .int p2)]) (fun _ => rfl) hF (fun v3_5 ls hF hl => ?_)
          refine lv_goto (tgt := 2) hx hb dX10_placeOf_32 (by decide) ?_
          exact ih2 v3_5 hF ls (lv_sub hl [1, 2, 3, 0] rfl)
        · have hF := zt c_4 hF
          refine lv_iload_n hx hb dX10_placeOf_27 rfl (lv_at hl 3 rfl) ?_
          obtain rfl := Option.some.inj hF
          exact hret _ _ rfl dX10_placeOf_28
  unfold fX10_placeOf at hF
  refine lv_iconst (v := 0) hx hb dX10_placeOf_0 (by decide) ?_
  refine lv_istore_n (lv' := [(3, .int 0), (0, .ref (ad_M 0)), (1, .int p1), (2, .int p2)]) hx hb dX10_placeOf_1 rfl hl (by decide) rfl (fun ls hl => ?_)
  exact l2 fuel 0 hF ls (lv_sub hl [1, 2, 3, 0] rfl)
theorem zdv_X10_isBlack : yX10_isBlack.cls = RX10 ∧ yX10_isBlack.cls ≠ "java/lang/invoke/MethodHandle" ∧ yX10_isBlack.cls ≠ "java/lang/invoke/VarHandle" ∧ (parseMethodDescriptor yX10_isBlack.desc).map (fun d => d.parameters.length) = some 1 := by decide +kernel
abbrev roX10_topBlack : Room := { frames := 1, cells := 0, slots := 0, locals := 21 }
set_option maxHeartbeats 4000000 in
set_option maxRecDepth 100000 in
theorem kX10_topBlack (l : Launch) (D : va_G) (ca : Nat → ClassId) (t : Nat → Nat) (ad_M : Nat → Nat) (M_guests : Int32) (M_kind : Nat → Int32) (M_figure : Nat → Int32) (M_told : Nat → Int32) (M_heaps : Int32) (M_holds : Int32) (M_back : Int32) (M_mistakes : Int32) (M_hooks : Int32) (M_letters : Int32) (M_rule : Nat → Int32) (M_at : Int32) (M_well : Int32) (M_sort : Int32) (M_text : Int32) (M_row : Int32) (M_field : Nat → Int32) (M_fields : Int32) (M_begins : Nat → Int32) (M_ruleLetters : Nat → Int32) (M_coming : Nat → Int32) (M_comingMany : Int32) (M_going : Nat → Int32) (M_goingMany : Int32) (M_minute : Nat → Int32) (M_pile : Nat → Int32) (M_high : Nat → Int32) (M_where : Nat → Int32) (M_latest : Int32) (M_lifts : Nat → Int32) (M_begun : Nat → Int32) (M_left : Nat → Int32) (M_has : Nat → Int32) (M_lifted : Nat → Int32) (M_taken : Nat → Int32) (M_above : Nat → Int32) (M_allLifts : Int32) (M_busy : Int32) (M_longest : Nat → Int32) (M_onto : Nat → Int32) (M_worst : Int32) (M_best : Int32) (M_orders : Int32) (M_together : Int32) (M_ofOne : Nat → Int32) (M_ofOther : Nat → Int32) (M_seed : Int32) (M_then : Nat → Int32) (M_was : Nat → Int32) (M_kept : Int32) (M_held : Nat → Int32) (M_kindOn : Nat → Int32) (M_figureOn : Nat → Int32) (M_sorts : Nat → Int32) (M_size : Nat → Int32) (M_items : Nat → Int32) (M_moved : Nat → Int32) (M_thrown : Int32) (p1 : Int32) (fuel : Nat) (o : Int32) (hF : fX10_topBlack fuel M_kind M_pile M_high p1 = some o) : zRi l D (zT ca) t yX10_topBlack (.code yX10_topBlack cX10_topBlack 3 (some .int) :: zW) roX10_topBlack [.ref (ad_M 0), .int p1] (wX10_M ca ad_M M_guests M_kind M_figure M_told M_heaps M_holds M_back M_mistakes M_hooks M_letters M_rule M_at M_well M_sort M_text M_row M_field M_fields M_begins M_ruleLetters M_coming M_comingMany M_going M_goingMany M_minute M_pile M_high M_where M_latest M_lifts M_begun M_left M_has M_lifted M_taken M_above M_allLifts M_busy M_longest M_onto M_worst M_best M_orders M_together M_ofOne M_ofOther M_seed M_then M_was M_kept M_held M_kindOn M_figureOn M_sorts M_size M_items M_moved M_thrown) o := by
  refine zRi_of (cc := cX10_topBlack) (maxL := 3) (by decide) rfl (Nat.le_of_ble_eq_true rfl) ?_
  intro p e s m args below meth c A Q ls ⟨hx, hb, hml, hown, hts, hA, hK, hZ, hS⟩ hret hP hD hl
  have hts := fun w h => hts w (List.mem_cons_of_mem _ h)
  have hown : s.vm.findClass RX10 = some m.cls := hown
  have hl : lv_has ls 3 [(0, .ref (ad_M 0)), (1, .int p1)] := hl
  have hin10 := zin_X10
  have l9 : ∀ (n9 : Nat) (v2 : Int32), fX10_topBlack_L9 fuel M_kind M_pile p1 n9 v2 = some o → ∀ ls : Array Slot, lv_has ls 3 [(0, .ref (ad_M 0)), (1, .int p1), (2, .int v2)] → W p l e roX10_topBlack s m args below meth c s.heap [] 0 0 Q (F0 m 9 ls []) := by
    intro n9
    induction n9 with
    | zero =>
      intro v2 hF
      rw [fX10_topBlack_L9] at hF
      cases hF
    | succ n9 ih9 =>
      intro v2 hF ls hl
      rw [fX10_topBlack_L9] at hF
      refine lv_iload_n hx hb dX10_topBlack_9 rfl (lv_at hl 2 rfl) ?_
      refine lv_if_lt (tgt := 37) hx hb dX10_topBlack_10 (by decide) (fun c_3 => ?_) (fun c_3 => ?_)
      · have hF := zt c_3 hF
        refine lv_iload_n hx hb dX10_topBlack_37 rfl (lv_at hl 2 rfl) ?_
        obtain rfl := Option.some.inj hF
        exact hret _ _ rfl dX10_topBlack_38
      · have hF := zf c_3 hF
        refine lv_aload_n hx hb dX10_topBlack_13 rfl (lv_at hl 0 rfl) ?_
        refine lv_aload_n hx hb dX10_topBlack_14 rfl (lv_at hl 0 rfl) ?_
        refine va_get (D := D) (ci := 7) (v := .ref (ad_M 11)) (C := RX10) (T := TX10) (N := 58) hx hb hts hin10 hown hK hP 0 rfl rfl 25 (by decide) (hts _ zm_108) (fun _ h9 => h9) rfl dX10_topBlack_15 ?_
        refine lv_bipush (v := 10) hx hb dX10_topBlack_18 (by decide) ?_
        refine lv_iload_n hx hb dX10_topBlack_20 rfl (lv_at hl 1 rfl) ?_
        refine lv_imul hx hb dX10_topBlack_21 ?_
        refine lv_iload_n hx hb dX10_topBlack_22 rfl (lv_at hl 2 rfl) ?_
        refine lv_iadd hx hb dX10_topBlack_23 ?_
        obtain ⟨h_4, hF⟩ := zgi hF
        refine va_iald hx hb hK hP 11 0 rfl rfl h_4 dX10_topBlack_24 ?_
        obtain ⟨o_5, hc_5, hF⟩ := zb hF
        refine zcVR (rest := []) (kX10_isBlack l D ca t ad_M M_guests M_kind M_figure M_told M_heaps M_holds M_back M_mistakes M_hooks M_letters M_rule M_at M_well M_sort M_text M_row M_field M_fields M_begins M_ruleLetters M_coming M_comingMany M_going M_goingMany M_minute M_pile M_high M_where M_latest M_lifts M_begun M_left M_has M_lifted M_taken M_above M_allLifts M_busy M_longest M_onto M_worst M_best M_orders M_together M_ofOne M_ofOther M_seed M_then M_was M_kept M_held M_kindOn M_figureOn M_sorts M_size M_items M_moved M_thrown ((M_pile (((10 * p1) + v2)).toNatClampNeg)) fuel _ hc_5) ⟨hx, hb, hml, hown, hts⟩ (zcwV hts zm_140 zm_141 zm_142 zm_19 zm_139 rfl rfl zdv_X10_isBlack ⟨Nat.le_of_ble_eq_true rfl, Nat.le_of_ble_eq_true rfl⟩) hA hK hZ hP hD hS [0, 1, 2, 3, 4, 5, 6, 7, 8, 9, 10, 11, 12, 13, 14, 15, 16, 17, 18, 19, 20, 21, 22, 23, 24, 25, 26, 27, 28, 29, 30, 31, 32, 33] rfl rfl 7 0 rfl rfl rfl hl.1 (Nat.le_of_ble_eq_true rfl) dX10_topBlack_25 rfl ?_
        refine lv_if_ne (tgt := 37) hx hb dX10_topBlack_28 (by decide) (fun c_6 => ?_) (fun c_6 => ?_)
        · have hF := zf c_6 hF
          refine lv_iload_n hx hb dX10_topBlack_37 rfl (lv_at hl 2 rfl) ?_
          obtain rfl := Option.some.inj hF
          exact hret _ _ rfl dX10_topBlack_38
        · have hF := zt c_6 hF
          refine z_iinc (kv := (-1)) hx hb 2 dX10_topBlack_31 hl rfl (by decide) (by decide) (fun g => [(2, .int g), (0, .ref (ad_M 0)), (1, .int p1)]) (fun _ => rfl) hF (fun v2_7 ls hF hl => ?_)
          refine lv_goto (tgt := 9) hx hb dX10_topBlack_34 (by decide) ?_
          exact ih9 v2_7 hF ls (lv_sub hl [1, 2, 0] rfl)
  unfold fX10_topBlack at hF
  refine lv_aload_n hx hb dX10_topBlack_0 rfl (lv_at hl 0 rfl) ?_
  refine va_get (D := D) (ci := 7) (v := .ref (ad_M 12)) (C := RX10) (T := TX10) (N := 58) hx hb hts hin10 hown hK hP 0 rfl rfl 26 (by decide) (hts _ zm_107) (fun _ h9 => h9) rfl dX10_topBlack_1 ?_
  refine lv_iload_n hx hb dX10_topBlack_4 rfl (lv_at hl 1 rfl) ?_
  obtain ⟨h_1, hF⟩ := zgi hF
  refine va_iald hx hb hK hP 12 0 rfl rfl h_1 dX10_topBlack_5 ?_
  refine lv_iconst (v := 1) hx hb dX10_topBlack_6 (by decide) ?_
  refine lv_isub hx hb dX10_topBlack_7 ?_
  refine z_let hF (fun v2_2 hF => ?_)
  refine lv_istore_n (lv' := [(2, .int v2_2), (0, .ref (ad_M 0)), (1, .int p1)]) hx hb dX10_topBlack_8 rfl hl (by decide) rfl (fun ls hl => ?_)
  exact l9 fuel v2_2 hF ls (lv_sub hl [1, 2, 0] rfl)
abbrev roX10_dig : Room := { frames := 2, cells := 0, slots := 0, locals := 42 }
set_option maxHeartbeats 4000000 in
set_option maxRecDepth 100000 in
theorem kX10_dig (l : Launch) (D : va_G) (ca : Nat → ClassId) (t : Nat → Nat) (ad_M : Nat → Nat) (M_guests : Int32) (M_kind : Nat → Int32) (M_figure : Nat → Int32) (M_told : Nat → Int32) (M_heaps : Int32) (M_holds : Int32) (M_back : Int32) (M_mistakes : Int32) (M_hooks : Int32) (M_letters : Int32) (M_rule : Nat → Int32) (M_at : Int32) (M_well : Int32) (M_sort : Int32) (M_text : Int32) (M_row : Int32) (M_field : Nat → Int32) (M_fields : Int32) (M_begins : Nat → Int32) (M_ruleLetters : Nat → Int32) (M_coming : Nat → Int32) (M_comingMany : Int32) (M_going : Nat → Int32) (M_goingMany : Int32) (M_minute : Nat → Int32) (M_pile : Nat → Int32) (M_high : Nat → Int32) (M_where : Nat → Int32) (M_latest : Int32) (M_lifts : Nat → Int32) (M_begun : Nat → Int32) (M_left : Nat → Int32) (M_has : Nat → Int32) (M_lifted : Nat → Int32) (M_taken : Nat → Int32) (M_above : Nat → Int32) (M_allLifts : Int32) (M_busy : Int32) (M_longest : Nat → Int32) (M_onto : Nat → Int32) (M_worst : Int32) (M_best : Int32) (M_orders : Int32) (M_together : Int32) (M_ofOne : Nat → Int32) (M_ofOther : Nat → Int32) (M_seed : Int32) (M_then : Nat → Int32) (M_was : Nat → Int32) (M_kept : Int32) (M_held : Nat → Int32) (M_kindOn : Nat → Int32) (M_figureOn : Nat → Int32) (M_sorts : Nat → Int32) (M_size : Nat → Int32) (M_items : Nat → Int32) (M_moved : Nat → Int32) (M_thrown : Int32) (p1 : Int32) (p2 : Int32) (p3 : Int32) (fuel : Nat) (o : (Nat → Int32) × (Nat → Int32) × (Nat → Int32) × (Nat → Int32) × (Nat → Int32) × (Nat → Int32) × (Nat → Int32)) (hF : fX10_dig fuel M_kind M_figure M_heaps M_back M_pile M_high M_lifts M_has M_lifted M_taken M_above p1 p2 p3 = some o) : zMv l D (zT ca) t yX10_dig (.code yX10_dig cX10_dig 7 none :: zW) roX10_dig [.ref (ad_M 0), .int p1, .int p2, .int p3] (wX10_M ca ad_M M_guests M_kind M_figure M_told M_heaps M_holds M_back M_mistakes M_hooks M_letters M_rule M_at M_well M_sort M_text M_row M_field M_fields M_begins M_ruleLetters M_coming M_comingMany M_going M_goingMany M_minute M_pile M_high M_where M_latest M_lifts M_begun M_left M_has M_lifted M_taken M_above M_allLifts M_busy M_longest M_onto M_worst M_best M_orders M_together M_ofOne M_ofOther M_seed M_then M_was M_kept M_held M_kindOn M_figureOn M_sorts M_size M_items M_moved M_thrown) (wX10_M ca ad_M M_guests M_kind M_figure M_told M_heaps M_holds M_back M_mistakes M_hooks M_letters M_rule M_at M_well M_sort M_text M_row M_field M_fields M_begins M_ruleLetters M_coming M_comingMany M_going M_goingMany M_minute o.1 o.2.1 M_where M_latest o.2.2.1 M_begun M_left o.2.2.2.1 o.2.2.2.2.1 o.2.2.2.2.2.1 o.2.2.2.2.2.2 M_allLifts M_busy M_longest M_onto M_worst M_best M_orders M_together M_ofOne M_ofOther M_seed M_then M_was M_kept M_held M_kindOn M_figureOn M_sorts M_size M_items M_moved M_thrown) := by
  refine zMv_of (cc := cX10_dig) (maxL := 7) (by decide) rfl (Nat.le_of_ble_eq_true rfl) ?_
  intro p e s m args below meth c A Q ls ⟨hx, hb, hml, hown, hts, hA, hK, hZ, hS⟩ hret hP hD hl
  have hts := fun w h => hts w (List.mem_cons_of_mem _ h)
  have hown : s.vm.findClass RX10 = some m.cls := hown
  have hl : lv_has ls 7 [(0, .ref (ad_M 0)), (1, .int p1), (2, .int p2), (3, .int p3)] := hl
  have hin10 := zin_X10
  have l133 : ∀ (n133 : Nat) (v5 : Int32) (v6 : Int32) (M_pile : Nat → Int32) (M_high : Nat → Int32) (M_lifts : Nat → Int32) (M_has : Nat → Int32) (M_lifted : Nat → Int32) (M_taken : Nat → Int32) (M_above : Nat → Int32) (H : Heap) (locs : List Loc), fX10_dig_L133 fuel M_heaps M_back p2 n133 v5 v6 M_pile M_high M_lifts M_has M_lifted M_taken M_above = some o → va_P D vwCl (wX10_M ca ad_M M_guests M_kind M_figure M_told M_heaps M_holds M_back M_mistakes M_hooks M_letters M_rule M_at M_well M_sort M_text M_row M_field M_fields M_begins M_ruleLetters M_coming M_comingMany M_going M_goingMany M_minute M_pile M_high M_where M_latest M_lifts M_begun M_left M_has M_lifted M_taken M_above M_allLifts M_busy M_longest M_onto M_worst M_best M_orders M_together M_ofOne M_ofOther M_seed M_then M_was M_kept M_held M_kindOn M_figureOn M_sorts M_size M_items M_moved M_thrown) H → va_D A (wX10_M ca ad_M M_guests M_kind M_figure M_told M_heaps M_holds M_back M_mistakes M_hooks M_letters M_rule M_at M_well M_sort M_text M_row M_field M_fields M_begins M_ruleLetters M_coming M_comingMany M_going M_goingMany M_minute M_pile M_high M_where M_latest M_lifts M_begun M_left M_has M_lifted M_taken M_above M_allLifts M_busy M_longest M_onto M_worst M_best M_orders M_together M_ofOne M_ofOther M_seed M_then M_was M_kept M_held M_kindOn M_figureOn M_sorts M_size M_items M_moved M_thrown) → va_S A s.heap H locs → ∀ ls : Array Slot, lv_has ls 7 [(0, .ref (ad_M 0)), (2, .int p2), (5, .int v5), (6, .int v6)] → W p l e roX10_dig s m args below meth c H locs 0 0 Q (F0 m 133 ls []) := by
    intro n133
    induction n133 with
    | zero =>
      intro v5 v6 M_pile M_high M_lifts M_has M_lifted M_taken M_above H locs hF
      rw [fX10_dig_L133] at hF
      cases hF
    | succ n133 ih133 =>
      have j198 : ∀ (v5 : Int32) (v6 : Int32) (M_pile : Nat → Int32) (M_high : Nat → Int32) (M_lifts : Nat → Int32) (M_has : Nat → Int32) (M_lifted : Nat → Int32) (M_taken : Nat → Int32) (M_above : Nat → Int32) (H : Heap) (locs : List Loc), fX10_dig_J198 (fX10_dig_L133 fuel M_heaps M_back p2 n133) v5 v6 M_pile M_high M_lifts M_has M_lifted M_taken M_above = some o → va_P D vwCl (wX10_M ca ad_M M_guests M_kind M_figure M_told M_heaps M_holds M_back M_mistakes M_hooks M_letters M_rule M_at M_well M_sort M_text M_row M_field M_fields M_begins M_ruleLetters M_coming M_comingMany M_going M_goingMany M_minute M_pile M_high M_where M_latest M_lifts M_begun M_left M_has M_lifted M_taken M_above M_allLifts M_busy M_longest M_onto M_worst M_best M_orders M_together M_ofOne M_ofOther M_seed M_then M_was M_kept M_held M_kindOn M_figureOn M_sorts M_size M_items M_moved M_thrown) H → va_D A (wX10_M ca ad_M M_guests M_kind M_figure M_told M_heaps M_holds M_back M_mistakes M_hooks M_letters M_rule M_at M_well M_sort M_text M_row M_field M_fields M_begins M_ruleLetters M_coming M_comingMany M_going M_goingMany M_minute M_pile M_high M_where M_latest M_lifts M_begun M_left M_has M_lifted M_taken M_above M_allLifts M_busy M_longest M_onto M_worst M_best M_orders M_together M_ofOne M_ofOther M_seed M_then M_was M_kept M_held M_kindOn M_figureOn M_sorts M_size M_items M_moved M_thrown) → va_S A s.heap H locs → ∀ ls : Array Slot, lv_has ls 7 [(0, .ref (ad_M 0)), (2, .int p2), (5, .int v5), (6, .int v6)] → W p l e roX10_dig s m args below meth c H locs 0 0 Q (F0 m 198 ls []) := by
        intro v5 v6 M_pile M_high M_lifts M_has M_lifted M_taken M_above H locs hF hP hD hS ls hl
        unfold fX10_dig_J198 at hF
        refine z_iinc (kv := 1) hx hb 3 dX10_dig_198 hl rfl (by decide) (by decide) (fun g => [(6, .int g), (0, .ref (ad_M 0)), (2, .int p2), (5, .int v5)]) (fun _ => rfl) hF (fun v6_34 ls hF hl => ?_)
        refine lv_goto (tgt := 133) hx hb dX10_dig_201 (by decide) ?_
        exact ih133 v5 v6_34 M_pile M_high M_lifts M_has M_lifted M_taken M_above _ _ hF hP hD hS ls (lv_sub hl [1, 2, 3, 0] rfl)
      intro v5 v6 M_pile M_high M_lifts M_has M_lifted M_taken M_above H locs hF hP hD hS ls hl
      rw [fX10_dig_L133] at hF
      refine lv_iload hx hb dX10_dig_133 (lv_at hl 3 rfl) ?_
      refine lv_iload hx hb dX10_dig_135 (lv_at hl 2 rfl) ?_
      refine lv_icmp_ge (tgt := 204) hx hb dX10_dig_137 (by decide) (fun c_24 => ?_) (fun c_24 => ?_)
      · have hF := zt c_24 hF
        obtain rfl := Option.some.inj hF
        exact hret _ _ _ _ hP hD hS dX10_dig_204
      · have hF := zf c_24 hF
        refine lv_aload_n hx hb dX10_dig_140 rfl (lv_at hl 0 rfl) ?_
        refine va_get (D := D) (ci := 7) (v := .int M_back) (C := RX10) (T := TX10) (N := 58) hx hb hts hin10 hown hK hP 0 rfl rfl 6 (by decide) (hts _ zm_60) (fun _ h9 => h9) rfl dX10_dig_141 ?_
        refine lv_if_ne (tgt := 167) hx hb dX10_dig_144 (by decide) (fun c_25 => ?_) (fun c_25 => ?_)
        · have hF := zf c_25 hF
          refine lv_aload_n hx hb dX10_dig_167 rfl (lv_at hl 0 rfl) ?_
          refine lv_aload_n hx hb dX10_dig_168 rfl (lv_at hl 0 rfl) ?_
          refine va_get (D := D) (ci := 7) (v := .int M_back) (C := RX10) (T := TX10) (N := 58) hx hb hts hin10 hown hK hP 0 rfl rfl 6 (by decide) (hts _ zm_60) (fun _ h9 => h9) rfl dX10_dig_169 ?_
          refine lv_iconst (v := 2) hx hb dX10_dig_172 (by decide) ?_
          refine lv_icmp_ne (tgt := 187) hx hb dX10_dig_173 (by decide) (fun c_26 => ?_) (fun c_26 => ?_)
          · have hF := zf c_26 hF
            refine lv_iload_n hx hb dX10_dig_187 rfl (lv_at hl 1 rfl) ?_
            refine lv_aload_n hx hb dX10_dig_188 rfl (lv_at hl 0 rfl) ?_
            refine va_get (D := D) (ci := 7) (v := .ref (ad_M 20)) (C := RX10) (T := TX10) (N := 58) hx hb hts hin10 hown hK hP 0 rfl rfl 35 (by decide) (hts _ zm_143) (fun _ h9 => h9) rfl dX10_dig_189 ?_
            refine lv_iload hx hb dX10_dig_192 (lv_at hl 3 rfl) ?_
            obtain ⟨h_27, hF⟩ := zgi hF
            refine va_iald hx hb hK hP 20 0 rfl rfl h_27 dX10_dig_194 ?_
            obtain ⟨o_28, hc_28, hF⟩ := zb hF
            refine zcVv (rest := []) (ws' := (wX10_M ca ad_M M_guests M_kind M_figure M_told M_heaps M_holds M_back M_mistakes M_hooks M_letters M_rule M_at M_well M_sort M_text M_row M_field M_fields M_begins M_ruleLetters M_coming M_comingMany M_going M_goingMany M_minute o_28.1 o_28.2 M_where M_latest M_lifts M_begun M_left M_has M_lifted M_taken M_above M_allLifts M_busy M_longest M_onto M_worst M_best M_orders M_together M_ofOne M_ofOther M_seed M_then M_was M_kept M_held M_kindOn M_figureOn M_sorts M_size M_items M_moved M_thrown)) (kX10_putOn l D ca t ad_M M_guests M_kind M_figure M_told M_heaps M_holds M_back M_mistakes M_hooks M_letters M_rule M_at M_well M_sort M_text M_row M_field M_fields M_begins M_ruleLetters M_coming M_comingMany M_going M_goingMany M_minute M_pile M_high M_where M_latest M_lifts M_begun M_left M_has M_lifted M_taken M_above M_allLifts M_busy M_longest M_onto M_worst M_best M_orders M_together M_ofOne M_ofOther M_seed M_then M_was M_kept M_held M_kindOn M_figureOn M_sorts M_size M_items M_moved M_thrown p2 (M_above v6.toNatClampNeg) fuel _ hc_28) ⟨hx, hb, hml, hown, hts⟩ (zcwV hts zm_136 zm_137 zm_138 zm_19 zm_135 rfl rfl zdv_X10_putOn ⟨Nat.le_of_ble_eq_true rfl, Nat.le_of_ble_eq_true rfl⟩) hA hK hZ hP hD hS [0, 1, 2, 3, 4, 5, 6, 7, 8, 9, 10, 11, 12, 13, 14, 15, 16, 17, 18, 19, 20, 21, 22, 23, 24, 25, 26, 27, 28, 29, 30, 31, 32, 33] [] [0, 1, 2, 3, 4, 5, 6, 7, 8, 9, 10, 11, 12, 13, 14, 15, 16, 17, 18, 19, 20, 21, 22, 23, 24, 25, 26, 27, 28, 29, 30, 31, 32, 33] rfl rfl rfl rfl rfl rfl rfl 7 0 rfl rfl rfl hl.1 (Nat.le_of_ble_eq_true rfl) dX10_dig_195 rfl (fun H locs hP hD hS => ?_)
            exact j198 v5 v6 o_28.1 o_28.2 M_lifts M_has M_lifted M_taken M_above _ _ hF hP hD hS ls (lv_sub hl [0, 1, 2, 3] rfl)
          · have hF := zt c_26 hF
            refine lv_iload_n hx hb dX10_dig_176 rfl (lv_at hl 1 rfl) ?_
            refine lv_iconst (v := 1) hx hb dX10_dig_177 (by decide) ?_
            refine lv_iadd hx hb dX10_dig_178 ?_
            refine lv_aload_n hx hb dX10_dig_179 rfl (lv_at hl 0 rfl) ?_
            refine va_get (D := D) (ci := 7) (v := .int M_heaps) (C := RX10) (T := TX10) (N := 58) hx hb hts hin10 hown hK hP 0 rfl rfl 4 (by decide) (hts _ zm_58) (fun _ h9 => h9) rfl dX10_dig_180 ?_
            obtain ⟨h_29, hF⟩ := zgd hF
            refine lv_irem hx hb dX10_dig_183 h_29 ?_
            refine lv_goto (tgt := 188) hx hb dX10_dig_184 (by decide) ?_
            refine lv_aload_n hx hb dX10_dig_188 rfl (lv_at hl 0 rfl) ?_
            refine va_get (D := D) (ci := 7) (v := .ref (ad_M 20)) (C := RX10) (T := TX10) (N := 58) hx hb hts hin10 hown hK hP 0 rfl rfl 35 (by decide) (hts _ zm_143) (fun _ h9 => h9) rfl dX10_dig_189 ?_
            refine lv_iload hx hb dX10_dig_192 (lv_at hl 3 rfl) ?_
            obtain ⟨h_30, hF⟩ := zgi hF
            refine va_iald hx hb hK hP 20 0 rfl rfl h_30 dX10_dig_194 ?_
            obtain ⟨o_31, hc_31, hF⟩ := zb hF
            refine zcVv (rest := []) (ws' := (wX10_M ca ad_M M_guests M_kind M_figure M_told M_heaps M_holds M_back M_mistakes M_hooks M_letters M_rule M_at M_well M_sort M_text M_row M_field M_fields M_begins M_ruleLetters M_coming M_comingMany M_going M_goingMany M_minute o_31.1 o_31.2 M_where M_latest M_lifts M_begun M_left M_has M_lifted M_taken M_above M_allLifts M_busy M_longest M_onto M_worst M_best M_orders M_together M_ofOne M_ofOther M_seed M_then M_was M_kept M_held M_kindOn M_figureOn M_sorts M_size M_items M_moved M_thrown)) (kX10_putOn l D ca t ad_M M_guests M_kind M_figure M_told M_heaps M_holds M_back M_mistakes M_hooks M_letters M_rule M_at M_well M_sort M_text M_row M_field M_fields M_begins M_ruleLetters M_coming M_comingMany M_going M_goingMany M_minute M_pile M_high M_where M_latest M_lifts M_begun M_left M_has M_lifted M_taken M_above M_allLifts M_busy M_longest M_onto M_worst M_best M_orders M_together M_ofOne M_ofOther M_seed M_then M_was M_kept M_held M_kindOn M_figureOn M_sorts M_size M_items M_moved M_thrown (((p2 + 1) - (p2 + 1) / M_heaps * M_heaps)) (M_above v6.toNatClampNeg) fuel _ hc_31) ⟨hx, hb, hml, hown, hts⟩ (zcwV hts zm_136 zm_137 zm_138 zm_19 zm_135 rfl rfl zdv_X10_putOn ⟨Nat.le_of_ble_eq_true rfl, Nat.le_of_ble_eq_true rfl⟩) hA hK hZ hP hD hS [0, 1, 2, 3, 4, 5, 6, 7, 8, 9, 10, 11, 12, 13, 14, 15, 16, 17, 18, 19, 20, 21, 22, 23, 24, 25, 26, 27, 28, 29, 30, 31, 32, 33] [] [0, 1, 2, 3, 4, 5, 6, 7, 8, 9, 10, 11, 12, 13, 14, 15, 16, 17, 18, 19, 20, 21, 22, 23, 24, 25, 26, 27, 28, 29, 30, 31, 32, 33] rfl rfl rfl rfl rfl rfl rfl 7 0 rfl rfl rfl hl.1 (Nat.le_of_ble_eq_true rfl) dX10_dig_195 rfl (fun H locs hP hD hS => ?_)
            exact j198 v5 v6 o_31.1 o_31.2 M_lifts M_has M_lifted M_taken M_above _ _ hF hP hD hS ls (lv_sub hl [0, 1, 2, 3] rfl)
        · have hF := zt c_25 hF
          refine lv_aload_n hx hb dX10_dig_147 rfl (lv_at hl 0 rfl) ?_
          refine lv_iload_n hx hb dX10_dig_148 rfl (lv_at hl 1 rfl) ?_
          refine lv_aload_n hx hb dX10_dig_149 rfl (lv_at hl 0 rfl) ?_
          refine va_get (D := D) (ci := 7) (v := .ref (ad_M 20)) (C := RX10) (T := TX10) (N := 58) hx hb hts hin10 hown hK hP 0 rfl rfl 35 (by decide) (hts _ zm_143) (fun _ h9 => h9) rfl dX10_dig_150 ?_
          refine lv_iload hx hb dX10_dig_153 (lv_at hl 2 rfl) ?_
          refine lv_iconst (v := 1) hx hb dX10_dig_155 (by decide) ?_
          refine lv_isub hx hb dX10_dig_156 ?_
          refine lv_iload hx hb dX10_dig_157 (lv_at hl 3 rfl) ?_
          refine lv_isub hx hb dX10_dig_159 ?_
          obtain ⟨h_32, hF⟩ := zgi hF
          refine va_iald hx hb hK hP 20 0 rfl rfl h_32 dX10_dig_160 ?_
          obtain ⟨o_33, hc_33, hF⟩ := zb hF
          refine zcVv (rest := []) (ws' := (wX10_M ca ad_M M_guests M_kind M_figure M_told M_heaps M_holds M_back M_mistakes M_hooks M_letters M_rule M_at M_well M_sort M_text M_row M_field M_fields M_begins M_ruleLetters M_coming M_comingMany M_going M_goingMany M_minute o_33.1 o_33.2 M_where M_latest M_lifts M_begun M_left M_has M_lifted M_taken M_above M_allLifts M_busy M_longest M_onto M_worst M_best M_orders M_together M_ofOne M_ofOther M_seed M_then M_was M_kept M_held M_kindOn M_figureOn M_sorts M_size M_items M_moved M_thrown)) (kX10_putOn l D ca t ad_M M_guests M_kind M_figure M_told M_heaps M_holds M_back M_mistakes M_hooks M_letters M_rule M_at M_well M_sort M_text M_row M_field M_fields M_begins M_ruleLetters M_coming M_comingMany M_going M_goingMany M_minute M_pile M_high M_where M_latest M_lifts M_begun M_left M_has M_lifted M_taken M_above M_allLifts M_busy M_longest M_onto M_worst M_best M_orders M_together M_ofOne M_ofOther M_seed M_then M_was M_kept M_held M_kindOn M_figureOn M_sorts M_size M_items M_moved M_thrown p2 ((M_above (((v5 - 1) - v6)).toNatClampNeg)) fuel _ hc_33) ⟨hx, hb, hml, hown, hts⟩ (zcwV hts zm_136 zm_137 zm_138 zm_19 zm_135 rfl rfl zdv_X10_putOn ⟨Nat.le_of_ble_eq_true rfl, Nat.le_of_ble_eq_true rfl⟩) hA hK hZ hP hD hS [0, 1, 2, 3, 4, 5, 6, 7, 8, 9, 10, 11, 12, 13, 14, 15, 16, 17, 18, 19, 20, 21, 22, 23, 24, 25, 26, 27, 28, 29, 30, 31, 32, 33] [] [0, 1, 2, 3, 4, 5, 6, 7, 8, 9, 10, 11, 12, 13, 14, 15, 16, 17, 18, 19, 20, 21, 22, 23, 24, 25, 26, 27, 28, 29, 30, 31, 32, 33] rfl rfl rfl rfl rfl rfl rfl 7 0 rfl rfl rfl hl.1 (Nat.le_of_ble_eq_true rfl) dX10_dig_161 rfl (fun H locs hP hD hS => ?_)
          refine lv_goto (tgt := 198) hx hb dX10_dig_164 (by decide) ?_
          exact j198 v5 v6 o_33.1 o_33.2 M_lifts M_has M_lifted M_taken M_above _ _ hF hP hD hS ls (lv_sub hl [0, 1, 2, 3] rfl)
  have j96 : ∀ (v4 : Int32) (v5 : Int32) (M_pile : Nat → Int32) (M_high : Nat → Int32) (M_lifts : Nat → Int32) (M_has : Nat → Int32) (M_lifted : Nat → Int32) (M_taken : Nat → Int32) (M_above : Nat → Int32) (H : Heap) (locs : List Loc), fX10_dig_J96 fuel M_heaps M_back p1 p2 p3 v4 v5 M_pile M_high M_lifts M_has M_lifted M_taken M_above = some o → va_P D vwCl (wX10_M ca ad_M M_guests M_kind M_figure M_told M_heaps M_holds M_back M_mistakes M_hooks M_letters M_rule M_at M_well M_sort M_text M_row M_field M_fields M_begins M_ruleLetters M_coming M_comingMany M_going M_goingMany M_minute M_pile M_high M_where M_latest M_lifts M_begun M_left M_has M_lifted M_taken M_above M_allLifts M_busy M_longest M_onto M_worst M_best M_orders M_together M_ofOne M_ofOther M_seed M_then M_was M_kept M_held M_kindOn M_figureOn M_sorts M_size M_items M_moved M_thrown) H → va_D A (wX10_M ca ad_M M_guests M_kind M_figure M_told M_heaps M_holds M_back M_mistakes M_hooks M_letters M_rule M_at M_well M_sort M_text M_row M_field M_fields M_begins M_ruleLetters M_coming M_comingMany M_going M_goingMany M_minute M_pile M_high M_where M_latest M_lifts M_begun M_left M_has M_lifted M_taken M_above M_allLifts M_busy M_longest M_onto M_worst M_best M_orders M_together M_ofOne M_ofOther M_seed M_then M_was M_kept M_held M_kindOn M_figureOn M_sorts M_size M_items M_moved M_thrown) → va_S A s.heap H locs → ∀ ls : Array Slot, lv_has ls 7 [(0, .ref (ad_M 0)), (1, .int p1), (2, .int p2), (3, .int p3), (4, .int v4), (5, .int v5)] → W p l e roX10_dig s m args below meth c H locs 0 0 Q (F0 m 96 ls []) := by
    intro v4 v5 M_pile M_high M_lifts M_has M_lifted M_taken M_above H locs hF hP hD hS ls hl
    unfold fX10_dig_J96 at hF
    refine lv_aload_n hx hb dX10_dig_96 rfl (lv_at hl 0 rfl) ?_
    refine va_get (D := D) (ci := 7) (v := .ref (ad_M 17)) (C := RX10) (T := TX10) (N := 58) hx hb hts hin10 hown hK hP 0 rfl rfl 32 (by decide) (hts _ zm_146) (fun _ h9 => h9) rfl dX10_dig_97 ?_
    refine lv_iload_n hx hb dX10_dig_100 rfl (lv_at hl 1 rfl) ?_
    refine lv_aload_n hx hb dX10_dig_101 rfl (lv_at hl 0 rfl) ?_
    refine va_get (D := D) (ci := 7) (v := .ref (ad_M 11)) (C := RX10) (T := TX10) (N := 58) hx hb hts hin10 hown hK hP 0 rfl rfl 25 (by decide) (hts _ zm_108) (fun _ h9 => h9) rfl dX10_dig_102 ?_
    refine lv_iload hx hb dX10_dig_105 (lv_at hl 4 rfl) ?_
    refine lv_iload_n hx hb dX10_dig_107 rfl (lv_at hl 3 rfl) ?_
    refine lv_iadd hx hb dX10_dig_108 ?_
    obtain ⟨h_17, hF⟩ := zgi hF
    refine va_iald hx hb hK hP 11 0 rfl rfl h_17 dX10_dig_109 ?_
    obtain ⟨h_18, hF⟩ := zgi hF
    refine z_iast hx hb hK hP hD hS 17 0 rfl rfl h_18 dX10_dig_110 (fun g => (wX10_M ca ad_M M_guests M_kind M_figure M_told M_heaps M_holds M_back M_mistakes M_hooks M_letters M_rule M_at M_well M_sort M_text M_row M_field M_fields M_begins M_ruleLetters M_coming M_comingMany M_going M_goingMany M_minute M_pile M_high M_where M_latest M_lifts M_begun M_left g M_lifted M_taken M_above M_allLifts M_busy M_longest M_onto M_worst M_best M_orders M_together M_ofOne M_ofOther M_seed M_then M_was M_kept M_held M_kindOn M_figureOn M_sorts M_size M_items M_moved M_thrown)) (fun _ => rfl) hF (fun M_has_19 H locs hF hP hD hS => ?_)
    refine lv_aload_n hx hb dX10_dig_111 rfl (lv_at hl 0 rfl) ?_
    refine va_get (D := D) (ci := 7) (v := .ref (ad_M 19)) (C := RX10) (T := TX10) (N := 58) hx hb hts hin10 hown hK hP 0 rfl rfl 34 (by decide) (hts _ zm_147) (fun _ h9 => h9) rfl dX10_dig_112 ?_
    refine lv_aload_n hx hb dX10_dig_115 rfl (lv_at hl 0 rfl) ?_
    refine va_get (D := D) (ci := 7) (v := .ref (ad_M 17)) (C := RX10) (T := TX10) (N := 58) hx hb hts hin10 hown hK hP 0 rfl rfl 32 (by decide) (hts _ zm_146) (fun _ h9 => h9) rfl dX10_dig_116 ?_
    refine lv_iload_n hx hb dX10_dig_119 rfl (lv_at hl 1 rfl) ?_
    refine va_iald hx hb hK hP 17 0 rfl rfl h_18 dX10_dig_120 ?_
    refine lv_iconst (v := 1) hx hb dX10_dig_121 (by decide) ?_
    obtain ⟨h_20, hF⟩ := zgi hF
    refine z_zast hx hb hK hP hD hS 19 1 rfl rfl h_20 dX10_dig_122 (fun g => (wX10_M ca ad_M M_guests M_kind M_figure M_told M_heaps M_holds M_back M_mistakes M_hooks M_letters M_rule M_at M_well M_sort M_text M_row M_field M_fields M_begins M_ruleLetters M_coming M_comingMany M_going M_goingMany M_minute M_pile M_high M_where M_latest M_lifts M_begun M_left M_has_19 M_lifted g M_above M_allLifts M_busy M_longest M_onto M_worst M_best M_orders M_together M_ofOne M_ofOther M_seed M_then M_was M_kept M_held M_kindOn M_figureOn M_sorts M_size M_items M_moved M_thrown)) (fun _ => rfl) hF (fun M_taken_21 H locs hF hP hD hS => ?_)
    refine lv_aload_n hx hb dX10_dig_123 rfl (lv_at hl 0 rfl) ?_
    refine va_get (D := D) (ci := 7) (v := .ref (ad_M 12)) (C := RX10) (T := TX10) (N := 58) hx hb hts hin10 hown hK hP 0 rfl rfl 26 (by decide) (hts _ zm_107) (fun _ h9 => h9) rfl dX10_dig_124 ?_
    refine lv_iload_n hx hb dX10_dig_127 rfl (lv_at hl 2 rfl) ?_
    refine lv_iload_n hx hb dX10_dig_128 rfl (lv_at hl 3 rfl) ?_
    obtain ⟨h_22, hF⟩ := zgi hF
    refine z_iast hx hb hK hP hD hS 12 0 rfl rfl h_22 dX10_dig_129 (fun g => (wX10_M ca ad_M M_guests M_kind M_figure M_told M_heaps M_holds M_back M_mistakes M_hooks M_letters M_rule M_at M_well M_sort M_text M_row M_field M_fields M_begins M_ruleLetters M_coming M_comingMany M_going M_goingMany M_minute M_pile g M_where M_latest M_lifts M_begun M_left M_has_19 M_lifted M_taken_21 M_above M_allLifts M_busy M_longest M_onto M_worst M_best M_orders M_together M_ofOne M_ofOther M_seed M_then M_was M_kept M_held M_kindOn M_figureOn M_sorts M_size M_items M_moved M_thrown)) (fun _ => rfl) hF (fun M_high_23 H locs hF hP hD hS => ?_)
    refine lv_iconst (v := 0) hx hb dX10_dig_130 (by decide) ?_
    refine lv_istore (lv' := [(6, .int 0), (0, .ref (ad_M 0)), (1, .int p1), (2, .int p2), (3, .int p3), (4, .int v4), (5, .int v5)]) hx hb dX10_dig_131 hl (by decide) rfl (fun ls hl => ?_)
    exact l133 fuel v5 0 M_pile M_high_23 M_lifts M_has_19 M_lifted M_taken_21 M_above _ _ hF hP hD hS ls (lv_sub hl [1, 3, 6, 0] rfl)
  have l21 : ∀ (n21 : Nat) (v4 : Int32) (v5 : Int32) (v6 : Int32) (M_pile : Nat → Int32) (M_high : Nat → Int32) (M_lifts : Nat → Int32) (M_has : Nat → Int32) (M_lifted : Nat → Int32) (M_taken : Nat → Int32) (M_above : Nat → Int32) (H : Heap) (locs : List Loc), fX10_dig_L21 fuel M_kind M_figure M_heaps M_back p1 p2 p3 n21 v4 v5 v6 M_pile M_high M_lifts M_has M_lifted M_taken M_above = some o → va_P D vwCl (wX10_M ca ad_M M_guests M_kind M_figure M_told M_heaps M_holds M_back M_mistakes M_hooks M_letters M_rule M_at M_well M_sort M_text M_row M_field M_fields M_begins M_ruleLetters M_coming M_comingMany M_going M_goingMany M_minute M_pile M_high M_where M_latest M_lifts M_begun M_left M_has M_lifted M_taken M_above M_allLifts M_busy M_longest M_onto M_worst M_best M_orders M_together M_ofOne M_ofOther M_seed M_then M_was M_kept M_held M_kindOn M_figureOn M_sorts M_size M_items M_moved M_thrown) H → va_D A (wX10_M ca ad_M M_guests M_kind M_figure M_told M_heaps M_holds M_back M_mistakes M_hooks M_letters M_rule M_at M_well M_sort M_text M_row M_field M_fields M_begins M_ruleLetters M_coming M_comingMany M_going M_goingMany M_minute M_pile M_high M_where M_latest M_lifts M_begun M_left M_has M_lifted M_taken M_above M_allLifts M_busy M_longest M_onto M_worst M_best M_orders M_together M_ofOne M_ofOther M_seed M_then M_was M_kept M_held M_kindOn M_figureOn M_sorts M_size M_items M_moved M_thrown) → va_S A s.heap H locs → ∀ ls : Array Slot, lv_has ls 7 [(0, .ref (ad_M 0)), (1, .int p1), (2, .int p2), (3, .int p3), (4, .int v4), (5, .int v5), (6, .int v6)] → W p l e roX10_dig s m args below meth c H locs 0 0 Q (F0 m 21 ls []) := by
    intro n21
    induction n21 with
    | zero =>
      intro v4 v5 v6 M_pile M_high M_lifts M_has M_lifted M_taken M_above H locs hF
      rw [fX10_dig_L21] at hF
      cases hF
    | succ n21 ih21 =>
      intro v4 v5 v6 M_pile M_high M_lifts M_has M_lifted M_taken M_above H locs hF hP hD hS ls hl
      rw [fX10_dig_L21] at hF
      refine lv_iload hx hb dX10_dig_21 (lv_at hl 6 rfl) ?_
      refine lv_iload hx hb dX10_dig_23 (lv_at hl 5 rfl) ?_
      refine lv_icmp_ge (tgt := 96) hx hb dX10_dig_25 (by decide) (fun c_4 => ?_) (fun c_4 => ?_)
      · have hF := zt c_4 hF
        exact j96 v4 v5 M_pile M_high M_lifts M_has M_lifted M_taken M_above _ _ hF hP hD hS ls (lv_sub hl [0, 1, 2, 3, 4, 5] rfl)
      · have hF := zf c_4 hF
        refine lv_aload_n hx hb dX10_dig_28 rfl (lv_at hl 0 rfl) ?_
        refine va_get (D := D) (ci := 7) (v := .ref (ad_M 20)) (C := RX10) (T := TX10) (N := 58) hx hb hts hin10 hown hK hP 0 rfl rfl 35 (by decide) (hts _ zm_143) (fun _ h9 => h9) rfl dX10_dig_29 ?_
        refine lv_iload hx hb dX10_dig_32 (lv_at hl 6 rfl) ?_
        refine lv_aload_n hx hb dX10_dig_34 rfl (lv_at hl 0 rfl) ?_
        refine va_get (D := D) (ci := 7) (v := .ref (ad_M 11)) (C := RX10) (T := TX10) (N := 58) hx hb hts hin10 hown hK hP 0 rfl rfl 25 (by decide) (hts _ zm_108) (fun _ h9 => h9) rfl dX10_dig_35 ?_
        refine lv_iload hx hb dX10_dig_38 (lv_at hl 4 rfl) ?_
        refine lv_aload_n hx hb dX10_dig_40 rfl (lv_at hl 0 rfl) ?_
        refine va_get (D := D) (ci := 7) (v := .ref (ad_M 12)) (C := RX10) (T := TX10) (N := 58) hx hb hts hin10 hown hK hP 0 rfl rfl 26 (by decide) (hts _ zm_107) (fun _ h9 => h9) rfl dX10_dig_41 ?_
        refine lv_iload_n hx hb dX10_dig_44 rfl (lv_at hl 2 rfl) ?_
        obtain ⟨h_5, hF⟩ := zgi hF
        refine va_iald hx hb hK hP 12 0 rfl rfl h_5 dX10_dig_45 ?_
        refine lv_iadd hx hb dX10_dig_46 ?_
        refine lv_iconst (v := 1) hx hb dX10_dig_47 (by decide) ?_
        refine lv_isub hx hb dX10_dig_48 ?_
        refine lv_iload hx hb dX10_dig_49 (lv_at hl 6 rfl) ?_
        refine lv_isub hx hb dX10_dig_51 ?_
        refine z_let hF (fun x_6 hF => ?_)
        obtain ⟨h_7, hF⟩ := zgi hF
        refine va_iald hx hb hK hP 11 0 rfl rfl h_7 dX10_dig_52 ?_
        obtain ⟨h_8, hF⟩ := zgi hF
        refine z_iast hx hb hK hP hD hS 20 0 rfl rfl h_8 dX10_dig_53 (fun g => (wX10_M ca ad_M M_guests M_kind M_figure M_told M_heaps M_holds M_back M_mistakes M_hooks M_letters M_rule M_at M_well M_sort M_text M_row M_field M_fields M_begins M_ruleLetters M_coming M_comingMany M_going M_goingMany M_minute M_pile M_high M_where M_latest M_lifts M_begun M_left M_has M_lifted M_taken g M_allLifts M_busy M_longest M_onto M_worst M_best M_orders M_together M_ofOne M_ofOther M_seed M_then M_was M_kept M_held M_kindOn M_figureOn M_sorts M_size M_items M_moved M_thrown)) (fun _ => rfl) hF (fun M_above_9 H locs hF hP hD hS => ?_)
        refine lv_aload_n hx hb dX10_dig_54 rfl (lv_at hl 0 rfl) ?_
        refine va_get (D := D) (ci := 7) (v := .ref (ad_M 14)) (C := RX10) (T := TX10) (N := 58) hx hb hts hin10 hown hK hP 0 rfl rfl 29 (by decide) (hts _ zm_144) (fun _ h9 => h9) rfl dX10_dig_55 ?_
        refine lv_iload_n hx hb dX10_dig_58 rfl (lv_at hl 1 rfl) ?_
        refine lv_dup2_11 hx hb dX10_dig_59 rfl rfl ?_
        obtain ⟨h_10, hF⟩ := zgi hF
        refine va_iald hx hb hK hP 14 0 rfl rfl h_10 dX10_dig_60 ?_
        refine lv_aload_n hx hb dX10_dig_61 rfl (lv_at hl 0 rfl) ?_
        refine lv_aload_n hx hb dX10_dig_62 rfl (lv_at hl 0 rfl) ?_
        refine va_get (D := D) (ci := 7) (v := .ref (ad_M 20)) (C := RX10) (T := TX10) (N := 58) hx hb hts hin10 hown hK hP 0 rfl rfl 35 (by decide) (hts _ zm_143) (fun _ h9 => h9) rfl dX10_dig_63 ?_
        refine lv_iload hx hb dX10_dig_66 (lv_at hl 6 rfl) ?_
        refine va_iald hx hb hK hP 20 0 rfl rfl h_8 dX10_dig_68 ?_
        obtain ⟨o_11, hc_11, hF⟩ := zb hF
        refine zcVR (rest := [.int (M_lifts p1.toNatClampNeg), .int p1, .ref (ad_M 14)]) (kX10_liftOf l D ca t ad_M M_guests M_kind M_figure M_told M_heaps M_holds M_back M_mistakes M_hooks M_letters M_rule M_at M_well M_sort M_text M_row M_field M_fields M_begins M_ruleLetters M_coming M_comingMany M_going M_goingMany M_minute M_pile M_high M_where M_latest M_lifts M_begun M_left M_has M_lifted M_taken M_above_9 M_allLifts M_busy M_longest M_onto M_worst M_best M_orders M_together M_ofOne M_ofOther M_seed M_then M_was M_kept M_held M_kindOn M_figureOn M_sorts M_size M_items M_moved M_thrown (M_above_9 v6.toNatClampNeg) fuel _ hc_11) ⟨hx, hb, hml, hown, hts⟩ (zcwV hts zm_80 zm_81 zm_82 zm_19 zm_79 rfl rfl zdv_X10_liftOf ⟨Nat.le_of_ble_eq_true rfl, Nat.le_of_ble_eq_true rfl⟩) hA hK hZ hP hD hS [0, 1, 2, 3, 4, 5, 6, 7, 8, 9, 10, 11, 12, 13, 14, 15, 16, 17, 18, 19, 20, 21, 22, 23, 24, 25, 26, 27, 28, 29, 30, 31, 32, 33] rfl rfl 7 0 rfl rfl rfl hl.1 (Nat.le_of_ble_eq_true rfl) dX10_dig_69 rfl ?_
        refine lv_iadd hx hb dX10_dig_72 ?_
        refine z_iast hx hb hK hP hD hS 14 0 rfl rfl h_10 dX10_dig_73 (fun g => (wX10_M ca ad_M M_guests M_kind M_figure M_told M_heaps M_holds M_back M_mistakes M_hooks M_letters M_rule M_at M_well M_sort M_text M_row M_field M_fields M_begins M_ruleLetters M_coming M_comingMany M_going M_goingMany M_minute M_pile M_high M_where M_latest g M_begun M_left M_has M_lifted M_taken M_above_9 M_allLifts M_busy M_longest M_onto M_worst M_best M_orders M_together M_ofOne M_ofOther M_seed M_then M_was M_kept M_held M_kindOn M_figureOn M_sorts M_size M_items M_moved M_thrown)) (fun _ => rfl) hF (fun M_lifts_12 H locs hF hP hD hS => ?_)
        refine lv_aload_n hx hb dX10_dig_74 rfl (lv_at hl 0 rfl) ?_
        refine va_get (D := D) (ci := 7) (v := .ref (ad_M 18)) (C := RX10) (T := TX10) (N := 58) hx hb hts hin10 hown hK hP 0 rfl rfl 33 (by decide) (hts _ zm_145) (fun _ h9 => h9) rfl dX10_dig_75 ?_
        refine lv_aload_n hx hb dX10_dig_78 rfl (lv_at hl 0 rfl) ?_
        refine va_get (D := D) (ci := 7) (v := .ref (ad_M 20)) (C := RX10) (T := TX10) (N := 58) hx hb hts hin10 hown hK hP 0 rfl rfl 35 (by decide) (hts _ zm_143) (fun _ h9 => h9) rfl dX10_dig_79 ?_
        refine lv_iload hx hb dX10_dig_82 (lv_at hl 6 rfl) ?_
        refine va_iald hx hb hK hP 20 0 rfl rfl h_8 dX10_dig_84 ?_
        refine lv_dup2_11 hx hb dX10_dig_85 rfl rfl ?_
        obtain ⟨h_13, hF⟩ := zgi hF
        refine va_iald hx hb hK hP 18 0 rfl rfl h_13 dX10_dig_86 ?_
        refine lv_iconst (v := 1) hx hb dX10_dig_87 (by decide) ?_
        refine lv_iadd hx hb dX10_dig_88 ?_
        refine z_let hF (fun x_14 hF => ?_)
        refine z_iast hx hb hK hP hD hS 18 0 rfl rfl h_13 dX10_dig_89 (fun g => (wX10_M ca ad_M M_guests M_kind M_figure M_told M_heaps M_holds M_back M_mistakes M_hooks M_letters M_rule M_at M_well M_sort M_text M_row M_field M_fields M_begins M_ruleLetters M_coming M_comingMany M_going M_goingMany M_minute M_pile M_high M_where M_latest M_lifts_12 M_begun M_left M_has g M_taken M_above_9 M_allLifts M_busy M_longest M_onto M_worst M_best M_orders M_together M_ofOne M_ofOther M_seed M_then M_was M_kept M_held M_kindOn M_figureOn M_sorts M_size M_items M_moved M_thrown)) (fun _ => rfl) hF (fun M_lifted_15 H locs hF hP hD hS => ?_)
        refine z_iinc (kv := 1) hx hb 6 dX10_dig_90 hl rfl (by decide) (by decide) (fun g => [(6, .int g), (0, .ref (ad_M 0)), (1, .int p1), (2, .int p2), (3, .int p3), (4, .int v4), (5, .int v5)]) (fun _ => rfl) hF (fun v6_16 ls hF hl => ?_)
        refine lv_goto (tgt := 21) hx hb dX10_dig_93 (by decide) ?_
        exact ih21 v4 v5 v6_16 M_pile M_high M_lifts_12 M_has M_lifted_15 M_taken M_above_9 _ _ hF hP hD hS ls (lv_sub hl [1, 2, 3, 4, 5, 6, 0] rfl)
  unfold fX10_dig at hF
  refine lv_bipush (v := 10) hx hb dX10_dig_0 (by decide) ?_
  refine lv_iload_n hx hb dX10_dig_2 rfl (lv_at hl 2 rfl) ?_
  refine lv_imul hx hb dX10_dig_3 ?_
  refine z_let hF (fun v4_1 hF => ?_)
  refine lv_istore (lv' := [(4, .int v4_1), (0, .ref (ad_M 0)), (1, .int p1), (2, .int p2), (3, .int p3)]) hx hb dX10_dig_4 hl (by decide) rfl (fun ls hl => ?_)
  refine lv_aload_n hx hb dX10_dig_6 rfl (lv_at hl 1 rfl) ?_
  refine va_get (D := D) (ci := 7) (v := .ref (ad_M 12)) (C := RX10) (T := TX10) (N := 58) hx hb hts hin10 hown hK hP 0 rfl rfl 26 (by decide) (hts _ zm_107) (fun _ h9 => h9) rfl dX10_dig_7 ?_
  refine lv_iload_n hx hb dX10_dig_10 rfl (lv_at hl 3 rfl) ?_
  obtain ⟨h_2, hF⟩ := zgi hF
  refine va_iald hx hb hK hP 12 0 rfl rfl h_2 dX10_dig_11 ?_
  refine lv_iconst (v := 1) hx hb dX10_dig_12 (by decide) ?_
  refine lv_isub hx hb dX10_dig_13 ?_
  refine lv_iload_n hx hb dX10_dig_14 rfl (lv_at hl 4 rfl) ?_
  refine lv_isub hx hb dX10_dig_15 ?_
  refine z_let hF (fun v5_3 hF => ?_)
  refine lv_istore (lv' := [(5, .int v5_3), (4, .int v4_1), (0, .ref (ad_M 0)), (1, .int p1), (2, .int p2), (3, .int p3)]) hx hb dX10_dig_16 hl (by decide) rfl (fun ls hl => ?_)
  refine lv_iconst (v := 0) hx hb dX10_dig_18 (by decide) ?_
  refine lv_istore (lv' := [(6, .int 0), (5, .int v5_3), (4, .int v4_1), (0, .ref (ad_M 0)), (1, .int p1), (2, .int p2), (3, .int p3)]) hx hb dX10_dig_19 hl (by decide) rfl (fun ls hl => ?_)
  exact l21 fuel v4_1 v5_3 0 M_pile M_high M_lifts M_has M_lifted M_taken M_above _ _ hF hP hD hS ls (lv_sub hl [3, 4, 5, 6, 2, 1, 0] rfl)
theorem zdv_X10_dig : yX10_dig.cls = RX10 ∧ yX10_dig.cls ≠ "java/lang/invoke/MethodHandle" ∧ yX10_dig.cls ≠ "java/lang/invoke/VarHandle" ∧ (parseMethodDescriptor yX10_dig.desc).map (fun d => d.parameters.length) = some 3 := by decide +kernel
theorem zdv_X10_topBlack : yX10_topBlack.cls = RX10 ∧ yX10_topBlack.cls ≠ "java/lang/invoke/MethodHandle" ∧ yX10_topBlack.cls ≠ "java/lang/invoke/VarHandle" ∧ (parseMethodDescriptor yX10_topBlack.desc).map (fun d => d.parameters.length) = some 1 := by decide +kernel
abbrev roX10_takeAny : Room := { frames := 3, cells := 0, slots := 0, locals := 68 }
set_option maxHeartbeats 4000000 in
set_option maxRecDepth 100000 in
theorem kX10_takeAny (l : Launch) (D : va_G) (ca : Nat → ClassId) (t : Nat → Nat) (ad_M : Nat → Nat) (M_guests : Int32) (M_kind : Nat → Int32) (M_figure : Nat → Int32) (M_told : Nat → Int32) (M_heaps : Int32) (M_holds : Int32) (M_back : Int32) (M_mistakes : Int32) (M_hooks : Int32) (M_letters : Int32) (M_rule : Nat → Int32) (M_at : Int32) (M_well : Int32) (M_sort : Int32) (M_text : Int32) (M_row : Int32) (M_field : Nat → Int32) (M_fields : Int32) (M_begins : Nat → Int32) (M_ruleLetters : Nat → Int32) (M_coming : Nat → Int32) (M_comingMany : Int32) (M_going : Nat → Int32) (M_goingMany : Int32) (M_minute : Nat → Int32) (M_pile : Nat → Int32) (M_high : Nat → Int32) (M_where : Nat → Int32) (M_latest : Int32) (M_lifts : Nat → Int32) (M_begun : Nat → Int32) (M_left : Nat → Int32) (M_has : Nat → Int32) (M_lifted : Nat → Int32) (M_taken : Nat → Int32) (M_above : Nat → Int32) (M_allLifts : Int32) (M_busy : Int32) (M_longest : Nat → Int32) (M_onto : Nat → Int32) (M_worst : Int32) (M_best : Int32) (M_orders : Int32) (M_together : Int32) (M_ofOne : Nat → Int32) (M_ofOther : Nat → Int32) (M_seed : Int32) (M_then : Nat → Int32) (M_was : Nat → Int32) (M_kept : Int32) (M_held : Nat → Int32) (M_kindOn : Nat → Int32) (M_figureOn : Nat → Int32) (M_sorts : Nat → Int32) (M_size : Nat → Int32) (M_items : Nat → Int32) (M_moved : Nat → Int32) (M_thrown : Int32) (p1 : Int32) (fuel : Nat) (o : (Nat → Int32) × (Nat → Int32) × (Nat → Int32) × (Nat → Int32) × (Nat → Int32) × (Nat → Int32) × (Nat → Int32)) (hF : fX10_takeAny fuel M_kind M_figure M_heaps M_back M_pile M_high M_lifts M_has M_lifted M_taken M_above p1 = some o) : zMv l D (zT ca) t yX10_takeAny (.code yX10_takeAny cX10_takeAny 4 none :: zW) roX10_takeAny [.ref (ad_M 0), .int p1] (wX10_M ca ad_M M_guests M_kind M_figure M_told M_heaps M_holds M_back M_mistakes M_hooks M_letters M_rule M_at M_well M_sort M_text M_row M_field M_fields M_begins M_ruleLetters M_coming M_comingMany M_going M_goingMany M_minute M_pile M_high M_where M_latest M_lifts M_begun M_left M_has M_lifted M_taken M_above M_allLifts M_busy M_longest M_onto M_worst M_best M_orders M_together M_ofOne M_ofOther M_seed M_then M_was M_kept M_held M_kindOn M_figureOn M_sorts M_size M_items M_moved M_thrown) (wX10_M ca ad_M M_guests M_kind M_figure M_told M_heaps M_holds M_back M_mistakes M_hooks M_letters M_rule M_at M_well M_sort M_text M_row M_field M_fields M_begins M_ruleLetters M_coming M_comingMany M_going M_goingMany M_minute o.1 o.2.1 M_where M_latest o.2.2.1 M_begun M_left o.2.2.2.1 o.2.2.2.2.1 o.2.2.2.2.2.1 o.2.2.2.2.2.2 M_allLifts M_busy M_longest M_onto M_worst M_best M_orders M_together M_ofOne M_ofOther M_seed M_then M_was M_kept M_held M_kindOn M_figureOn M_sorts M_size M_items M_moved M_thrown) := by
  refine zMv_of (cc := cX10_takeAny) (maxL := 4) (by decide) rfl (Nat.le_of_ble_eq_true rfl) ?_
  intro p e s m args below meth c A Q ls ⟨hx, hb, hml, hown, hts, hA, hK, hZ, hS⟩ hret hP hD hl
  have hts := fun w h => hts w (List.mem_cons_of_mem _ h)
  have hown : s.vm.findClass RX10 = some m.cls := hown
  have hl : lv_has ls 4 [(0, .ref (ad_M 0)), (1, .int p1)] := hl
  have hin10 := zin_X10
  have j20 : ∀ (v2 : Int32) (v3 : Int32) (M_pile : Nat → Int32) (M_high : Nat → Int32) (M_lifts : Nat → Int32) (M_has : Nat → Int32) (M_lifted : Nat → Int32) (M_taken : Nat → Int32) (M_above : Nat → Int32) (H : Heap) (locs : List Loc), fX10_takeAny_J20 fuel M_kind M_figure M_heaps M_back p1 v2 v3 M_pile M_high M_lifts M_has M_lifted M_taken M_above = some o → va_P D vwCl (wX10_M ca ad_M M_guests M_kind M_figure M_told M_heaps M_holds M_back M_mistakes M_hooks M_letters M_rule M_at M_well M_sort M_text M_row M_field M_fields M_begins M_ruleLetters M_coming M_comingMany M_going M_goingMany M_minute M_pile M_high M_where M_latest M_lifts M_begun M_left M_has M_lifted M_taken M_above M_allLifts M_busy M_longest M_onto M_worst M_best M_orders M_together M_ofOne M_ofOther M_seed M_then M_was M_kept M_held M_kindOn M_figureOn M_sorts M_size M_items M_moved M_thrown) H → va_D A (wX10_M ca ad_M M_guests M_kind M_figure M_told M_heaps M_holds M_back M_mistakes M_hooks M_letters M_rule M_at M_well M_sort M_text M_row M_field M_fields M_begins M_ruleLetters M_coming M_comingMany M_going M_goingMany M_minute M_pile M_high M_where M_latest M_lifts M_begun M_left M_has M_lifted M_taken M_above M_allLifts M_busy M_longest M_onto M_worst M_best M_orders M_together M_ofOne M_ofOther M_seed M_then M_was M_kept M_held M_kindOn M_figureOn M_sorts M_size M_items M_moved M_thrown) → va_S A s.heap H locs → ∀ ls : Array Slot, lv_has ls 4 [(0, .ref (ad_M 0)), (1, .int p1), (2, .int v2), (3, .int v3)] → W p l e roX10_takeAny s m args below meth c H locs 0 0 Q (F0 m 20 ls []) := by
    intro v2 v3 M_pile M_high M_lifts M_has M_lifted M_taken M_above H locs hF hP hD hS ls hl
    unfold fX10_takeAny_J20 at hF
    refine lv_aload_n hx hb dX10_takeAny_20 rfl (lv_at hl 0 rfl) ?_
    refine lv_iload_n hx hb dX10_takeAny_21 rfl (lv_at hl 1 rfl) ?_
    refine lv_iload_n hx hb dX10_takeAny_22 rfl (lv_at hl 2 rfl) ?_
    refine lv_iload_n hx hb dX10_takeAny_23 rfl (lv_at hl 3 rfl) ?_
    obtain ⟨o_5, hc_5, hF⟩ := zb hF
    refine zcVv (rest := []) (ws' := (wX10_M ca ad_M M_guests M_kind M_figure M_told M_heaps M_holds M_back M_mistakes M_hooks M_letters M_rule M_at M_well M_sort M_text M_row M_field M_fields M_begins M_ruleLetters M_coming M_comingMany M_going M_goingMany M_minute o_5.1 o_5.2.1 M_where M_latest o_5.2.2.1 M_begun M_left o_5.2.2.2.1 o_5.2.2.2.2.1 o_5.2.2.2.2.2.1 o_5.2.2.2.2.2.2 M_allLifts M_busy M_longest M_onto M_worst M_best M_orders M_together M_ofOne M_ofOther M_seed M_then M_was M_kept M_held M_kindOn M_figureOn M_sorts M_size M_items M_moved M_thrown)) (kX10_dig l D ca t ad_M M_guests M_kind M_figure M_told M_heaps M_holds M_back M_mistakes M_hooks M_letters M_rule M_at M_well M_sort M_text M_row M_field M_fields M_begins M_ruleLetters M_coming M_comingMany M_going M_goingMany M_minute M_pile M_high M_where M_latest M_lifts M_begun M_left M_has M_lifted M_taken M_above M_allLifts M_busy M_longest M_onto M_worst M_best M_orders M_together M_ofOne M_ofOther M_seed M_then M_was M_kept M_held M_kindOn M_figureOn M_sorts M_size M_items M_moved M_thrown p1 v2 v3 fuel _ hc_5) ⟨hx, hb, hml, hown, hts⟩ (zcwV hts zm_153 zm_154 zm_155 zm_19 zm_152 rfl rfl zdv_X10_dig ⟨Nat.le_of_ble_eq_true rfl, Nat.le_of_ble_eq_true rfl⟩) hA hK hZ hP hD hS [0, 1, 2, 3, 4, 5, 6, 7, 8, 9, 10, 11, 12, 13, 14, 15, 16, 17, 18, 19, 20, 21, 22, 23, 24, 25, 26, 27, 28, 29, 30, 31, 32, 33] [] [0, 1, 2, 3, 4, 5, 6, 7, 8, 9, 10, 11, 12, 13, 14, 15, 16, 17, 18, 19, 20, 21, 22, 23, 24, 25, 26, 27, 28, 29, 30, 31, 32, 33] rfl rfl rfl rfl rfl rfl rfl 7 0 rfl rfl rfl hl.1 (Nat.le_of_ble_eq_true rfl) dX10_takeAny_24 rfl (fun H locs hP hD hS => ?_)
    obtain rfl := Option.some.inj hF
    exact hret _ _ _ _ hP hD hS dX10_takeAny_27
  have l2 : ∀ (n2 : Nat) (v2 : Int32) (M_pile : Nat → Int32) (M_high : Nat → Int32) (M_lifts : Nat → Int32) (M_has : Nat → Int32) (M_lifted : Nat → Int32) (M_taken : Nat → Int32) (M_above : Nat → Int32) (H : Heap) (locs : List Loc), fX10_takeAny_L2 fuel M_kind M_figure M_heaps M_back p1 n2 v2 M_pile M_high M_lifts M_has M_lifted M_taken M_above = some o → va_P D vwCl (wX10_M ca ad_M M_guests M_kind M_figure M_told M_heaps M_holds M_back M_mistakes M_hooks M_letters M_rule M_at M_well M_sort M_text M_row M_field M_fields M_begins M_ruleLetters M_coming M_comingMany M_going M_goingMany M_minute M_pile M_high M_where M_latest M_lifts M_begun M_left M_has M_lifted M_taken M_above M_allLifts M_busy M_longest M_onto M_worst M_best M_orders M_together M_ofOne M_ofOther M_seed M_then M_was M_kept M_held M_kindOn M_figureOn M_sorts M_size M_items M_moved M_thrown) H → va_D A (wX10_M ca ad_M M_guests M_kind M_figure M_told M_heaps M_holds M_back M_mistakes M_hooks M_letters M_rule M_at M_well M_sort M_text M_row M_field M_fields M_begins M_ruleLetters M_coming M_comingMany M_going M_goingMany M_minute M_pile M_high M_where M_latest M_lifts M_begun M_left M_has M_lifted M_taken M_above M_allLifts M_busy M_longest M_onto M_worst M_best M_orders M_together M_ofOne M_ofOther M_seed M_then M_was M_kept M_held M_kindOn M_figureOn M_sorts M_size M_items M_moved M_thrown) → va_S A s.heap H locs → ∀ ls : Array Slot, lv_has ls 4 [(0, .ref (ad_M 0)), (1, .int p1), (2, .int v2)] → W p l e roX10_takeAny s m args below meth c H locs 0 0 Q (F0 m 2 ls []) := by
    intro n2
    induction n2 with
    | zero =>
      intro v2 M_pile M_high M_lifts M_has M_lifted M_taken M_above H locs hF
      rw [fX10_takeAny_L2] at hF
      cases hF
    | succ n2 ih2 =>
      intro v2 M_pile M_high M_lifts M_has M_lifted M_taken M_above H locs hF hP hD hS ls hl
      rw [fX10_takeAny_L2] at hF
      refine lv_iload_n hx hb dX10_takeAny_2 rfl (lv_at hl 2 rfl) ?_
      refine lv_aload_n hx hb dX10_takeAny_3 rfl (lv_at hl 0 rfl) ?_
      refine va_get (D := D) (ci := 7) (v := .int M_heaps) (C := RX10) (T := TX10) (N := 58) hx hb hts hin10 hown hK hP 0 rfl rfl 4 (by decide) (hts _ zm_58) (fun _ h9 => h9) rfl dX10_takeAny_4 ?_
      refine lv_icmp_ge (tgt := 34) hx hb dX10_takeAny_7 (by decide) (fun c_1 => ?_) (fun c_1 => ?_)
      · have hF := zt c_1 hF
        obtain rfl := Option.some.inj hF
        exact hret _ _ _ _ hP hD hS dX10_takeAny_34
      · have hF := zf c_1 hF
        refine lv_aload_n hx hb dX10_takeAny_10 rfl (lv_at hl 0 rfl) ?_
        refine lv_iload_n hx hb dX10_takeAny_11 rfl (lv_at hl 2 rfl) ?_
        obtain ⟨o_2, hc_2, hF⟩ := zb hF
        refine zcVR (rest := []) (kX10_topBlack l D ca t ad_M M_guests M_kind M_figure M_told M_heaps M_holds M_back M_mistakes M_hooks M_letters M_rule M_at M_well M_sort M_text M_row M_field M_fields M_begins M_ruleLetters M_coming M_comingMany M_going M_goingMany M_minute M_pile M_high M_where M_latest M_lifts M_begun M_left M_has M_lifted M_taken M_above M_allLifts M_busy M_longest M_onto M_worst M_best M_orders M_together M_ofOne M_ofOther M_seed M_then M_was M_kept M_held M_kindOn M_figureOn M_sorts M_size M_items M_moved M_thrown v2 fuel _ hc_2) ⟨hx, hb, hml, hown, hts⟩ (zcwV hts zm_149 zm_150 zm_151 zm_19 zm_148 rfl rfl zdv_X10_topBlack ⟨Nat.le_of_ble_eq_true rfl, Nat.le_of_ble_eq_true rfl⟩) hA hK hZ hP hD hS [0, 1, 2, 3, 4, 5, 6, 7, 8, 9, 10, 11, 12, 13, 14, 15, 16, 17, 18, 19, 20, 21, 22, 23, 24, 25, 26, 27, 28, 29, 30, 31, 32, 33] rfl rfl 7 0 rfl rfl rfl hl.1 (Nat.le_of_ble_eq_true rfl) dX10_takeAny_12 rfl ?_
        refine lv_istore_n (lv' := [(3, .int o_2), (0, .ref (ad_M 0)), (1, .int p1), (2, .int v2)]) hx hb dX10_takeAny_15 rfl hl (by decide) rfl (fun ls hl => ?_)
        refine lv_iload_n hx hb dX10_takeAny_16 rfl (lv_at hl 0 rfl) ?_
        refine lv_if_lt (tgt := 28) hx hb dX10_takeAny_17 (by decide) (fun c_3 => ?_) (fun c_3 => ?_)
        · have hF := zt c_3 hF
          refine z_iinc (kv := 1) hx hb 3 dX10_takeAny_28 hl rfl (by decide) (by decide) (fun g => [(2, .int g), (3, .int o_2), (0, .ref (ad_M 0)), (1, .int p1)]) (fun _ => rfl) hF (fun v2_4 ls hF hl => ?_)
          refine lv_goto (tgt := 2) hx hb dX10_takeAny_31 (by decide) ?_
          exact ih2 v2_4 M_pile M_high M_lifts M_has M_lifted M_taken M_above _ _ hF hP hD hS ls (lv_sub hl [2, 3, 0] rfl)
        · have hF := zf c_3 hF
          exact j20 v2 o_2 M_pile M_high M_lifts M_has M_lifted M_taken M_above _ _ hF hP hD hS ls (lv_sub hl [1, 2, 3, 0] rfl)
  unfold fX10_takeAny at hF
  refine lv_iconst (v := 0) hx hb dX10_takeAny_0 (by decide) ?_
  refine lv_istore_n (lv' := [(2, .int 0), (0, .ref (ad_M 0)), (1, .int p1)]) hx hb dX10_takeAny_1 rfl hl (by decide) rfl (fun ls hl => ?_)
  exact l2 fuel 0 M_pile M_high M_lifts M_has M_lifted M_taken M_above _ _ hF hP hD hS ls (lv_sub hl [1, 2, 0] rfl)
theorem zdv_X10_placeOf : yX10_placeOf.cls = RX10 ∧ yX10_placeOf.cls ≠ "java/lang/invoke/MethodHandle" ∧ yX10_placeOf.cls ≠ "java/lang/invoke/VarHandle" ∧ (parseMethodDescriptor yX10_placeOf.desc).map (fun d => d.parameters.length) = some 2 := by decide +kernel
theorem zdv_X10_takeAny : yX10_takeAny.cls = RX10 ∧ yX10_takeAny.cls ≠ "java/lang/invoke/MethodHandle" ∧ yX10_takeAny.cls ≠ "java/lang/invoke/VarHandle" ∧ (parseMethodDescriptor yX10_takeAny.desc).map (fun d => d.parameters.length) = some 1 := by decide +kernel
abbrev roX10_goOne : Room := { frames := 4, cells := 0, slots := 0, locals := 91 }
set_option maxHeartbeats 4000000 in
set_option maxRecDepth 100000 in
theorem kX10_goOne (l : Launch) (D : va_G) (ca : Nat → ClassId) (t : Nat → Nat) (ad_M : Nat → Nat) (M_guests : Int32) (M_kind : Nat → Int32) (M_figure : Nat → Int32) (M_told : Nat → Int32) (M_heaps : Int32) (M_holds : Int32) (M_back : Int32) (M_mistakes : Int32) (M_hooks : Int32) (M_letters : Int32) (M_rule : Nat → Int32) (M_at : Int32) (M_well : Int32) (M_sort : Int32) (M_text : Int32) (M_row : Int32) (M_field : Nat → Int32) (M_fields : Int32) (M_begins : Nat → Int32) (M_ruleLetters : Nat → Int32) (M_coming : Nat → Int32) (M_comingMany : Int32) (M_going : Nat → Int32) (M_goingMany : Int32) (M_minute : Nat → Int32) (M_pile : Nat → Int32) (M_high : Nat → Int32) (M_where : Nat → Int32) (M_latest : Int32) (M_lifts : Nat → Int32) (M_begun : Nat → Int32) (M_left : Nat → Int32) (M_has : Nat → Int32) (M_lifted : Nat → Int32) (M_taken : Nat → Int32) (M_above : Nat → Int32) (M_allLifts : Int32) (M_busy : Int32) (M_longest : Nat → Int32) (M_onto : Nat → Int32) (M_worst : Int32) (M_best : Int32) (M_orders : Int32) (M_together : Int32) (M_ofOne : Nat → Int32) (M_ofOther : Nat → Int32) (M_seed : Int32) (M_then : Nat → Int32) (M_was : Nat → Int32) (M_kept : Int32) (M_held : Nat → Int32) (M_kindOn : Nat → Int32) (M_figureOn : Nat → Int32) (M_sorts : Nat → Int32) (M_size : Nat → Int32) (M_items : Nat → Int32) (M_moved : Nat → Int32) (M_thrown : Int32) (p1 : Int32) (fuel : Nat) (o : (Nat → Int32) × (Nat → Int32) × (Nat → Int32) × (Nat → Int32) × (Nat → Int32) × (Nat → Int32) × (Nat → Int32) × (Nat → Int32) × (Nat → Int32) × Int32 × Int32) (hF : fX10_goOne fuel M_kind M_figure M_heaps M_back M_mistakes M_minute M_pile M_high M_where M_lifts M_begun M_left M_has M_lifted M_taken M_above M_allLifts M_busy p1 = some o) : zMv l D (zT ca) t yX10_goOne (.code yX10_goOne cX10_goOne 4 none :: zW) roX10_goOne [.ref (ad_M 0), .int p1] (wX10_M ca ad_M M_guests M_kind M_figure M_told M_heaps M_holds M_back M_mistakes M_hooks M_letters M_rule M_at M_well M_sort M_text M_row M_field M_fields M_begins M_ruleLetters M_coming M_comingMany M_going M_goingMany M_minute M_pile M_high M_where M_latest M_lifts M_begun M_left M_has M_lifted M_taken M_above M_allLifts M_busy M_longest M_onto M_worst M_best M_orders M_together M_ofOne M_ofOther M_seed M_then M_was M_kept M_held M_kindOn M_figureOn M_sorts M_size M_items M_moved M_thrown) (wX10_M ca ad_M M_guests M_kind M_figure M_told M_heaps M_holds M_back M_mistakes M_hooks M_letters M_rule M_at M_well M_sort M_text M_row M_field M_fields M_begins M_ruleLetters M_coming M_comingMany M_going M_goingMany M_minute o.1 o.2.1 M_where M_latest o.2.2.1 o.2.2.2.1 o.2.2.2.2.1 o.2.2.2.2.2.1 o.2.2.2.2.2.2.1 o.2.2.2.2.2.2.2.1 o.2.2.2.2.2.2.2.2.1 o.2.2.2.2.2.2.2.2.2.1 o.2.2.2.2.2.2.2.2.2.2 M_longest M_onto M_worst M_best M_orders M_together M_ofOne M_ofOther M_seed M_then M_was M_kept M_held M_kindOn M_figureOn M_sorts M_size M_items M_moved M_thrown) := by
  refine zMv_of (cc := cX10_goOne) (maxL := 4) (by decide) rfl (Nat.le_of_ble_eq_true rfl) ?_
  intro p e s m args below meth c A Q ls ⟨hx, hb, hml, hown, hts, hA, hK, hZ, hS⟩ hret hP hD hl
  have hts := fun w h => hts w (List.mem_cons_of_mem _ h)
  have hown : s.vm.findClass RX10 = some m.cls := hown
  have hl : lv_has ls 4 [(0, .ref (ad_M 0)), (1, .int p1)] := hl
  have hin10 := zin_X10
  have j37 : ∀ (M_pile : Nat → Int32) (M_high : Nat → Int32) (M_lifts : Nat → Int32) (M_begun : Nat → Int32) (M_left : Nat → Int32) (M_has : Nat → Int32) (M_lifted : Nat → Int32) (M_taken : Nat → Int32) (M_above : Nat → Int32) (M_allLifts : Int32) (M_busy : Int32) (H : Heap) (locs : List Loc), fX10_goOne_J37 M_minute p1 M_pile M_high M_lifts M_begun M_left M_has M_lifted M_taken M_above M_allLifts M_busy = some o → va_P D vwCl (wX10_M ca ad_M M_guests M_kind M_figure M_told M_heaps M_holds M_back M_mistakes M_hooks M_letters M_rule M_at M_well M_sort M_text M_row M_field M_fields M_begins M_ruleLetters M_coming M_comingMany M_going M_goingMany M_minute M_pile M_high M_where M_latest M_lifts M_begun M_left M_has M_lifted M_taken M_above M_allLifts M_busy M_longest M_onto M_worst M_best M_orders M_together M_ofOne M_ofOther M_seed M_then M_was M_kept M_held M_kindOn M_figureOn M_sorts M_size M_items M_moved M_thrown) H → va_D A (wX10_M ca ad_M M_guests M_kind M_figure M_told M_heaps M_holds M_back M_mistakes M_hooks M_letters M_rule M_at M_well M_sort M_text M_row M_field M_fields M_begins M_ruleLetters M_coming M_comingMany M_going M_goingMany M_minute M_pile M_high M_where M_latest M_lifts M_begun M_left M_has M_lifted M_taken M_above M_allLifts M_busy M_longest M_onto M_worst M_best M_orders M_together M_ofOne M_ofOther M_seed M_then M_was M_kept M_held M_kindOn M_figureOn M_sorts M_size M_items M_moved M_thrown) → va_S A s.heap H locs → ∀ ls : Array Slot, lv_has ls 4 [(0, .ref (ad_M 0)), (1, .int p1)] → W p l e roX10_goOne s m args below meth c H locs 0 0 Q (F0 m 37 ls []) := by
    intro M_pile M_high M_lifts M_begun M_left M_has M_lifted M_taken M_above M_allLifts M_busy H locs hF hP hD hS ls hl
    unfold fX10_goOne_J37 at hF
    refine lv_aload_n hx hb dX10_goOne_37 rfl (lv_at hl 0 rfl) ?_
    refine va_get (D := D) (ci := 7) (v := .ref (ad_M 17)) (C := RX10) (T := TX10) (N := 58) hx hb hts hin10 hown hK hP 0 rfl rfl 32 (by decide) (hts _ zm_146) (fun _ h9 => h9) rfl dX10_goOne_38 ?_
    refine lv_iload_n hx hb dX10_goOne_41 rfl (lv_at hl 1 rfl) ?_
    refine lv_iload_n hx hb dX10_goOne_42 rfl (lv_at hl 1 rfl) ?_
    obtain ⟨h_28, hF⟩ := zgi hF
    refine z_iast hx hb hK hP hD hS 17 0 rfl rfl h_28 dX10_goOne_43 (fun g => (wX10_M ca ad_M M_guests M_kind M_figure M_told M_heaps M_holds M_back M_mistakes M_hooks M_letters M_rule M_at M_well M_sort M_text M_row M_field M_fields M_begins M_ruleLetters M_coming M_comingMany M_going M_goingMany M_minute M_pile M_high M_where M_latest M_lifts M_begun M_left g M_lifted M_taken M_above M_allLifts M_busy M_longest M_onto M_worst M_best M_orders M_together M_ofOne M_ofOther M_seed M_then M_was M_kept M_held M_kindOn M_figureOn M_sorts M_size M_items M_moved M_thrown)) (fun _ => rfl) hF (fun M_has_29 H locs hF hP hD hS => ?_)
    refine lv_aload_n hx hb dX10_goOne_44 rfl (lv_at hl 0 rfl) ?_
    refine va_get (D := D) (ci := 7) (v := .ref (ad_M 19)) (C := RX10) (T := TX10) (N := 58) hx hb hts hin10 hown hK hP 0 rfl rfl 34 (by decide) (hts _ zm_147) (fun _ h9 => h9) rfl dX10_goOne_45 ?_
    refine lv_iload_n hx hb dX10_goOne_48 rfl (lv_at hl 1 rfl) ?_
    refine lv_iconst (v := 1) hx hb dX10_goOne_49 (by decide) ?_
    refine z_zast hx hb hK hP hD hS 19 1 rfl rfl h_28 dX10_goOne_50 (fun g => (wX10_M ca ad_M M_guests M_kind M_figure M_told M_heaps M_holds M_back M_mistakes M_hooks M_letters M_rule M_at M_well M_sort M_text M_row M_field M_fields M_begins M_ruleLetters M_coming M_comingMany M_going M_goingMany M_minute M_pile M_high M_where M_latest M_lifts M_begun M_left M_has_29 M_lifted g M_above M_allLifts M_busy M_longest M_onto M_worst M_best M_orders M_together M_ofOne M_ofOther M_seed M_then M_was M_kept M_held M_kindOn M_figureOn M_sorts M_size M_items M_moved M_thrown)) (fun _ => rfl) hF (fun M_taken_30 H locs hF hP hD hS => ?_)
    refine lv_aload_n hx hb dX10_goOne_51 rfl (lv_at hl 0 rfl) ?_
    refine va_get (D := D) (ci := 7) (v := .ref (ad_M 15)) (C := RX10) (T := TX10) (N := 58) hx hb hts hin10 hown hK hP 0 rfl rfl 30 (by decide) (hts _ zm_164) (fun _ h9 => h9) rfl dX10_goOne_52 ?_
    refine lv_iload_n hx hb dX10_goOne_55 rfl (lv_at hl 1 rfl) ?_
    refine lv_aload_n hx hb dX10_goOne_56 rfl (lv_at hl 0 rfl) ?_
    refine va_get (D := D) (ci := 7) (v := .ref (ad_M 10)) (C := RX10) (T := TX10) (N := 58) hx hb hts hin10 hown hK hP 0 rfl rfl 24 (by decide) (hts _ zm_85) (fun _ h9 => h9) rfl dX10_goOne_57 ?_
    refine lv_iload_n hx hb dX10_goOne_60 rfl (lv_at hl 1 rfl) ?_
    refine va_iald hx hb hK hP 10 0 rfl rfl h_28 dX10_goOne_61 ?_
    refine z_iast hx hb hK hP hD hS 15 0 rfl rfl h_28 dX10_goOne_62 (fun g => (wX10_M ca ad_M M_guests M_kind M_figure M_told M_heaps M_holds M_back M_mistakes M_hooks M_letters M_rule M_at M_well M_sort M_text M_row M_field M_fields M_begins M_ruleLetters M_coming M_comingMany M_going M_goingMany M_minute M_pile M_high M_where M_latest M_lifts g M_left M_has_29 M_lifted M_taken_30 M_above M_allLifts M_busy M_longest M_onto M_worst M_best M_orders M_together M_ofOne M_ofOther M_seed M_then M_was M_kept M_held M_kindOn M_figureOn M_sorts M_size M_items M_moved M_thrown)) (fun _ => rfl) hF (fun M_begun_31 H locs hF hP hD hS => ?_)
    refine lv_aload_n hx hb dX10_goOne_63 rfl (lv_at hl 0 rfl) ?_
    refine va_get (D := D) (ci := 7) (v := .ref (ad_M 16)) (C := RX10) (T := TX10) (N := 58) hx hb hts hin10 hown hK hP 0 rfl rfl 31 (by decide) (hts _ zm_166) (fun _ h9 => h9) rfl dX10_goOne_64 ?_
    refine lv_iload_n hx hb dX10_goOne_67 rfl (lv_at hl 1 rfl) ?_
    refine lv_aload_n hx hb dX10_goOne_68 rfl (lv_at hl 0 rfl) ?_
    refine va_get (D := D) (ci := 7) (v := .ref (ad_M 10)) (C := RX10) (T := TX10) (N := 58) hx hb hts hin10 hown hK hP 0 rfl rfl 24 (by decide) (hts _ zm_85) (fun _ h9 => h9) rfl dX10_goOne_69 ?_
    refine lv_iload_n hx hb dX10_goOne_72 rfl (lv_at hl 1 rfl) ?_
    refine va_iald hx hb hK hP 10 0 rfl rfl h_28 dX10_goOne_73 ?_
    refine z_iast hx hb hK hP hD hS 16 0 rfl rfl h_28 dX10_goOne_74 (fun g => (wX10_M ca ad_M M_guests M_kind M_figure M_told M_heaps M_holds M_back M_mistakes M_hooks M_letters M_rule M_at M_well M_sort M_text M_row M_field M_fields M_begins M_ruleLetters M_coming M_comingMany M_going M_goingMany M_minute M_pile M_high M_where M_latest M_lifts M_begun_31 g M_has_29 M_lifted M_taken_30 M_above M_allLifts M_busy M_longest M_onto M_worst M_best M_orders M_together M_ofOne M_ofOther M_seed M_then M_was M_kept M_held M_kindOn M_figureOn M_sorts M_size M_items M_moved M_thrown)) (fun _ => rfl) hF (fun M_left_32 H locs hF hP hD hS => ?_)
    obtain rfl := Option.some.inj hF
    exact hret _ _ _ _ hP hD hS dX10_goOne_75
  have j162 : ∀ (M_pile : Nat → Int32) (M_high : Nat → Int32) (M_lifts : Nat → Int32) (M_begun : Nat → Int32) (M_left : Nat → Int32) (M_has : Nat → Int32) (M_lifted : Nat → Int32) (M_taken : Nat → Int32) (M_above : Nat → Int32) (M_allLifts : Int32) (M_busy : Int32) (H : Heap) (locs : List Loc), fX10_goOne_J162 M_minute p1 M_pile M_high M_lifts M_begun M_left M_has M_lifted M_taken M_above M_allLifts M_busy = some o → va_P D vwCl (wX10_M ca ad_M M_guests M_kind M_figure M_told M_heaps M_holds M_back M_mistakes M_hooks M_letters M_rule M_at M_well M_sort M_text M_row M_field M_fields M_begins M_ruleLetters M_coming M_comingMany M_going M_goingMany M_minute M_pile M_high M_where M_latest M_lifts M_begun M_left M_has M_lifted M_taken M_above M_allLifts M_busy M_longest M_onto M_worst M_best M_orders M_together M_ofOne M_ofOther M_seed M_then M_was M_kept M_held M_kindOn M_figureOn M_sorts M_size M_items M_moved M_thrown) H → va_D A (wX10_M ca ad_M M_guests M_kind M_figure M_told M_heaps M_holds M_back M_mistakes M_hooks M_letters M_rule M_at M_well M_sort M_text M_row M_field M_fields M_begins M_ruleLetters M_coming M_comingMany M_going M_goingMany M_minute M_pile M_high M_where M_latest M_lifts M_begun M_left M_has M_lifted M_taken M_above M_allLifts M_busy M_longest M_onto M_worst M_best M_orders M_together M_ofOne M_ofOther M_seed M_then M_was M_kept M_held M_kindOn M_figureOn M_sorts M_size M_items M_moved M_thrown) → va_S A s.heap H locs → ∀ ls : Array Slot, lv_has ls 4 [(0, .ref (ad_M 0)), (1, .int p1)] → W p l e roX10_goOne s m args below meth c H locs 0 0 Q (F0 m 162 ls []) := by
    intro M_pile M_high M_lifts M_begun M_left M_has M_lifted M_taken M_above M_allLifts M_busy H locs hF hP hD hS ls hl
    unfold fX10_goOne_J162 at hF
    refine lv_aload_n hx hb dX10_goOne_162 rfl (lv_at hl 0 rfl) ?_
    refine va_get (D := D) (ci := 7) (v := .ref (ad_M 15)) (C := RX10) (T := TX10) (N := 58) hx hb hts hin10 hown hK hP 0 rfl rfl 30 (by decide) (hts _ zm_164) (fun _ h9 => h9) rfl dX10_goOne_163 ?_
    refine lv_iload_n hx hb dX10_goOne_166 rfl (lv_at hl 1 rfl) ?_
    refine lv_aload_n hx hb dX10_goOne_167 rfl (lv_at hl 0 rfl) ?_
    refine va_get (D := D) (ci := 7) (v := .ref (ad_M 10)) (C := RX10) (T := TX10) (N := 58) hx hb hts hin10 hown hK hP 0 rfl rfl 24 (by decide) (hts _ zm_85) (fun _ h9 => h9) rfl dX10_goOne_168 ?_
    refine lv_iload_n hx hb dX10_goOne_171 rfl (lv_at hl 1 rfl) ?_
    obtain ⟨h_21, hF⟩ := zgi hF
    refine va_iald hx hb hK hP 10 0 rfl rfl h_21 dX10_goOne_172 ?_
    refine lv_aload_n hx hb dX10_goOne_173 rfl (lv_at hl 0 rfl) ?_
    refine va_get (D := D) (ci := 7) (v := .int M_busy) (C := RX10) (T := TX10) (N := 58) hx hb hts hin10 hown hK hP 0 rfl rfl 37 (by decide) (hts _ zm_165) (fun _ h9 => h9) rfl dX10_goOne_174 ?_
    refine va_mmax hx hb (hml.trans hl.1.symm) hown (hts _ zm_21) (hts _ zm_22) (hts _ zm_23) (hts _ zm_24) (Nat.le_of_ble_eq_true rfl) (Nat.le_of_ble_eq_true rfl) (Nat.zero_le _) (Nat.zero_le _) dX10_goOne_177 ?_
    refine z_let hF (fun x_22 hF => ?_)
    refine z_iast hx hb hK hP hD hS 15 0 rfl rfl h_21 dX10_goOne_180 (fun g => (wX10_M ca ad_M M_guests M_kind M_figure M_told M_heaps M_holds M_back M_mistakes M_hooks M_letters M_rule M_at M_well M_sort M_text M_row M_field M_fields M_begins M_ruleLetters M_coming M_comingMany M_going M_goingMany M_minute M_pile M_high M_where M_latest M_lifts g M_left M_has M_lifted M_taken M_above M_allLifts M_busy M_longest M_onto M_worst M_best M_orders M_together M_ofOne M_ofOther M_seed M_then M_was M_kept M_held M_kindOn M_figureOn M_sorts M_size M_items M_moved M_thrown)) (fun _ => rfl) hF (fun M_begun_23 H locs hF hP hD hS => ?_)
    refine lv_aload_n hx hb dX10_goOne_181 rfl (lv_at hl 0 rfl) ?_
    refine va_get (D := D) (ci := 7) (v := .ref (ad_M 16)) (C := RX10) (T := TX10) (N := 58) hx hb hts hin10 hown hK hP 0 rfl rfl 31 (by decide) (hts _ zm_166) (fun _ h9 => h9) rfl dX10_goOne_182 ?_
    refine lv_iload_n hx hb dX10_goOne_185 rfl (lv_at hl 1 rfl) ?_
    refine lv_aload_n hx hb dX10_goOne_186 rfl (lv_at hl 0 rfl) ?_
    refine va_get (D := D) (ci := 7) (v := .ref (ad_M 15)) (C := RX10) (T := TX10) (N := 58) hx hb hts hin10 hown hK hP 0 rfl rfl 30 (by decide) (hts _ zm_164) (fun _ h9 => h9) rfl dX10_goOne_187 ?_
    refine lv_iload_n hx hb dX10_goOne_190 rfl (lv_at hl 1 rfl) ?_
    refine va_iald hx hb hK hP 15 0 rfl rfl h_21 dX10_goOne_191 ?_
    refine lv_aload_n hx hb dX10_goOne_192 rfl (lv_at hl 0 rfl) ?_
    refine va_get (D := D) (ci := 7) (v := .ref (ad_M 14)) (C := RX10) (T := TX10) (N := 58) hx hb hts hin10 hown hK hP 0 rfl rfl 29 (by decide) (hts _ zm_144) (fun _ h9 => h9) rfl dX10_goOne_193 ?_
    refine lv_iload_n hx hb dX10_goOne_196 rfl (lv_at hl 1 rfl) ?_
    refine va_iald hx hb hK hP 14 0 rfl rfl h_21 dX10_goOne_197 ?_
    refine lv_iadd hx hb dX10_goOne_198 ?_
    refine z_let hF (fun x_24 hF => ?_)
    refine z_iast hx hb hK hP hD hS 16 0 rfl rfl h_21 dX10_goOne_199 (fun g => (wX10_M ca ad_M M_guests M_kind M_figure M_told M_heaps M_holds M_back M_mistakes M_hooks M_letters M_rule M_at M_well M_sort M_text M_row M_field M_fields M_begins M_ruleLetters M_coming M_comingMany M_going M_goingMany M_minute M_pile M_high M_where M_latest M_lifts M_begun_23 g M_has M_lifted M_taken M_above M_allLifts M_busy M_longest M_onto M_worst M_best M_orders M_together M_ofOne M_ofOther M_seed M_then M_was M_kept M_held M_kindOn M_figureOn M_sorts M_size M_items M_moved M_thrown)) (fun _ => rfl) hF (fun M_left_25 H locs hF hP hD hS => ?_)
    refine lv_aload_n hx hb dX10_goOne_200 rfl (lv_at hl 0 rfl) ?_
    refine lv_aload_n hx hb dX10_goOne_201 rfl (lv_at hl 0 rfl) ?_
    refine va_get (D := D) (ci := 7) (v := .ref (ad_M 16)) (C := RX10) (T := TX10) (N := 58) hx hb hts hin10 hown hK hP 0 rfl rfl 31 (by decide) (hts _ zm_166) (fun _ h9 => h9) rfl dX10_goOne_202 ?_
    refine lv_iload_n hx hb dX10_goOne_205 rfl (lv_at hl 1 rfl) ?_
    refine va_iald hx hb hK hP 16 0 rfl rfl h_21 dX10_goOne_206 ?_
    refine z_let hF (fun busy_26 hF => ?_)
    refine va_put (D := D) (ci := 7) (v := .int busy_26) (C := RX10) (T := TX10) (N := 58) hx hb hts hin10 tyX10 tyX10_ok nmX10 hown hK hP hD hS 0 rfl rfl 37 (by decide) (hts _ zm_165) (fun _ h9 => h9) rfl (tyX10_ok 37 (by decide)) rfl rfl (Nat.le_of_ble_eq_true rfl) dX10_goOne_207 (fun H locs hP hD hS => ?_)
    have hP : va_P D vwCl (wX10_M ca ad_M M_guests M_kind M_figure M_told M_heaps M_holds M_back M_mistakes M_hooks M_letters M_rule M_at M_well M_sort M_text M_row M_field M_fields M_begins M_ruleLetters M_coming M_comingMany M_going M_goingMany M_minute M_pile M_high M_where M_latest M_lifts M_begun_23 M_left_25 M_has M_lifted M_taken M_above M_allLifts busy_26 M_longest M_onto M_worst M_best M_orders M_together M_ofOne M_ofOther M_seed M_then M_was M_kept M_held M_kindOn M_figureOn M_sorts M_size M_items M_moved M_thrown) H := hP
    have hD : va_D A (wX10_M ca ad_M M_guests M_kind M_figure M_told M_heaps M_holds M_back M_mistakes M_hooks M_letters M_rule M_at M_well M_sort M_text M_row M_field M_fields M_begins M_ruleLetters M_coming M_comingMany M_going M_goingMany M_minute M_pile M_high M_where M_latest M_lifts M_begun_23 M_left_25 M_has M_lifted M_taken M_above M_allLifts busy_26 M_longest M_onto M_worst M_best M_orders M_together M_ofOne M_ofOther M_seed M_then M_was M_kept M_held M_kindOn M_figureOn M_sorts M_size M_items M_moved M_thrown) := hD
    refine lv_aload_n hx hb dX10_goOne_210 rfl (lv_at hl 0 rfl) ?_
    refine lv_dup hx hb dX10_goOne_211 rfl ?_
    refine va_get (D := D) (ci := 7) (v := .int M_allLifts) (C := RX10) (T := TX10) (N := 58) hx hb hts hin10 hown hK hP 0 rfl rfl 36 (by decide) (hts _ zm_167) (fun _ h9 => h9) rfl dX10_goOne_212 ?_
    refine lv_aload_n hx hb dX10_goOne_215 rfl (lv_at hl 0 rfl) ?_
    refine va_get (D := D) (ci := 7) (v := .ref (ad_M 14)) (C := RX10) (T := TX10) (N := 58) hx hb hts hin10 hown hK hP 0 rfl rfl 29 (by decide) (hts _ zm_144) (fun _ h9 => h9) rfl dX10_goOne_216 ?_
    refine lv_iload_n hx hb dX10_goOne_219 rfl (lv_at hl 1 rfl) ?_
    refine va_iald hx hb hK hP 14 0 rfl rfl h_21 dX10_goOne_220 ?_
    refine lv_iadd hx hb dX10_goOne_221 ?_
    refine z_let hF (fun allLifts_27 hF => ?_)
    refine va_put (D := D) (ci := 7) (v := .int allLifts_27) (C := RX10) (T := TX10) (N := 58) hx hb hts hin10 tyX10 tyX10_ok nmX10 hown hK hP hD hS 0 rfl rfl 36 (by decide) (hts _ zm_167) (fun _ h9 => h9) rfl (tyX10_ok 36 (by decide)) rfl rfl (Nat.le_of_ble_eq_true rfl) dX10_goOne_222 (fun H locs hP hD hS => ?_)
    have hP : va_P D vwCl (wX10_M ca ad_M M_guests M_kind M_figure M_told M_heaps M_holds M_back M_mistakes M_hooks M_letters M_rule M_at M_well M_sort M_text M_row M_field M_fields M_begins M_ruleLetters M_coming M_comingMany M_going M_goingMany M_minute M_pile M_high M_where M_latest M_lifts M_begun_23 M_left_25 M_has M_lifted M_taken M_above allLifts_27 busy_26 M_longest M_onto M_worst M_best M_orders M_together M_ofOne M_ofOther M_seed M_then M_was M_kept M_held M_kindOn M_figureOn M_sorts M_size M_items M_moved M_thrown) H := hP
    have hD : va_D A (wX10_M ca ad_M M_guests M_kind M_figure M_told M_heaps M_holds M_back M_mistakes M_hooks M_letters M_rule M_at M_well M_sort M_text M_row M_field M_fields M_begins M_ruleLetters M_coming M_comingMany M_going M_goingMany M_minute M_pile M_high M_where M_latest M_lifts M_begun_23 M_left_25 M_has M_lifted M_taken M_above allLifts_27 busy_26 M_longest M_onto M_worst M_best M_orders M_together M_ofOne M_ofOther M_seed M_then M_was M_kept M_held M_kindOn M_figureOn M_sorts M_size M_items M_moved M_thrown) := hD
    obtain rfl := Option.some.inj hF
    exact hret _ _ _ _ hP hD hS dX10_goOne_225
  have l95 : ∀ (n95 : Nat) (v2 : Int32) (M_pile : Nat → Int32) (M_high : Nat → Int32) (M_lifts : Nat → Int32) (M_begun : Nat → Int32) (M_left : Nat → Int32) (M_has : Nat → Int32) (M_lifted : Nat → Int32) (M_taken : Nat → Int32) (M_above : Nat → Int32) (M_allLifts : Int32) (M_busy : Int32) (H : Heap) (locs : List Loc), fX10_goOne_L95 fuel M_kind M_figure M_heaps M_back M_mistakes M_minute p1 n95 v2 M_pile M_high M_lifts M_begun M_left M_has M_lifted M_taken M_above M_allLifts M_busy = some o → va_P D vwCl (wX10_M ca ad_M M_guests M_kind M_figure M_told M_heaps M_holds M_back M_mistakes M_hooks M_letters M_rule M_at M_well M_sort M_text M_row M_field M_fields M_begins M_ruleLetters M_coming M_comingMany M_going M_goingMany M_minute M_pile M_high M_where M_latest M_lifts M_begun M_left M_has M_lifted M_taken M_above M_allLifts M_busy M_longest M_onto M_worst M_best M_orders M_together M_ofOne M_ofOther M_seed M_then M_was M_kept M_held M_kindOn M_figureOn M_sorts M_size M_items M_moved M_thrown) H → va_D A (wX10_M ca ad_M M_guests M_kind M_figure M_told M_heaps M_holds M_back M_mistakes M_hooks M_letters M_rule M_at M_well M_sort M_text M_row M_field M_fields M_begins M_ruleLetters M_coming M_comingMany M_going M_goingMany M_minute M_pile M_high M_where M_latest M_lifts M_begun M_left M_has M_lifted M_taken M_above M_allLifts M_busy M_longest M_onto M_worst M_best M_orders M_together M_ofOne M_ofOther M_seed M_then M_was M_kept M_held M_kindOn M_figureOn M_sorts M_size M_items M_moved M_thrown) → va_S A s.heap H locs → ∀ ls : Array Slot, lv_has ls 4 [(0, .ref (ad_M 0)), (1, .int p1), (2, .int v2)] → W p l e roX10_goOne s m args below meth c H locs 0 0 Q (F0 m 95 ls []) := by
    intro n95
    induction n95 with
    | zero =>
      intro v2 M_pile M_high M_lifts M_begun M_left M_has M_lifted M_taken M_above M_allLifts M_busy H locs hF
      rw [fX10_goOne_L95] at hF
      cases hF
    | succ n95 ih95 =>
      have j156 : ∀ (v2 : Int32) (M_pile : Nat → Int32) (M_high : Nat → Int32) (M_lifts : Nat → Int32) (M_begun : Nat → Int32) (M_left : Nat → Int32) (M_has : Nat → Int32) (M_lifted : Nat → Int32) (M_taken : Nat → Int32) (M_above : Nat → Int32) (M_allLifts : Int32) (M_busy : Int32) (H : Heap) (locs : List Loc), fX10_goOne_J156 (fX10_goOne_L95 fuel M_kind M_figure M_heaps M_back M_mistakes M_minute p1 n95) v2 M_pile M_high M_lifts M_begun M_left M_has M_lifted M_taken M_above M_allLifts M_busy = some o → va_P D vwCl (wX10_M ca ad_M M_guests M_kind M_figure M_told M_heaps M_holds M_back M_mistakes M_hooks M_letters M_rule M_at M_well M_sort M_text M_row M_field M_fields M_begins M_ruleLetters M_coming M_comingMany M_going M_goingMany M_minute M_pile M_high M_where M_latest M_lifts M_begun M_left M_has M_lifted M_taken M_above M_allLifts M_busy M_longest M_onto M_worst M_best M_orders M_together M_ofOne M_ofOther M_seed M_then M_was M_kept M_held M_kindOn M_figureOn M_sorts M_size M_items M_moved M_thrown) H → va_D A (wX10_M ca ad_M M_guests M_kind M_figure M_told M_heaps M_holds M_back M_mistakes M_hooks M_letters M_rule M_at M_well M_sort M_text M_row M_field M_fields M_begins M_ruleLetters M_coming M_comingMany M_going M_goingMany M_minute M_pile M_high M_where M_latest M_lifts M_begun M_left M_has M_lifted M_taken M_above M_allLifts M_busy M_longest M_onto M_worst M_best M_orders M_together M_ofOne M_ofOther M_seed M_then M_was M_kept M_held M_kindOn M_figureOn M_sorts M_size M_items M_moved M_thrown) → va_S A s.heap H locs → ∀ ls : Array Slot, lv_has ls 4 [(0, .ref (ad_M 0)), (1, .int p1), (2, .int v2)] → W p l e roX10_goOne s m args below meth c H locs 0 0 Q (F0 m 156 ls []) := by
        intro v2 M_pile M_high M_lifts M_begun M_left M_has M_lifted M_taken M_above M_allLifts M_busy H locs hF hP hD hS ls hl
        unfold fX10_goOne_J156 at hF
        refine z_iinc (kv := 1) hx hb 2 dX10_goOne_156 hl rfl (by decide) (by decide) (fun g => [(2, .int g), (0, .ref (ad_M 0)), (1, .int p1)]) (fun _ => rfl) hF (fun v2_20 ls hF hl => ?_)
        refine lv_goto (tgt := 95) hx hb dX10_goOne_159 (by decide) ?_
        exact ih95 v2_20 M_pile M_high M_lifts M_begun M_left M_has M_lifted M_taken M_above M_allLifts M_busy _ _ hF hP hD hS ls (lv_sub hl [1, 2, 0] rfl)
      intro v2 M_pile M_high M_lifts M_begun M_left M_has M_lifted M_taken M_above M_allLifts M_busy H locs hF hP hD hS ls hl
      rw [fX10_goOne_L95] at hF
      refine lv_iload_n hx hb dX10_goOne_95 rfl (lv_at hl 2 rfl) ?_
      refine lv_aload_n hx hb dX10_goOne_96 rfl (lv_at hl 0 rfl) ?_
      refine va_get (D := D) (ci := 7) (v := .int M_heaps) (C := RX10) (T := TX10) (N := 58) hx hb hts hin10 hown hK hP 0 rfl rfl 4 (by decide) (hts _ zm_58) (fun _ h9 => h9) rfl dX10_goOne_97 ?_
      refine lv_icmp_ge (tgt := 162) hx hb dX10_goOne_100 (by decide) (fun c_8 => ?_) (fun c_8 => ?_)
      · have hF := zt c_8 hF
        exact j162 M_pile M_high M_lifts M_begun M_left M_has M_lifted M_taken M_above M_allLifts M_busy _ _ hF hP hD hS ls (lv_sub hl [0, 1] rfl)
      · have hF := zf c_8 hF
        refine lv_aload_n hx hb dX10_goOne_103 rfl (lv_at hl 0 rfl) ?_
        refine va_get (D := D) (ci := 7) (v := .ref (ad_M 17)) (C := RX10) (T := TX10) (N := 58) hx hb hts hin10 hown hK hP 0 rfl rfl 32 (by decide) (hts _ zm_146) (fun _ h9 => h9) rfl dX10_goOne_104 ?_
        refine lv_iload_n hx hb dX10_goOne_107 rfl (lv_at hl 1 rfl) ?_
        obtain ⟨h_9, hF⟩ := zgi hF
        refine va_iald hx hb hK hP 17 0 rfl rfl h_9 dX10_goOne_108 ?_
        refine lv_bipush (v := (-4)) hx hb dX10_goOne_109 (by decide) ?_
        refine lv_icmp_ne (tgt := 162) hx hb dX10_goOne_111 (by decide) (fun c_10 => ?_) (fun c_10 => ?_)
        · have hF := zf c_10 hF
          exact j162 M_pile M_high M_lifts M_begun M_left M_has M_lifted M_taken M_above M_allLifts M_busy _ _ hF hP hD hS ls (lv_sub hl [0, 1] rfl)
        · have hF := zt c_10 hF
          refine lv_aload_n hx hb dX10_goOne_114 rfl (lv_at hl 0 rfl) ?_
          refine lv_iload_n hx hb dX10_goOne_115 rfl (lv_at hl 1 rfl) ?_
          refine lv_iload_n hx hb dX10_goOne_116 rfl (lv_at hl 2 rfl) ?_
          obtain ⟨o_11, hc_11, hF⟩ := zb hF
          refine zcVR (rest := []) (kX10_placeOf l D ca t ad_M M_guests M_kind M_figure M_told M_heaps M_holds M_back M_mistakes M_hooks M_letters M_rule M_at M_well M_sort M_text M_row M_field M_fields M_begins M_ruleLetters M_coming M_comingMany M_going M_goingMany M_minute M_pile M_high M_where M_latest M_lifts M_begun M_left M_has M_lifted M_taken M_above M_allLifts M_busy M_longest M_onto M_worst M_best M_orders M_together M_ofOne M_ofOther M_seed M_then M_was M_kept M_held M_kindOn M_figureOn M_sorts M_size M_items M_moved M_thrown p1 v2 fuel _ hc_11) ⟨hx, hb, hml, hown, hts⟩ (zcwV hts zm_161 zm_162 zm_163 zm_19 zm_160 rfl rfl zdv_X10_placeOf ⟨Nat.le_of_ble_eq_true rfl, Nat.le_of_ble_eq_true rfl⟩) hA hK hZ hP hD hS [0, 1, 2, 3, 4, 5, 6, 7, 8, 9, 10, 11, 12, 13, 14, 15, 16, 17, 18, 19, 20, 21, 22, 23, 24, 25, 26, 27, 28, 29, 30, 31, 32, 33] rfl rfl 7 0 rfl rfl rfl hl.1 (Nat.le_of_ble_eq_true rfl) dX10_goOne_117 rfl ?_
          refine lv_istore_n (lv' := [(3, .int o_11), (0, .ref (ad_M 0)), (1, .int p1), (2, .int v2)]) hx hb dX10_goOne_120 rfl hl (by decide) rfl (fun ls hl => ?_)
          refine lv_iload_n hx hb dX10_goOne_121 rfl (lv_at hl 0 rfl) ?_
          refine lv_if_lt (tgt := 156) hx hb dX10_goOne_122 (by decide) (fun c_12 => ?_) (fun c_12 => ?_)
          · have hF := zt c_12 hF
            exact j156 v2 M_pile M_high M_lifts M_begun M_left M_has M_lifted M_taken M_above M_allLifts M_busy _ _ hF hP hD hS ls (lv_sub hl [1, 2, 3] rfl)
          · have hF := zf c_12 hF
            refine lv_aload_n hx hb dX10_goOne_125 rfl (lv_at hl 1 rfl) ?_
            refine lv_iload_n hx hb dX10_goOne_126 rfl (lv_at hl 2 rfl) ?_
            refine lv_iload_n hx hb dX10_goOne_127 rfl (lv_at hl 3 rfl) ?_
            refine lv_aload_n hx hb dX10_goOne_128 rfl (lv_at hl 1 rfl) ?_
            refine va_get (D := D) (ci := 7) (v := .int M_mistakes) (C := RX10) (T := TX10) (N := 58) hx hb hts hin10 hown hK hP 0 rfl rfl 7 (by decide) (hts _ zm_61) (fun _ h9 => h9) rfl dX10_goOne_129 ?_
            refine lv_iconst (v := 1) hx hb dX10_goOne_132 (by decide) ?_
            refine lv_icmp_ne (tgt := 152) hx hb dX10_goOne_133 (by decide) (fun c_13 => ?_) (fun c_13 => ?_)
            · have hF := zf c_13 hF
              refine lv_iload_n hx hb dX10_goOne_152 rfl (lv_at hl 0 rfl) ?_
              obtain ⟨o_14, hc_14, hF⟩ := zb hF
              refine zcVv (rest := []) (ws' := (wX10_M ca ad_M M_guests M_kind M_figure M_told M_heaps M_holds M_back M_mistakes M_hooks M_letters M_rule M_at M_well M_sort M_text M_row M_field M_fields M_begins M_ruleLetters M_coming M_comingMany M_going M_goingMany M_minute o_14.1 o_14.2.1 M_where M_latest o_14.2.2.1 M_begun M_left o_14.2.2.2.1 o_14.2.2.2.2.1 o_14.2.2.2.2.2.1 o_14.2.2.2.2.2.2 M_allLifts M_busy M_longest M_onto M_worst M_best M_orders M_together M_ofOne M_ofOther M_seed M_then M_was M_kept M_held M_kindOn M_figureOn M_sorts M_size M_items M_moved M_thrown)) (kX10_dig l D ca t ad_M M_guests M_kind M_figure M_told M_heaps M_holds M_back M_mistakes M_hooks M_letters M_rule M_at M_well M_sort M_text M_row M_field M_fields M_begins M_ruleLetters M_coming M_comingMany M_going M_goingMany M_minute M_pile M_high M_where M_latest M_lifts M_begun M_left M_has M_lifted M_taken M_above M_allLifts M_busy M_longest M_onto M_worst M_best M_orders M_together M_ofOne M_ofOther M_seed M_then M_was M_kept M_held M_kindOn M_figureOn M_sorts M_size M_items M_moved M_thrown p1 v2 o_11 fuel _ hc_14) ⟨hx, hb, hml, hown, hts⟩ (zcwV hts zm_153 zm_154 zm_155 zm_19 zm_152 rfl rfl zdv_X10_dig ⟨Nat.le_of_ble_eq_true rfl, Nat.le_of_ble_eq_true rfl⟩) hA hK hZ hP hD hS [0, 1, 2, 3, 4, 5, 6, 7, 8, 9, 10, 11, 12, 13, 14, 15, 16, 17, 18, 19, 20, 21, 22, 23, 24, 25, 26, 27, 28, 29, 30, 31, 32, 33] [] [0, 1, 2, 3, 4, 5, 6, 7, 8, 9, 10, 11, 12, 13, 14, 15, 16, 17, 18, 19, 20, 21, 22, 23, 24, 25, 26, 27, 28, 29, 30, 31, 32, 33] rfl rfl rfl rfl rfl rfl rfl 7 0 rfl rfl rfl hl.1 (Nat.le_of_ble_eq_true rfl) dX10_goOne_153 rfl (fun H locs hP hD hS => ?_)
              exact j156 v2 o_14.1 o_14.2.1 o_14.2.2.1 M_begun M_left o_14.2.2.2.1 o_14.2.2.2.2.1 o_14.2.2.2.2.2.1 o_14.2.2.2.2.2.2 M_allLifts M_busy _ _ hF hP hD hS ls (lv_sub hl [1, 2, 3] rfl)
            · have hF := zt c_13 hF
              refine lv_aload_n hx hb dX10_goOne_136 rfl (lv_at hl 1 rfl) ?_
              refine lv_iload_n hx hb dX10_goOne_137 rfl (lv_at hl 2 rfl) ?_
              obtain ⟨o_15, hc_15, hF⟩ := zb hF
              refine zcVR (rest := [.int v2, .int p1, .ref (ad_M 0)]) (kX10_isBlack l D ca t ad_M M_guests M_kind M_figure M_told M_heaps M_holds M_back M_mistakes M_hooks M_letters M_rule M_at M_well M_sort M_text M_row M_field M_fields M_begins M_ruleLetters M_coming M_comingMany M_going M_goingMany M_minute M_pile M_high M_where M_latest M_lifts M_begun M_left M_has M_lifted M_taken M_above M_allLifts M_busy M_longest M_onto M_worst M_best M_orders M_together M_ofOne M_ofOther M_seed M_then M_was M_kept M_held M_kindOn M_figureOn M_sorts M_size M_items M_moved M_thrown p1 fuel _ hc_15) ⟨hx, hb, hml, hown, hts⟩ (zcwV hts zm_140 zm_141 zm_142 zm_19 zm_139 rfl rfl zdv_X10_isBlack ⟨Nat.le_of_ble_eq_true rfl, Nat.le_of_ble_eq_true rfl⟩) hA hK hZ hP hD hS [0, 1, 2, 3, 4, 5, 6, 7, 8, 9, 10, 11, 12, 13, 14, 15, 16, 17, 18, 19, 20, 21, 22, 23, 24, 25, 26, 27, 28, 29, 30, 31, 32, 33] rfl rfl 7 0 rfl rfl rfl hl.1 (Nat.le_of_ble_eq_true rfl) dX10_goOne_138 rfl ?_
              refine lv_if_eq (tgt := 152) hx hb dX10_goOne_141 (by decide) (fun c_16 => ?_) (fun c_16 => ?_)
              · have hF := zt c_16 hF
                refine lv_iload_n hx hb dX10_goOne_152 rfl (lv_at hl 0 rfl) ?_
                obtain ⟨o_17, hc_17, hF⟩ := zb hF
                refine zcVv (rest := []) (ws' := (wX10_M ca ad_M M_guests M_kind M_figure M_told M_heaps M_holds M_back M_mistakes M_hooks M_letters M_rule M_at M_well M_sort M_text M_row M_field M_fields M_begins M_ruleLetters M_coming M_comingMany M_going M_goingMany M_minute o_17.1 o_17.2.1 M_where M_latest o_17.2.2.1 M_begun M_left o_17.2.2.2.1 o_17.2.2.2.2.1 o_17.2.2.2.2.2.1 o_17.2.2.2.2.2.2 M_allLifts M_busy M_longest M_onto M_worst M_best M_orders M_together M_ofOne M_ofOther M_seed M_then M_was M_kept M_held M_kindOn M_figureOn M_sorts M_size M_items M_moved M_thrown)) (kX10_dig l D ca t ad_M M_guests M_kind M_figure M_told M_heaps M_holds M_back M_mistakes M_hooks M_letters M_rule M_at M_well M_sort M_text M_row M_field M_fields M_begins M_ruleLetters M_coming M_comingMany M_going M_goingMany M_minute M_pile M_high M_where M_latest M_lifts M_begun M_left M_has M_lifted M_taken M_above M_allLifts M_busy M_longest M_onto M_worst M_best M_orders M_together M_ofOne M_ofOther M_seed M_then M_was M_kept M_held M_kindOn M_figureOn M_sorts M_size M_items M_moved M_thrown p1 v2 o_11 fuel _ hc_17) ⟨hx, hb, hml, hown, hts⟩ (zcwV hts zm_153 zm_154 zm_155 zm_19 zm_152 rfl rfl zdv_X10_dig ⟨Nat.le_of_ble_eq_true rfl, Nat.le_of_ble_eq_true rfl⟩) hA hK hZ hP hD hS [0, 1, 2, 3, 4, 5, 6, 7, 8, 9, 10, 11, 12, 13, 14, 15, 16, 17, 18, 19, 20, 21, 22, 23, 24, 25, 26, 27, 28, 29, 30, 31, 32, 33] [] [0, 1, 2, 3, 4, 5, 6, 7, 8, 9, 10, 11, 12, 13, 14, 15, 16, 17, 18, 19, 20, 21, 22, 23, 24, 25, 26, 27, 28, 29, 30, 31, 32, 33] rfl rfl rfl rfl rfl rfl rfl 7 0 rfl rfl rfl hl.1 (Nat.le_of_ble_eq_true rfl) dX10_goOne_153 rfl (fun H locs hP hD hS => ?_)
                exact j156 v2 o_17.1 o_17.2.1 o_17.2.2.1 M_begun M_left o_17.2.2.2.1 o_17.2.2.2.2.1 o_17.2.2.2.2.2.1 o_17.2.2.2.2.2.2 M_allLifts M_busy _ _ hF hP hD hS ls (lv_sub hl [1, 2, 3] rfl)
              · have hF := zf c_16 hF
                refine lv_aload_n hx hb dX10_goOne_144 rfl (lv_at hl 1 rfl) ?_
                refine lv_iload_n hx hb dX10_goOne_145 rfl (lv_at hl 3 rfl) ?_
                obtain ⟨o_18, hc_18, hF⟩ := zb hF
                refine zcVR (rest := [.int v2, .int p1, .ref (ad_M 0)]) (kX10_topBlack l D ca t ad_M M_guests M_kind M_figure M_told M_heaps M_holds M_back M_mistakes M_hooks M_letters M_rule M_at M_well M_sort M_text M_row M_field M_fields M_begins M_ruleLetters M_coming M_comingMany M_going M_goingMany M_minute M_pile M_high M_where M_latest M_lifts M_begun M_left M_has M_lifted M_taken M_above M_allLifts M_busy M_longest M_onto M_worst M_best M_orders M_together M_ofOne M_ofOther M_seed M_then M_was M_kept M_held M_kindOn M_figureOn M_sorts M_size M_items M_moved M_thrown v2 fuel _ hc_18) ⟨hx, hb, hml, hown, hts⟩ (zcwV hts zm_149 zm_150 zm_151 zm_19 zm_148 rfl rfl zdv_X10_topBlack ⟨Nat.le_of_ble_eq_true rfl, Nat.le_of_ble_eq_true rfl⟩) hA hK hZ hP hD hS [0, 1, 2, 3, 4, 5, 6, 7, 8, 9, 10, 11, 12, 13, 14, 15, 16, 17, 18, 19, 20, 21, 22, 23, 24, 25, 26, 27, 28, 29, 30, 31, 32, 33] rfl rfl 7 0 rfl rfl rfl hl.1 (Nat.le_of_ble_eq_true rfl) dX10_goOne_146 rfl ?_
                refine lv_goto (tgt := 153) hx hb dX10_goOne_149 (by decide) ?_
                obtain ⟨o_19, hc_19, hF⟩ := zb hF
                refine zcVv (rest := []) (ws' := (wX10_M ca ad_M M_guests M_kind M_figure M_told M_heaps M_holds M_back M_mistakes M_hooks M_letters M_rule M_at M_well M_sort M_text M_row M_field M_fields M_begins M_ruleLetters M_coming M_comingMany M_going M_goingMany M_minute o_19.1 o_19.2.1 M_where M_latest o_19.2.2.1 M_begun M_left o_19.2.2.2.1 o_19.2.2.2.2.1 o_19.2.2.2.2.2.1 o_19.2.2.2.2.2.2 M_allLifts M_busy M_longest M_onto M_worst M_best M_orders M_together M_ofOne M_ofOther M_seed M_then M_was M_kept M_held M_kindOn M_figureOn M_sorts M_size M_items M_moved M_thrown)) (kX10_dig l D ca t ad_M M_guests M_kind M_figure M_told M_heaps M_holds M_back M_mistakes M_hooks M_letters M_rule M_at M_well M_sort M_text M_row M_field M_fields M_begins M_ruleLetters M_coming M_comingMany M_going M_goingMany M_minute M_pile M_high M_where M_latest M_lifts M_begun M_left M_has M_lifted M_taken M_above M_allLifts M_busy M_longest M_onto M_worst M_best M_orders M_together M_ofOne M_ofOther M_seed M_then M_was M_kept M_held M_kindOn M_figureOn M_sorts M_size M_items M_moved M_thrown p1 v2 o_18 fuel _ hc_19) ⟨hx, hb, hml, hown, hts⟩ (zcwV hts zm_153 zm_154 zm_155 zm_19 zm_152 rfl rfl zdv_X10_dig ⟨Nat.le_of_ble_eq_true rfl, Nat.le_of_ble_eq_true rfl⟩) hA hK hZ hP hD hS [0, 1, 2, 3, 4, 5, 6, 7, 8, 9, 10, 11, 12, 13, 14, 15, 16, 17, 18, 19, 20, 21, 22, 23, 24, 25, 26, 27, 28, 29, 30, 31, 32, 33] [] [0, 1, 2, 3, 4, 5, 6, 7, 8, 9, 10, 11, 12, 13, 14, 15, 16, 17, 18, 19, 20, 21, 22, 23, 24, 25, 26, 27, 28, 29, 30, 31, 32, 33] rfl rfl rfl rfl rfl rfl rfl 7 0 rfl rfl rfl hl.1 (Nat.le_of_ble_eq_true rfl) dX10_goOne_153 rfl (fun H locs hP hD hS => ?_)
                exact j156 v2 o_19.1 o_19.2.1 o_19.2.2.1 M_begun M_left o_19.2.2.2.1 o_19.2.2.2.2.1 o_19.2.2.2.2.2.1 o_19.2.2.2.2.2.2 M_allLifts M_busy _ _ hF hP hD hS ls (lv_sub hl [1, 2, 3] rfl)
  unfold fX10_goOne at hF
  refine lv_aload_n hx hb dX10_goOne_0 rfl (lv_at hl 0 rfl) ?_
  refine va_get (D := D) (ci := 7) (v := .ref (ad_M 14)) (C := RX10) (T := TX10) (N := 58) hx hb hts hin10 hown hK hP 0 rfl rfl 29 (by decide) (hts _ zm_144) (fun _ h9 => h9) rfl dX10_goOne_1 ?_
  refine lv_iload_n hx hb dX10_goOne_4 rfl (lv_at hl 1 rfl) ?_
  refine lv_iconst (v := 0) hx hb dX10_goOne_5 (by decide) ?_
  obtain ⟨h_1, hF⟩ := zgi hF
  refine z_iast hx hb hK hP hD hS 14 0 rfl rfl h_1 dX10_goOne_6 (fun g => (wX10_M ca ad_M M_guests M_kind M_figure M_told M_heaps M_holds M_back M_mistakes M_hooks M_letters M_rule M_at M_well M_sort M_text M_row M_field M_fields M_begins M_ruleLetters M_coming M_comingMany M_going M_goingMany M_minute M_pile M_high M_where M_latest g M_begun M_left M_has M_lifted M_taken M_above M_allLifts M_busy M_longest M_onto M_worst M_best M_orders M_together M_ofOne M_ofOther M_seed M_then M_was M_kept M_held M_kindOn M_figureOn M_sorts M_size M_items M_moved M_thrown)) (fun _ => rfl) hF (fun M_lifts_2 H locs hF hP hD hS => ?_)
  refine lv_aload_n hx hb dX10_goOne_7 rfl (lv_at hl 0 rfl) ?_
  refine va_get (D := D) (ci := 7) (v := .ref (ad_M 17)) (C := RX10) (T := TX10) (N := 58) hx hb hts hin10 hown hK hP 0 rfl rfl 32 (by decide) (hts _ zm_146) (fun _ h9 => h9) rfl dX10_goOne_8 ?_
  refine lv_iload_n hx hb dX10_goOne_11 rfl (lv_at hl 1 rfl) ?_
  refine lv_bipush (v := (-4)) hx hb dX10_goOne_12 (by decide) ?_
  refine z_iast hx hb hK hP hD hS 17 0 rfl rfl h_1 dX10_goOne_14 (fun g => (wX10_M ca ad_M M_guests M_kind M_figure M_told M_heaps M_holds M_back M_mistakes M_hooks M_letters M_rule M_at M_well M_sort M_text M_row M_field M_fields M_begins M_ruleLetters M_coming M_comingMany M_going M_goingMany M_minute M_pile M_high M_where M_latest M_lifts_2 M_begun M_left g M_lifted M_taken M_above M_allLifts M_busy M_longest M_onto M_worst M_best M_orders M_together M_ofOne M_ofOther M_seed M_then M_was M_kept M_held M_kindOn M_figureOn M_sorts M_size M_items M_moved M_thrown)) (fun _ => rfl) hF (fun M_has_3 H locs hF hP hD hS => ?_)
  refine lv_aload_n hx hb dX10_goOne_15 rfl (lv_at hl 0 rfl) ?_
  refine va_get (D := D) (ci := 7) (v := .ref (ad_M 13)) (C := RX10) (T := TX10) (N := 58) hx hb hts hin10 hown hK hP 0 rfl rfl 27 (by decide) (hts _ zm_130) (fun _ h9 => h9) rfl dX10_goOne_16 ?_
  refine lv_iload_n hx hb dX10_goOne_19 rfl (lv_at hl 1 rfl) ?_
  refine va_iald hx hb hK hP 13 0 rfl rfl h_1 dX10_goOne_20 ?_
  refine lv_bipush (v := 9) hx hb dX10_goOne_21 (by decide) ?_
  refine lv_icmp_eq (tgt := 37) hx hb dX10_goOne_23 (by decide) (fun c_4 => ?_) (fun c_4 => ?_)
  · have hF := zt c_4 hF
    exact j37 M_pile M_high M_lifts_2 M_begun M_left M_has_3 M_lifted M_taken M_above M_allLifts M_busy _ _ hF hP hD hS ls (lv_sub hl [0, 1] rfl)
  · have hF := zf c_4 hF
    refine lv_aload_n hx hb dX10_goOne_26 rfl (lv_at hl 0 rfl) ?_
    refine va_get (D := D) (ci := 7) (v := .ref (ad_M 13)) (C := RX10) (T := TX10) (N := 58) hx hb hts hin10 hown hK hP 0 rfl rfl 27 (by decide) (hts _ zm_130) (fun _ h9 => h9) rfl dX10_goOne_27 ?_
    refine lv_iload_n hx hb dX10_goOne_30 rfl (lv_at hl 1 rfl) ?_
    refine va_iald hx hb hK hP 13 0 rfl rfl h_1 dX10_goOne_31 ?_
    refine lv_bipush (v := (-4)) hx hb dX10_goOne_32 (by decide) ?_
    refine lv_icmp_ne (tgt := 76) hx hb dX10_goOne_34 (by decide) (fun c_5 => ?_) (fun c_5 => ?_)
    · have hF := zf c_5 hF
      refine lv_aload_n hx hb dX10_goOne_76 rfl (lv_at hl 0 rfl) ?_
      refine va_get (D := D) (ci := 7) (v := .ref (ad_M 19)) (C := RX10) (T := TX10) (N := 58) hx hb hts hin10 hown hK hP 0 rfl rfl 34 (by decide) (hts _ zm_147) (fun _ h9 => h9) rfl dX10_goOne_77 ?_
      refine lv_iload_n hx hb dX10_goOne_80 rfl (lv_at hl 1 rfl) ?_
      refine va_zald hx hb hK hP 19 1 rfl rfl h_1 dX10_goOne_81 ?_
      refine lv_if_eq (tgt := 93) hx hb dX10_goOne_82 (by decide) (fun c_6 => ?_) (fun c_6 => ?_)
      · have hF := zt c_6 hF
        refine lv_iconst (v := 0) hx hb dX10_goOne_93 (by decide) ?_
        refine lv_istore_n (lv' := [(2, .int 0), (0, .ref (ad_M 0)), (1, .int p1)]) hx hb dX10_goOne_94 rfl hl (by decide) rfl (fun ls hl => ?_)
        exact l95 fuel 0 M_pile M_high M_lifts_2 M_begun M_left M_has_3 M_lifted M_taken M_above M_allLifts M_busy _ _ hF hP hD hS ls (lv_sub hl [1, 2, 0] rfl)
      · have hF := zf c_6 hF
        refine lv_aload_n hx hb dX10_goOne_85 rfl (lv_at hl 0 rfl) ?_
        refine lv_iload_n hx hb dX10_goOne_86 rfl (lv_at hl 1 rfl) ?_
        obtain ⟨o_7, hc_7, hF⟩ := zb hF
        refine zcVv (rest := []) (ws' := (wX10_M ca ad_M M_guests M_kind M_figure M_told M_heaps M_holds M_back M_mistakes M_hooks M_letters M_rule M_at M_well M_sort M_text M_row M_field M_fields M_begins M_ruleLetters M_coming M_comingMany M_going M_goingMany M_minute o_7.1 o_7.2.1 M_where M_latest o_7.2.2.1 M_begun M_left o_7.2.2.2.1 o_7.2.2.2.2.1 o_7.2.2.2.2.2.1 o_7.2.2.2.2.2.2 M_allLifts M_busy M_longest M_onto M_worst M_best M_orders M_together M_ofOne M_ofOther M_seed M_then M_was M_kept M_held M_kindOn M_figureOn M_sorts M_size M_items M_moved M_thrown)) (kX10_takeAny l D ca t ad_M M_guests M_kind M_figure M_told M_heaps M_holds M_back M_mistakes M_hooks M_letters M_rule M_at M_well M_sort M_text M_row M_field M_fields M_begins M_ruleLetters M_coming M_comingMany M_going M_goingMany M_minute M_pile M_high M_where M_latest M_lifts_2 M_begun M_left M_has_3 M_lifted M_taken M_above M_allLifts M_busy M_longest M_onto M_worst M_best M_orders M_together M_ofOne M_ofOther M_seed M_then M_was M_kept M_held M_kindOn M_figureOn M_sorts M_size M_items M_moved M_thrown p1 fuel _ hc_7) ⟨hx, hb, hml, hown, hts⟩ (zcwV hts zm_157 zm_158 zm_159 zm_19 zm_156 rfl rfl zdv_X10_takeAny ⟨Nat.le_of_ble_eq_true rfl, Nat.le_of_ble_eq_true rfl⟩) hA hK hZ hP hD hS [0, 1, 2, 3, 4, 5, 6, 7, 8, 9, 10, 11, 12, 13, 14, 15, 16, 17, 18, 19, 20, 21, 22, 23, 24, 25, 26, 27, 28, 29, 30, 31, 32, 33] [] [0, 1, 2, 3, 4, 5, 6, 7, 8, 9, 10, 11, 12, 13, 14, 15, 16, 17, 18, 19, 20, 21, 22, 23, 24, 25, 26, 27, 28, 29, 30, 31, 32, 33] rfl rfl rfl rfl rfl rfl rfl 7 0 rfl rfl rfl hl.1 (Nat.le_of_ble_eq_true rfl) dX10_goOne_87 rfl (fun H locs hP hD hS => ?_)
        refine lv_goto (tgt := 162) hx hb dX10_goOne_90 (by decide) ?_
        exact j162 o_7.1 o_7.2.1 o_7.2.2.1 M_begun M_left o_7.2.2.2.1 o_7.2.2.2.2.1 o_7.2.2.2.2.2.1 o_7.2.2.2.2.2.2 M_allLifts M_busy _ _ hF hP hD hS ls (lv_sub hl [0, 1] rfl)
    · have hF := zt c_5 hF
      exact j37 M_pile M_high M_lifts_2 M_begun M_left M_has_3 M_lifted M_taken M_above M_allLifts M_busy _ _ hF hP hD hS ls (lv_sub hl [0, 1] rfl)
abbrev roX10_turnOver : Room := { frames := 2, cells := 0, slots := 0, locals := 42 }
set_option maxHeartbeats 4000000 in
set_option maxRecDepth 100000 in
theorem kX10_turnOver (l : Launch) (D : va_G) (ca : Nat → ClassId) (t : Nat → Nat) (ad_M : Nat → Nat) (M_guests : Int32) (M_kind : Nat → Int32) (M_figure : Nat → Int32) (M_told : Nat → Int32) (M_heaps : Int32) (M_holds : Int32) (M_back : Int32) (M_mistakes : Int32) (M_hooks : Int32) (M_letters : Int32) (M_rule : Nat → Int32) (M_at : Int32) (M_well : Int32) (M_sort : Int32) (M_text : Int32) (M_row : Int32) (M_field : Nat → Int32) (M_fields : Int32) (M_begins : Nat → Int32) (M_ruleLetters : Nat → Int32) (M_coming : Nat → Int32) (M_comingMany : Int32) (M_going : Nat → Int32) (M_goingMany : Int32) (M_minute : Nat → Int32) (M_pile : Nat → Int32) (M_high : Nat → Int32) (M_where : Nat → Int32) (M_latest : Int32) (M_lifts : Nat → Int32) (M_begun : Nat → Int32) (M_left : Nat → Int32) (M_has : Nat → Int32) (M_lifted : Nat → Int32) (M_taken : Nat → Int32) (M_above : Nat → Int32) (M_allLifts : Int32) (M_busy : Int32) (M_longest : Nat → Int32) (M_onto : Nat → Int32) (M_worst : Int32) (M_best : Int32) (M_orders : Int32) (M_together : Int32) (M_ofOne : Nat → Int32) (M_ofOther : Nat → Int32) (M_seed : Int32) (M_then : Nat → Int32) (M_was : Nat → Int32) (M_kept : Int32) (M_held : Nat → Int32) (M_kindOn : Nat → Int32) (M_figureOn : Nat → Int32) (M_sorts : Nat → Int32) (M_size : Nat → Int32) (M_items : Nat → Int32) (M_moved : Nat → Int32) (M_thrown : Int32) (fuel : Nat) (o : (Nat → Int32) × Int32) (hF : fX10_turnOver fuel M_kind M_figure M_heaps M_pile M_high M_allLifts = some o) : zMv l D (zT ca) t yX10_turnOver (.code yX10_turnOver cX10_turnOver 6 none :: zW) roX10_turnOver [.ref (ad_M 0)] (wX10_M ca ad_M M_guests M_kind M_figure M_told M_heaps M_holds M_back M_mistakes M_hooks M_letters M_rule M_at M_well M_sort M_text M_row M_field M_fields M_begins M_ruleLetters M_coming M_comingMany M_going M_goingMany M_minute M_pile M_high M_where M_latest M_lifts M_begun M_left M_has M_lifted M_taken M_above M_allLifts M_busy M_longest M_onto M_worst M_best M_orders M_together M_ofOne M_ofOther M_seed M_then M_was M_kept M_held M_kindOn M_figureOn M_sorts M_size M_items M_moved M_thrown) (wX10_M ca ad_M M_guests M_kind M_figure M_told M_heaps M_holds M_back M_mistakes M_hooks M_letters M_rule M_at M_well M_sort M_text M_row M_field M_fields M_begins M_ruleLetters M_coming M_comingMany M_going M_goingMany M_minute o.1 M_high M_where M_latest M_lifts M_begun M_left M_has M_lifted M_taken M_above o.2 M_busy M_longest M_onto M_worst M_best M_orders M_together M_ofOne M_ofOther M_seed M_then M_was M_kept M_held M_kindOn M_figureOn M_sorts M_size M_items M_moved M_thrown) := by
  refine zMv_of (cc := cX10_turnOver) (maxL := 6) (by decide) rfl (Nat.le_of_ble_eq_true rfl) ?_
  intro p e s m args below meth c A Q ls ⟨hx, hb, hml, hown, hts, hA, hK, hZ, hS⟩ hret hP hD hl
  have hts := fun w h => hts w (List.mem_cons_of_mem _ h)
  have hown : s.vm.findClass RX10 = some m.cls := hown
  have hl : lv_has ls 6 [(0, .ref (ad_M 0))] := hl
  have hin10 := zin_X10
  have l2 : ∀ (n2 : Nat) (v1 : Int32) (M_pile : Nat → Int32) (M_allLifts : Int32) (H : Heap) (locs : List Loc), fX10_turnOver_L2 fuel M_kind M_figure M_heaps M_high n2 v1 M_pile M_allLifts = some o → va_P D vwCl (wX10_M ca ad_M M_guests M_kind M_figure M_told M_heaps M_holds M_back M_mistakes M_hooks M_letters M_rule M_at M_well M_sort M_text M_row M_field M_fields M_begins M_ruleLetters M_coming M_comingMany M_going M_goingMany M_minute M_pile M_high M_where M_latest M_lifts M_begun M_left M_has M_lifted M_taken M_above M_allLifts M_busy M_longest M_onto M_worst M_best M_orders M_together M_ofOne M_ofOther M_seed M_then M_was M_kept M_held M_kindOn M_figureOn M_sorts M_size M_items M_moved M_thrown) H → va_D A (wX10_M ca ad_M M_guests M_kind M_figure M_told M_heaps M_holds M_back M_mistakes M_hooks M_letters M_rule M_at M_well M_sort M_text M_row M_field M_fields M_begins M_ruleLetters M_coming M_comingMany M_going M_goingMany M_minute M_pile M_high M_where M_latest M_lifts M_begun M_left M_has M_lifted M_taken M_above M_allLifts M_busy M_longest M_onto M_worst M_best M_orders M_together M_ofOne M_ofOther M_seed M_then M_was M_kept M_held M_kindOn M_figureOn M_sorts M_size M_items M_moved M_thrown) → va_S A s.heap H locs → ∀ ls : Array Slot, lv_has ls 6 [(0, .ref (ad_M 0)), (1, .int v1)] → W p l e roX10_turnOver s m args below meth c H locs 0 0 Q (F0 m 2 ls []) := by
    intro n2
    induction n2 with
    | zero =>
      intro v1 M_pile M_allLifts H locs hF
      rw [fX10_turnOver_L2] at hF
      cases hF
    | succ n2 ih2 =>
      have j119 : ∀ (v1 : Int32) (M_pile : Nat → Int32) (M_allLifts : Int32) (H : Heap) (locs : List Loc), fX10_turnOver_J119 (fX10_turnOver_L2 fuel M_kind M_figure M_heaps M_high n2) v1 M_pile M_allLifts = some o → va_P D vwCl (wX10_M ca ad_M M_guests M_kind M_figure M_told M_heaps M_holds M_back M_mistakes M_hooks M_letters M_rule M_at M_well M_sort M_text M_row M_field M_fields M_begins M_ruleLetters M_coming M_comingMany M_going M_goingMany M_minute M_pile M_high M_where M_latest M_lifts M_begun M_left M_has M_lifted M_taken M_above M_allLifts M_busy M_longest M_onto M_worst M_best M_orders M_together M_ofOne M_ofOther M_seed M_then M_was M_kept M_held M_kindOn M_figureOn M_sorts M_size M_items M_moved M_thrown) H → va_D A (wX10_M ca ad_M M_guests M_kind M_figure M_told M_heaps M_holds M_back M_mistakes M_hooks M_letters M_rule M_at M_well M_sort M_text M_row M_field M_fields M_begins M_ruleLetters M_coming M_comingMany M_going M_goingMany M_minute M_pile M_high M_where M_latest M_lifts M_begun M_left M_has M_lifted M_taken M_above M_allLifts M_busy M_longest M_onto M_worst M_best M_orders M_together M_ofOne M_ofOther M_seed M_then M_was M_kept M_held M_kindOn M_figureOn M_sorts M_size M_items M_moved M_thrown) → va_S A s.heap H locs → ∀ ls : Array Slot, lv_has ls 6 [(0, .ref (ad_M 0)), (1, .int v1)] → W p l e roX10_turnOver s m args below meth c H locs 0 0 Q (F0 m 119 ls []) := by
        intro v1 M_pile M_allLifts H locs hF hP hD hS ls hl
        unfold fX10_turnOver_J119 at hF
        refine z_iinc (kv := 1) hx hb 1 dX10_turnOver_119 hl rfl (by decide) (by decide) (fun g => [(1, .int g), (0, .ref (ad_M 0))]) (fun _ => rfl) hF (fun v1_19 ls hF hl => ?_)
        refine lv_goto (tgt := 2) hx hb dX10_turnOver_122 (by decide) ?_
        exact ih2 v1_19 M_pile M_allLifts _ _ hF hP hD hS ls (lv_sub hl [1, 0] rfl)
      have l66 : ∀ (n66 : Nat) (v1 : Int32) (v2 : Int32) (v3 : Int32) (v4 : Int32) (M_pile : Nat → Int32) (M_allLifts : Int32) (H : Heap) (locs : List Loc), fX10_turnOver_L66 (fX10_turnOver_L2 fuel M_kind M_figure M_heaps M_high n2) n66 v1 v2 v3 v4 M_pile M_allLifts = some o → va_P D vwCl (wX10_M ca ad_M M_guests M_kind M_figure M_told M_heaps M_holds M_back M_mistakes M_hooks M_letters M_rule M_at M_well M_sort M_text M_row M_field M_fields M_begins M_ruleLetters M_coming M_comingMany M_going M_goingMany M_minute M_pile M_high M_where M_latest M_lifts M_begun M_left M_has M_lifted M_taken M_above M_allLifts M_busy M_longest M_onto M_worst M_best M_orders M_together M_ofOne M_ofOther M_seed M_then M_was M_kept M_held M_kindOn M_figureOn M_sorts M_size M_items M_moved M_thrown) H → va_D A (wX10_M ca ad_M M_guests M_kind M_figure M_told M_heaps M_holds M_back M_mistakes M_hooks M_letters M_rule M_at M_well M_sort M_text M_row M_field M_fields M_begins M_ruleLetters M_coming M_comingMany M_going M_goingMany M_minute M_pile M_high M_where M_latest M_lifts M_begun M_left M_has M_lifted M_taken M_above M_allLifts M_busy M_longest M_onto M_worst M_best M_orders M_together M_ofOne M_ofOther M_seed M_then M_was M_kept M_held M_kindOn M_figureOn M_sorts M_size M_items M_moved M_thrown) → va_S A s.heap H locs → ∀ ls : Array Slot, lv_has ls 6 [(0, .ref (ad_M 0)), (1, .int v1), (2, .int v2), (3, .int v3), (4, .int v4)] → W p l e roX10_turnOver s m args below meth c H locs 0 0 Q (F0 m 66 ls []) := by
        intro n66
        induction n66 with
        | zero =>
          intro v1 v2 v3 v4 M_pile M_allLifts H locs hF
          rw [fX10_turnOver_L66] at hF
          cases hF
        | succ n66 ih66 =>
          intro v1 v2 v3 v4 M_pile M_allLifts H locs hF hP hD hS ls hl
          rw [fX10_turnOver_L66] at hF
          refine lv_iload_n hx hb dX10_turnOver_66 rfl (lv_at hl 3 rfl) ?_
          refine lv_iload hx hb dX10_turnOver_67 (lv_at hl 4 rfl) ?_
          refine lv_icmp_ge (tgt := 119) hx hb dX10_turnOver_69 (by decide) (fun c_11 => ?_) (fun c_11 => ?_)
          · have hF := zt c_11 hF
            exact j119 v1 M_pile M_allLifts _ _ hF hP hD hS ls (lv_sub hl [0, 1] rfl)
          · have hF := zf c_11 hF
            refine lv_aload_n hx hb dX10_turnOver_72 rfl (lv_at hl 0 rfl) ?_
            refine va_get (D := D) (ci := 7) (v := .ref (ad_M 11)) (C := RX10) (T := TX10) (N := 58) hx hb hts hin10 hown hK hP 0 rfl rfl 25 (by decide) (hts _ zm_108) (fun _ h9 => h9) rfl dX10_turnOver_73 ?_
            refine lv_iload_n hx hb dX10_turnOver_76 rfl (lv_at hl 2 rfl) ?_
            refine lv_iload_n hx hb dX10_turnOver_77 rfl (lv_at hl 3 rfl) ?_
            refine lv_iadd hx hb dX10_turnOver_78 ?_
            obtain ⟨h_12, hF⟩ := zgi hF
            refine va_iald hx hb hK hP 11 0 rfl rfl h_12 dX10_turnOver_79 ?_
            refine z_let hF (fun v5_13 hF => ?_)
            refine lv_istore (lv' := [(5, .int v5_13), (0, .ref (ad_M 0)), (1, .int v1), (2, .int v2), (3, .int v3), (4, .int v4)]) hx hb dX10_turnOver_80 hl (by decide) rfl (fun ls hl => ?_)
            refine lv_aload_n hx hb dX10_turnOver_82 rfl (lv_at hl 1 rfl) ?_
            refine va_get (D := D) (ci := 7) (v := .ref (ad_M 11)) (C := RX10) (T := TX10) (N := 58) hx hb hts hin10 hown hK hP 0 rfl rfl 25 (by decide) (hts _ zm_108) (fun _ h9 => h9) rfl dX10_turnOver_83 ?_
            refine lv_iload_n hx hb dX10_turnOver_86 rfl (lv_at hl 3 rfl) ?_
            refine lv_iload_n hx hb dX10_turnOver_87 rfl (lv_at hl 4 rfl) ?_
            refine lv_iadd hx hb dX10_turnOver_88 ?_
            refine lv_aload_n hx hb dX10_turnOver_89 rfl (lv_at hl 1 rfl) ?_
            refine va_get (D := D) (ci := 7) (v := .ref (ad_M 11)) (C := RX10) (T := TX10) (N := 58) hx hb hts hin10 hown hK hP 0 rfl rfl 25 (by decide) (hts _ zm_108) (fun _ h9 => h9) rfl dX10_turnOver_90 ?_
            refine lv_iload_n hx hb dX10_turnOver_93 rfl (lv_at hl 3 rfl) ?_
            refine lv_iload hx hb dX10_turnOver_94 (lv_at hl 5 rfl) ?_
            refine lv_iadd hx hb dX10_turnOver_96 ?_
            obtain ⟨h_14, hF⟩ := zgi hF
            refine va_iald hx hb hK hP 11 0 rfl rfl h_14 dX10_turnOver_97 ?_
            refine z_iast hx hb hK hP hD hS 11 0 rfl rfl h_12 dX10_turnOver_98 (fun g => (wX10_M ca ad_M M_guests M_kind M_figure M_told M_heaps M_holds M_back M_mistakes M_hooks M_letters M_rule M_at M_well M_sort M_text M_row M_field M_fields M_begins M_ruleLetters M_coming M_comingMany M_going M_goingMany M_minute g M_high M_where M_latest M_lifts M_begun M_left M_has M_lifted M_taken M_above M_allLifts M_busy M_longest M_onto M_worst M_best M_orders M_together M_ofOne M_ofOther M_seed M_then M_was M_kept M_held M_kindOn M_figureOn M_sorts M_size M_items M_moved M_thrown)) (fun _ => rfl) hF (fun M_pile_15 H locs hF hP hD hS => ?_)
            refine lv_aload_n hx hb dX10_turnOver_99 rfl (lv_at hl 1 rfl) ?_
            refine va_get (D := D) (ci := 7) (v := .ref (ad_M 11)) (C := RX10) (T := TX10) (N := 58) hx hb hts hin10 hown hK hP 0 rfl rfl 25 (by decide) (hts _ zm_108) (fun _ h9 => h9) rfl dX10_turnOver_100 ?_
            refine lv_iload_n hx hb dX10_turnOver_103 rfl (lv_at hl 3 rfl) ?_
            refine lv_iload hx hb dX10_turnOver_104 (lv_at hl 5 rfl) ?_
            refine lv_iadd hx hb dX10_turnOver_106 ?_
            refine lv_iload hx hb dX10_turnOver_107 (lv_at hl 0 rfl) ?_
            refine z_iast hx hb hK hP hD hS 11 0 rfl rfl h_14 dX10_turnOver_109 (fun g => (wX10_M ca ad_M M_guests M_kind M_figure M_told M_heaps M_holds M_back M_mistakes M_hooks M_letters M_rule M_at M_well M_sort M_text M_row M_field M_fields M_begins M_ruleLetters M_coming M_comingMany M_going M_goingMany M_minute g M_high M_where M_latest M_lifts M_begun M_left M_has M_lifted M_taken M_above M_allLifts M_busy M_longest M_onto M_worst M_best M_orders M_together M_ofOne M_ofOther M_seed M_then M_was M_kept M_held M_kindOn M_figureOn M_sorts M_size M_items M_moved M_thrown)) (fun _ => rfl) hF (fun M_pile_16 H locs hF hP hD hS => ?_)
            refine z_iinc (kv := 1) hx hb 4 dX10_turnOver_110 hl rfl (by decide) (by decide) (fun g => [(3, .int g), (5, .int v5_13), (0, .ref (ad_M 0)), (1, .int v1), (2, .int v2), (4, .int v4)]) (fun _ => rfl) hF (fun v3_17 ls hF hl => ?_)
            refine z_iinc (kv := (-1)) hx hb 5 dX10_turnOver_113 hl rfl (by decide) (by decide) (fun g => [(4, .int g), (3, .int v3_17), (5, .int v5_13), (0, .ref (ad_M 0)), (1, .int v1), (2, .int v2)]) (fun _ => rfl) hF (fun v4_18 ls hF hl => ?_)
            refine lv_goto (tgt := 66) hx hb dX10_turnOver_116 (by decide) ?_
            exact ih66 v1 v2 v3_17 v4_18 M_pile_16 M_allLifts _ _ hF hP hD hS ls (lv_sub hl [3, 4, 5, 1, 0] rfl)
      have j54 : ∀ (v1 : Int32) (v2 : Int32) (M_pile : Nat → Int32) (M_allLifts : Int32) (H : Heap) (locs : List Loc), fX10_turnOver_J54 fuel M_high (fX10_turnOver_L2 fuel M_kind M_figure M_heaps M_high n2) v1 v2 M_pile M_allLifts = some o → va_P D vwCl (wX10_M ca ad_M M_guests M_kind M_figure M_told M_heaps M_holds M_back M_mistakes M_hooks M_letters M_rule M_at M_well M_sort M_text M_row M_field M_fields M_begins M_ruleLetters M_coming M_comingMany M_going M_goingMany M_minute M_pile M_high M_where M_latest M_lifts M_begun M_left M_has M_lifted M_taken M_above M_allLifts M_busy M_longest M_onto M_worst M_best M_orders M_together M_ofOne M_ofOther M_seed M_then M_was M_kept M_held M_kindOn M_figureOn M_sorts M_size M_items M_moved M_thrown) H → va_D A (wX10_M ca ad_M M_guests M_kind M_figure M_told M_heaps M_holds M_back M_mistakes M_hooks M_letters M_rule M_at M_well M_sort M_text M_row M_field M_fields M_begins M_ruleLetters M_coming M_comingMany M_going M_goingMany M_minute M_pile M_high M_where M_latest M_lifts M_begun M_left M_has M_lifted M_taken M_above M_allLifts M_busy M_longest M_onto M_worst M_best M_orders M_together M_ofOne M_ofOther M_seed M_then M_was M_kept M_held M_kindOn M_figureOn M_sorts M_size M_items M_moved M_thrown) → va_S A s.heap H locs → ∀ ls : Array Slot, lv_has ls 6 [(0, .ref (ad_M 0)), (1, .int v1), (2, .int v2)] → W p l e roX10_turnOver s m args below meth c H locs 0 0 Q (F0 m 54 ls []) := by
        intro v1 v2 M_pile M_allLifts H locs hF hP hD hS ls hl
        unfold fX10_turnOver_J54 at hF
        refine lv_iconst (v := 0) hx hb dX10_turnOver_54 (by decide) ?_
        refine lv_istore_n (lv' := [(3, .int 0), (0, .ref (ad_M 0)), (1, .int v1), (2, .int v2)]) hx hb dX10_turnOver_55 rfl hl (by decide) rfl (fun ls hl => ?_)
        refine lv_aload_n hx hb dX10_turnOver_56 rfl (lv_at hl 1 rfl) ?_
        refine va_get (D := D) (ci := 7) (v := .ref (ad_M 12)) (C := RX10) (T := TX10) (N := 58) hx hb hts hin10 hown hK hP 0 rfl rfl 26 (by decide) (hts _ zm_107) (fun _ h9 => h9) rfl dX10_turnOver_57 ?_
        refine lv_iload_n hx hb dX10_turnOver_60 rfl (lv_at hl 2 rfl) ?_
        obtain ⟨h_9, hF⟩ := zgi hF
        refine va_iald hx hb hK hP 12 0 rfl rfl h_9 dX10_turnOver_61 ?_
        refine lv_iconst (v := 1) hx hb dX10_turnOver_62 (by decide) ?_
        refine lv_isub hx hb dX10_turnOver_63 ?_
        refine z_let hF (fun v4_10 hF => ?_)
        refine lv_istore (lv' := [(4, .int v4_10), (3, .int 0), (0, .ref (ad_M 0)), (1, .int v1), (2, .int v2)]) hx hb dX10_turnOver_64 hl (by decide) rfl (fun ls hl => ?_)
        exact l66 fuel v1 v2 0 v4_10 M_pile M_allLifts _ _ hF hP hD hS ls (lv_sub hl [2, 3, 4, 1, 0] rfl)
      have l17 : ∀ (n17 : Nat) (v1 : Int32) (v2 : Int32) (v3 : Int32) (M_pile : Nat → Int32) (M_allLifts : Int32) (H : Heap) (locs : List Loc), fX10_turnOver_L17 fuel M_kind M_figure M_high (fX10_turnOver_L2 fuel M_kind M_figure M_heaps M_high n2) n17 v1 v2 v3 M_pile M_allLifts = some o → va_P D vwCl (wX10_M ca ad_M M_guests M_kind M_figure M_told M_heaps M_holds M_back M_mistakes M_hooks M_letters M_rule M_at M_well M_sort M_text M_row M_field M_fields M_begins M_ruleLetters M_coming M_comingMany M_going M_goingMany M_minute M_pile M_high M_where M_latest M_lifts M_begun M_left M_has M_lifted M_taken M_above M_allLifts M_busy M_longest M_onto M_worst M_best M_orders M_together M_ofOne M_ofOther M_seed M_then M_was M_kept M_held M_kindOn M_figureOn M_sorts M_size M_items M_moved M_thrown) H → va_D A (wX10_M ca ad_M M_guests M_kind M_figure M_told M_heaps M_holds M_back M_mistakes M_hooks M_letters M_rule M_at M_well M_sort M_text M_row M_field M_fields M_begins M_ruleLetters M_coming M_comingMany M_going M_goingMany M_minute M_pile M_high M_where M_latest M_lifts M_begun M_left M_has M_lifted M_taken M_above M_allLifts M_busy M_longest M_onto M_worst M_best M_orders M_together M_ofOne M_ofOther M_seed M_then M_was M_kept M_held M_kindOn M_figureOn M_sorts M_size M_items M_moved M_thrown) → va_S A s.heap H locs → ∀ ls : Array Slot, lv_has ls 6 [(0, .ref (ad_M 0)), (1, .int v1), (2, .int v2), (3, .int v3)] → W p l e roX10_turnOver s m args below meth c H locs 0 0 Q (F0 m 17 ls []) := by
        intro n17
        induction n17 with
        | zero =>
          intro v1 v2 v3 M_pile M_allLifts H locs hF
          rw [fX10_turnOver_L17] at hF
          cases hF
        | succ n17 ih17 =>
          intro v1 v2 v3 M_pile M_allLifts H locs hF hP hD hS ls hl
          rw [fX10_turnOver_L17] at hF
          refine lv_iload_n hx hb dX10_turnOver_17 rfl (lv_at hl 3 rfl) ?_
          refine lv_aload_n hx hb dX10_turnOver_18 rfl (lv_at hl 0 rfl) ?_
          refine va_get (D := D) (ci := 7) (v := .ref (ad_M 12)) (C := RX10) (T := TX10) (N := 58) hx hb hts hin10 hown hK hP 0 rfl rfl 26 (by decide) (hts _ zm_107) (fun _ h9 => h9) rfl dX10_turnOver_19 ?_
          refine lv_iload_n hx hb dX10_turnOver_22 rfl (lv_at hl 1 rfl) ?_
          obtain ⟨h_3, hF⟩ := zgi hF
          refine va_iald hx hb hK hP 12 0 rfl rfl h_3 dX10_turnOver_23 ?_
          refine lv_icmp_ge (tgt := 54) hx hb dX10_turnOver_24 (by decide) (fun c_4 => ?_) (fun c_4 => ?_)
          · have hF := zt c_4 hF
            exact j54 v1 v2 M_pile M_allLifts _ _ hF hP hD hS ls (lv_sub hl [0, 1, 2] rfl)
          · have hF := zf c_4 hF
            refine lv_aload_n hx hb dX10_turnOver_27 rfl (lv_at hl 0 rfl) ?_
            refine lv_dup hx hb dX10_turnOver_28 rfl ?_
            refine va_get (D := D) (ci := 7) (v := .int M_allLifts) (C := RX10) (T := TX10) (N := 58) hx hb hts hin10 hown hK hP 0 rfl rfl 36 (by decide) (hts _ zm_167) (fun _ h9 => h9) rfl dX10_turnOver_29 ?_
            refine lv_aload_n hx hb dX10_turnOver_32 rfl (lv_at hl 0 rfl) ?_
            refine lv_aload_n hx hb dX10_turnOver_33 rfl (lv_at hl 0 rfl) ?_
            refine va_get (D := D) (ci := 7) (v := .ref (ad_M 11)) (C := RX10) (T := TX10) (N := 58) hx hb hts hin10 hown hK hP 0 rfl rfl 25 (by decide) (hts _ zm_108) (fun _ h9 => h9) rfl dX10_turnOver_34 ?_
            refine lv_iload_n hx hb dX10_turnOver_37 rfl (lv_at hl 2 rfl) ?_
            refine lv_iload_n hx hb dX10_turnOver_38 rfl (lv_at hl 3 rfl) ?_
            refine lv_iadd hx hb dX10_turnOver_39 ?_
            obtain ⟨h_5, hF⟩ := zgi hF
            refine va_iald hx hb hK hP 11 0 rfl rfl h_5 dX10_turnOver_40 ?_
            obtain ⟨o_6, hc_6, hF⟩ := zb hF
            refine zcVR (rest := [.int M_allLifts, .ref (ad_M 0)]) (kX10_liftOf l D ca t ad_M M_guests M_kind M_figure M_told M_heaps M_holds M_back M_mistakes M_hooks M_letters M_rule M_at M_well M_sort M_text M_row M_field M_fields M_begins M_ruleLetters M_coming M_comingMany M_going M_goingMany M_minute M_pile M_high M_where M_latest M_lifts M_begun M_left M_has M_lifted M_taken M_above M_allLifts M_busy M_longest M_onto M_worst M_best M_orders M_together M_ofOne M_ofOther M_seed M_then M_was M_kept M_held M_kindOn M_figureOn M_sorts M_size M_items M_moved M_thrown ((M_pile (v2 + v3).toNatClampNeg)) fuel _ hc_6) ⟨hx, hb, hml, hown, hts⟩ (zcwV hts zm_80 zm_81 zm_82 zm_19 zm_79 rfl rfl zdv_X10_liftOf ⟨Nat.le_of_ble_eq_true rfl, Nat.le_of_ble_eq_true rfl⟩) hA hK hZ hP hD hS [0, 1, 2, 3, 4, 5, 6, 7, 8, 9, 10, 11, 12, 13, 14, 15, 16, 17, 18, 19, 20, 21, 22, 23, 24, 25, 26, 27, 28, 29, 30, 31, 32, 33] rfl rfl 7 0 rfl rfl rfl hl.1 (Nat.le_of_ble_eq_true rfl) dX10_turnOver_41 rfl ?_
            refine lv_iadd hx hb dX10_turnOver_44 ?_
            refine z_let hF (fun allLifts_7 hF => ?_)
            refine va_put (D := D) (ci := 7) (v := .int allLifts_7) (C := RX10) (T := TX10) (N := 58) hx hb hts hin10 tyX10 tyX10_ok nmX10 hown hK hP hD hS 0 rfl rfl 36 (by decide) (hts _ zm_167) (fun _ h9 => h9) rfl (tyX10_ok 36 (by decide)) rfl rfl (Nat.le_of_ble_eq_true rfl) dX10_turnOver_45 (fun H locs hP hD hS => ?_)
            have hP : va_P D vwCl (wX10_M ca ad_M M_guests M_kind M_figure M_told M_heaps M_holds M_back M_mistakes M_hooks M_letters M_rule M_at M_well M_sort M_text M_row M_field M_fields M_begins M_ruleLetters M_coming M_comingMany M_going M_goingMany M_minute M_pile M_high M_where M_latest M_lifts M_begun M_left M_has M_lifted M_taken M_above allLifts_7 M_busy M_longest M_onto M_worst M_best M_orders M_together M_ofOne M_ofOther M_seed M_then M_was M_kept M_held M_kindOn M_figureOn M_sorts M_size M_items M_moved M_thrown) H := hP
            have hD : va_D A (wX10_M ca ad_M M_guests M_kind M_figure M_told M_heaps M_holds M_back M_mistakes M_hooks M_letters M_rule M_at M_well M_sort M_text M_row M_field M_fields M_begins M_ruleLetters M_coming M_comingMany M_going M_goingMany M_minute M_pile M_high M_where M_latest M_lifts M_begun M_left M_has M_lifted M_taken M_above allLifts_7 M_busy M_longest M_onto M_worst M_best M_orders M_together M_ofOne M_ofOther M_seed M_then M_was M_kept M_held M_kindOn M_figureOn M_sorts M_size M_items M_moved M_thrown) := hD
            refine z_iinc (kv := 1) hx hb 3 dX10_turnOver_48 hl rfl (by decide) (by decide) (fun g => [(3, .int g), (0, .ref (ad_M 0)), (1, .int v1), (2, .int v2)]) (fun _ => rfl) hF (fun v3_8 ls hF hl => ?_)
            refine lv_goto (tgt := 17) hx hb dX10_turnOver_51 (by decide) ?_
            exact ih17 v1 v2 v3_8 M_pile allLifts_7 _ _ hF hP hD hS ls (lv_sub hl [1, 2, 3, 0] rfl)
      intro v1 M_pile M_allLifts H locs hF hP hD hS ls hl
      rw [fX10_turnOver_L2] at hF
      refine lv_iload_n hx hb dX10_turnOver_2 rfl (lv_at hl 1 rfl) ?_
      refine lv_aload_n hx hb dX10_turnOver_3 rfl (lv_at hl 0 rfl) ?_
      refine va_get (D := D) (ci := 7) (v := .int M_heaps) (C := RX10) (T := TX10) (N := 58) hx hb hts hin10 hown hK hP 0 rfl rfl 4 (by decide) (hts _ zm_58) (fun _ h9 => h9) rfl dX10_turnOver_4 ?_
      refine lv_icmp_ge (tgt := 125) hx hb dX10_turnOver_7 (by decide) (fun c_1 => ?_) (fun c_1 => ?_)
      · have hF := zt c_1 hF
        obtain rfl := Option.some.inj hF
        exact hret _ _ _ _ hP hD hS dX10_turnOver_125
      · have hF := zf c_1 hF
        refine lv_bipush (v := 10) hx hb dX10_turnOver_10 (by decide) ?_
        refine lv_iload_n hx hb dX10_turnOver_12 rfl (lv_at hl 1 rfl) ?_
        refine lv_imul hx hb dX10_turnOver_13 ?_
        refine z_let hF (fun v2_2 hF => ?_)
        refine lv_istore_n (lv' := [(2, .int v2_2), (0, .ref (ad_M 0)), (1, .int v1)]) hx hb dX10_turnOver_14 rfl hl (by decide) rfl (fun ls hl => ?_)
        refine lv_iconst (v := 0) hx hb dX10_turnOver_15 (by decide) ?_
        refine lv_istore_n (lv' := [(3, .int 0), (2, .int v2_2), (0, .ref (ad_M 0)), (1, .int v1)]) hx hb dX10_turnOver_16 rfl hl (by decide) rfl (fun ls hl => ?_)
        exact l17 fuel v1 v2_2 0 M_pile M_allLifts _ _ hF hP hD hS ls (lv_sub hl [2, 3, 1, 0] rfl)
  unfold fX10_turnOver at hF
  refine lv_iconst (v := 0) hx hb dX10_turnOver_0 (by decide) ?_
  refine lv_istore_n (lv' := [(1, .int 0), (0, .ref (ad_M 0))]) hx hb dX10_turnOver_1 rfl hl (by decide) rfl (fun ls hl => ?_)
  exact l2 fuel 0 M_pile M_allLifts _ _ hF hP hD hS ls (lv_sub hl [1, 0] rfl)
theorem zdv_X10_goOne : yX10_goOne.cls = RX10 ∧ yX10_goOne.cls ≠ "java/lang/invoke/MethodHandle" ∧ yX10_goOne.cls ≠ "java/lang/invoke/VarHandle" ∧ (parseMethodDescriptor yX10_goOne.desc).map (fun d => d.parameters.length) = some 1 := by decide +kernel
theorem zdv_X10_turnOver : yX10_turnOver.cls = RX10 ∧ yX10_turnOver.cls ≠ "java/lang/invoke/MethodHandle" ∧ yX10_turnOver.cls ≠ "java/lang/invoke/VarHandle" ∧ (parseMethodDescriptor yX10_turnOver.desc).map (fun d => d.parameters.length) = some 0 := by decide +kernel
abbrev roX10_go : Room := { frames := 5, cells := 0, slots := 0, locals := 114 }
set_option maxHeartbeats 4000000 in
set_option maxRecDepth 100000 in
theorem kX10_go (l : Launch) (D : va_G) (ca : Nat → ClassId) (t : Nat → Nat) (ad_M : Nat → Nat) (M_guests : Int32) (M_kind : Nat → Int32) (M_figure : Nat → Int32) (M_told : Nat → Int32) (M_heaps : Int32) (M_holds : Int32) (M_back : Int32) (M_mistakes : Int32) (M_hooks : Int32) (M_letters : Int32) (M_rule : Nat → Int32) (M_at : Int32) (M_well : Int32) (M_sort : Int32) (M_text : Int32) (M_row : Int32) (M_field : Nat → Int32) (M_fields : Int32) (M_begins : Nat → Int32) (M_ruleLetters : Nat → Int32) (M_coming : Nat → Int32) (M_comingMany : Int32) (M_going : Nat → Int32) (M_goingMany : Int32) (M_minute : Nat → Int32) (M_pile : Nat → Int32) (M_high : Nat → Int32) (M_where : Nat → Int32) (M_latest : Int32) (M_lifts : Nat → Int32) (M_begun : Nat → Int32) (M_left : Nat → Int32) (M_has : Nat → Int32) (M_lifted : Nat → Int32) (M_taken : Nat → Int32) (M_above : Nat → Int32) (M_allLifts : Int32) (M_busy : Int32) (M_longest : Nat → Int32) (M_onto : Nat → Int32) (M_worst : Int32) (M_best : Int32) (M_orders : Int32) (M_together : Int32) (M_ofOne : Nat → Int32) (M_ofOther : Nat → Int32) (M_seed : Int32) (M_then : Nat → Int32) (M_was : Nat → Int32) (M_kept : Int32) (M_held : Nat → Int32) (M_kindOn : Nat → Int32) (M_figureOn : Nat → Int32) (M_sorts : Nat → Int32) (M_size : Nat → Int32) (M_items : Nat → Int32) (M_moved : Nat → Int32) (M_thrown : Int32) (p1 : Int32) (p2 : Int32) (fuel : Nat) (o : Int32 × (Nat → Int32) × (Nat → Int32) × (Nat → Int32) × (Nat → Int32) × (Nat → Int32) × (Nat → Int32) × (Nat → Int32) × (Nat → Int32) × (Nat → Int32) × Int32 × Int32) (hF : fX10_go fuel M_guests M_kind M_figure M_heaps M_back M_mistakes M_going M_minute M_pile M_high M_where M_lifts M_begun M_left M_has M_lifted M_taken M_above M_allLifts M_busy p1 p2 = some o) : zMi l D (zT ca) t yX10_go (.code yX10_go cX10_go 5 (some .int) :: zW) roX10_go [.ref (ad_M 0), .int p1, .int p2] (wX10_M ca ad_M M_guests M_kind M_figure M_told M_heaps M_holds M_back M_mistakes M_hooks M_letters M_rule M_at M_well M_sort M_text M_row M_field M_fields M_begins M_ruleLetters M_coming M_comingMany M_going M_goingMany M_minute M_pile M_high M_where M_latest M_lifts M_begun M_left M_has M_lifted M_taken M_above M_allLifts M_busy M_longest M_onto M_worst M_best M_orders M_together M_ofOne M_ofOther M_seed M_then M_was M_kept M_held M_kindOn M_figureOn M_sorts M_size M_items M_moved M_thrown) (wX10_M ca ad_M M_guests M_kind M_figure M_told M_heaps M_holds M_back M_mistakes M_hooks M_letters M_rule M_at M_well M_sort M_text M_row M_field M_fields M_begins M_ruleLetters M_coming M_comingMany M_going M_goingMany M_minute o.2.1 o.2.2.1 M_where M_latest o.2.2.2.1 o.2.2.2.2.1 o.2.2.2.2.2.1 o.2.2.2.2.2.2.1 o.2.2.2.2.2.2.2.1 o.2.2.2.2.2.2.2.2.1 o.2.2.2.2.2.2.2.2.2.1 o.2.2.2.2.2.2.2.2.2.2.1 o.2.2.2.2.2.2.2.2.2.2.2 M_longest M_onto M_worst M_best M_orders M_together M_ofOne M_ofOther M_seed M_then M_was M_kept M_held M_kindOn M_figureOn M_sorts M_size M_items M_moved M_thrown) o.1 := by
  refine zMi_of (cc := cX10_go) (maxL := 5) (by decide) rfl (Nat.le_of_ble_eq_true rfl) ?_
  intro p e s m args below meth c A Q ls ⟨hx, hb, hml, hown, hts, hA, hK, hZ, hS⟩ hret hP hD hl
  have hts := fun w h => hts w (List.mem_cons_of_mem _ h)
  have hown : s.vm.findClass RX10 = some m.cls := hown
  have hl : lv_has ls 5 [(0, .ref (ad_M 0)), (1, .int p1), (2, .int p2)] := hl
  have hin10 := zin_X10
  have l49 : ∀ (n49 : Nat) (v3 : Int32) (v4 : Int32) (M_pile : Nat → Int32) (M_high : Nat → Int32) (M_lifts : Nat → Int32) (M_begun : Nat → Int32) (M_left : Nat → Int32) (M_has : Nat → Int32) (M_lifted : Nat → Int32) (M_taken : Nat → Int32) (M_above : Nat → Int32) (M_allLifts : Int32) (M_busy : Int32) (H : Heap) (locs : List Loc), fX10_go_L49 fuel M_kind M_figure M_heaps M_back M_mistakes M_going M_minute M_where p1 p2 n49 v3 v4 M_pile M_high M_lifts M_begun M_left M_has M_lifted M_taken M_above M_allLifts M_busy = some o → va_P D vwCl (wX10_M ca ad_M M_guests M_kind M_figure M_told M_heaps M_holds M_back M_mistakes M_hooks M_letters M_rule M_at M_well M_sort M_text M_row M_field M_fields M_begins M_ruleLetters M_coming M_comingMany M_going M_goingMany M_minute M_pile M_high M_where M_latest M_lifts M_begun M_left M_has M_lifted M_taken M_above M_allLifts M_busy M_longest M_onto M_worst M_best M_orders M_together M_ofOne M_ofOther M_seed M_then M_was M_kept M_held M_kindOn M_figureOn M_sorts M_size M_items M_moved M_thrown) H → va_D A (wX10_M ca ad_M M_guests M_kind M_figure M_told M_heaps M_holds M_back M_mistakes M_hooks M_letters M_rule M_at M_well M_sort M_text M_row M_field M_fields M_begins M_ruleLetters M_coming M_comingMany M_going M_goingMany M_minute M_pile M_high M_where M_latest M_lifts M_begun M_left M_has M_lifted M_taken M_above M_allLifts M_busy M_longest M_onto M_worst M_best M_orders M_together M_ofOne M_ofOther M_seed M_then M_was M_kept M_held M_kindOn M_figureOn M_sorts M_size M_items M_moved M_thrown) → va_S A s.heap H locs → ∀ ls : Array Slot, lv_has ls 5 [(0, .ref (ad_M 0)), (1, .int p1), (2, .int p2), (3, .int v3), (4, .int v4)] → W p l e roX10_go s m args below meth c H locs 0 0 Q (F0 m 49 ls []) := by
    intro n49
    induction n49 with
    | zero =>
      intro v3 v4 M_pile M_high M_lifts M_begun M_left M_has M_lifted M_taken M_above M_allLifts M_busy H locs hF
      rw [fX10_go_L49] at hF
      cases hF
    | succ n49 ih49 =>
      have j81 : ∀ (v3 : Int32) (v4 : Int32) (M_pile : Nat → Int32) (M_high : Nat → Int32) (M_lifts : Nat → Int32) (M_begun : Nat → Int32) (M_left : Nat → Int32) (M_has : Nat → Int32) (M_lifted : Nat → Int32) (M_taken : Nat → Int32) (M_above : Nat → Int32) (M_allLifts : Int32) (M_busy : Int32) (H : Heap) (locs : List Loc), fX10_go_J81 fuel M_kind M_figure M_heaps M_back M_mistakes M_going M_minute M_where (fX10_go_L49 fuel M_kind M_figure M_heaps M_back M_mistakes M_going M_minute M_where p1 p2 n49) v3 v4 M_pile M_high M_lifts M_begun M_left M_has M_lifted M_taken M_above M_allLifts M_busy = some o → va_P D vwCl (wX10_M ca ad_M M_guests M_kind M_figure M_told M_heaps M_holds M_back M_mistakes M_hooks M_letters M_rule M_at M_well M_sort M_text M_row M_field M_fields M_begins M_ruleLetters M_coming M_comingMany M_going M_goingMany M_minute M_pile M_high M_where M_latest M_lifts M_begun M_left M_has M_lifted M_taken M_above M_allLifts M_busy M_longest M_onto M_worst M_best M_orders M_together M_ofOne M_ofOther M_seed M_then M_was M_kept M_held M_kindOn M_figureOn M_sorts M_size M_items M_moved M_thrown) H → va_D A (wX10_M ca ad_M M_guests M_kind M_figure M_told M_heaps M_holds M_back M_mistakes M_hooks M_letters M_rule M_at M_well M_sort M_text M_row M_field M_fields M_begins M_ruleLetters M_coming M_comingMany M_going M_goingMany M_minute M_pile M_high M_where M_latest M_lifts M_begun M_left M_has M_lifted M_taken M_above M_allLifts M_busy M_longest M_onto M_worst M_best M_orders M_together M_ofOne M_ofOther M_seed M_then M_was M_kept M_held M_kindOn M_figureOn M_sorts M_size M_items M_moved M_thrown) → va_S A s.heap H locs → ∀ ls : Array Slot, lv_has ls 5 [(0, .ref (ad_M 0)), (1, .int p1), (2, .int p2), (3, .int v3), (4, .int v4)] → W p l e roX10_go s m args below meth c H locs 0 0 Q (F0 m 81 ls []) := by
        intro v3 v4 M_pile M_high M_lifts M_begun M_left M_has M_lifted M_taken M_above M_allLifts M_busy H locs hF hP hD hS ls hl
        unfold fX10_go_J81 at hF
        refine lv_aload_n hx hb dX10_go_81 rfl (lv_at hl 0 rfl) ?_
        refine lv_aload_n hx hb dX10_go_82 rfl (lv_at hl 0 rfl) ?_
        refine va_get (D := D) (ci := 7) (v := .ref (ad_M 9)) (C := RX10) (T := TX10) (N := 58) hx hb hts hin10 hown hK hP 0 rfl rfl 22 (by decide) (hts _ zm_87) (fun _ h9 => h9) rfl dX10_go_83 ?_
        refine lv_iload hx hb dX10_go_86 (lv_at hl 4 rfl) ?_
        obtain ⟨h_12, hF⟩ := zgi hF
        refine va_iald hx hb hK hP 9 0 rfl rfl h_12 dX10_go_88 ?_
        obtain ⟨o_13, hc_13, hF⟩ := zb hF
        refine zcVv (rest := []) (ws' := (wX10_M ca ad_M M_guests M_kind M_figure M_told M_heaps M_holds M_back M_mistakes M_hooks M_letters M_rule M_at M_well M_sort M_text M_row M_field M_fields M_begins M_ruleLetters M_coming M_comingMany M_going M_goingMany M_minute o_13.1 o_13.2.1 M_where M_latest o_13.2.2.1 o_13.2.2.2.1 o_13.2.2.2.2.1 o_13.2.2.2.2.2.1 o_13.2.2.2.2.2.2.1 o_13.2.2.2.2.2.2.2.1 o_13.2.2.2.2.2.2.2.2.1 o_13.2.2.2.2.2.2.2.2.2.1 o_13.2.2.2.2.2.2.2.2.2.2 M_longest M_onto M_worst M_best M_orders M_together M_ofOne M_ofOther M_seed M_then M_was M_kept M_held M_kindOn M_figureOn M_sorts M_size M_items M_moved M_thrown)) (kX10_goOne l D ca t ad_M M_guests M_kind M_figure M_told M_heaps M_holds M_back M_mistakes M_hooks M_letters M_rule M_at M_well M_sort M_text M_row M_field M_fields M_begins M_ruleLetters M_coming M_comingMany M_going M_goingMany M_minute M_pile M_high M_where M_latest M_lifts M_begun M_left M_has M_lifted M_taken M_above M_allLifts M_busy M_longest M_onto M_worst M_best M_orders M_together M_ofOne M_ofOther M_seed M_then M_was M_kept M_held M_kindOn M_figureOn M_sorts M_size M_items M_moved M_thrown (M_going v4.toNatClampNeg) fuel _ hc_13) ⟨hx, hb, hml, hown, hts⟩ (zcwV hts zm_173 zm_174 zm_175 zm_19 zm_172 rfl rfl zdv_X10_goOne ⟨Nat.le_of_ble_eq_true rfl, Nat.le_of_ble_eq_true rfl⟩) hA hK hZ hP hD hS [0, 1, 2, 3, 4, 5, 6, 7, 8, 9, 10, 11, 12, 13, 14, 15, 16, 17, 18, 19, 20, 21, 22, 23, 24, 25, 26, 27, 28, 29, 30, 31, 32, 33] [] [0, 1, 2, 3, 4, 5, 6, 7, 8, 9, 10, 11, 12, 13, 14, 15, 16, 17, 18, 19, 20, 21, 22, 23, 24, 25, 26, 27, 28, 29, 30, 31, 32, 33] rfl rfl rfl rfl rfl rfl rfl 7 0 rfl rfl rfl hl.1 (Nat.le_of_ble_eq_true rfl) dX10_go_89 rfl (fun H locs hP hD hS => ?_)
        refine z_iinc (kv := 1) hx hb 4 dX10_go_92 hl rfl (by decide) (by decide) (fun g => [(4, .int g), (0, .ref (ad_M 0)), (1, .int p1), (2, .int p2), (3, .int v3)]) (fun _ => rfl) hF (fun v4_14 ls hF hl => ?_)
        refine lv_goto (tgt := 49) hx hb dX10_go_95 (by decide) ?_
        exact ih49 v3 v4_14 o_13.1 o_13.2.1 o_13.2.2.1 o_13.2.2.2.1 o_13.2.2.2.2.1 o_13.2.2.2.2.2.1 o_13.2.2.2.2.2.2.1 o_13.2.2.2.2.2.2.2.1 o_13.2.2.2.2.2.2.2.2.1 o_13.2.2.2.2.2.2.2.2.2.1 o_13.2.2.2.2.2.2.2.2.2.2 _ _ hF hP hD hS ls (lv_sub hl [1, 2, 3, 4, 0] rfl)
      intro v3 v4 M_pile M_high M_lifts M_begun M_left M_has M_lifted M_taken M_above M_allLifts M_busy H locs hF hP hD hS ls hl
      rw [fX10_go_L49] at hF
      refine lv_iload hx hb dX10_go_49 (lv_at hl 4 rfl) ?_
      refine lv_iload_n hx hb dX10_go_51 rfl (lv_at hl 1 rfl) ?_
      refine lv_icmp_ge (tgt := 98) hx hb dX10_go_52 (by decide) (fun c_6 => ?_) (fun c_6 => ?_)
      · have hF := zt c_6 hF
        refine lv_aload_n hx hb dX10_go_98 rfl (lv_at hl 0 rfl) ?_
        refine va_get (D := D) (ci := 7) (v := .int M_allLifts) (C := RX10) (T := TX10) (N := 58) hx hb hts hin10 hown hK hP 0 rfl rfl 36 (by decide) (hts _ zm_167) (fun _ h9 => h9) rfl dX10_go_99 ?_
        obtain rfl := Option.some.inj hF
        exact hret _ _ _ _ hP hD hS rfl dX10_go_102
      · have hF := zf c_6 hF
        refine lv_iload_n hx hb dX10_go_55 rfl (lv_at hl 3 rfl) ?_
        refine lv_if_ne (tgt := 81) hx hb dX10_go_56 (by decide) (fun c_7 => ?_) (fun c_7 => ?_)
        · have hF := zf c_7 hF
          exact j81 v3 v4 M_pile M_high M_lifts M_begun M_left M_has M_lifted M_taken M_above M_allLifts M_busy _ _ hF hP hD hS ls (lv_sub hl [0, 1, 2, 3, 4] rfl)
        · have hF := zt c_7 hF
          refine lv_aload_n hx hb dX10_go_59 rfl (lv_at hl 0 rfl) ?_
          refine va_get (D := D) (ci := 7) (v := .ref (ad_M 10)) (C := RX10) (T := TX10) (N := 58) hx hb hts hin10 hown hK hP 0 rfl rfl 24 (by decide) (hts _ zm_85) (fun _ h9 => h9) rfl dX10_go_60 ?_
          refine lv_aload_n hx hb dX10_go_63 rfl (lv_at hl 0 rfl) ?_
          refine va_get (D := D) (ci := 7) (v := .ref (ad_M 9)) (C := RX10) (T := TX10) (N := 58) hx hb hts hin10 hown hK hP 0 rfl rfl 22 (by decide) (hts _ zm_87) (fun _ h9 => h9) rfl dX10_go_64 ?_
          refine lv_iload hx hb dX10_go_67 (lv_at hl 4 rfl) ?_
          obtain ⟨h_8, hF⟩ := zgi hF
          refine va_iald hx hb hK hP 9 0 rfl rfl h_8 dX10_go_69 ?_
          obtain ⟨h_9, hF⟩ := zgi hF
          refine va_iald hx hb hK hP 10 0 rfl rfl h_9 dX10_go_70 ?_
          refine lv_iload_n hx hb dX10_go_71 rfl (lv_at hl 2 rfl) ?_
          refine lv_icmp_lt (tgt := 81) hx hb dX10_go_72 (by decide) (fun c_10 => ?_) (fun c_10 => ?_)
          · have hF := zt c_10 hF
            exact j81 v3 v4 M_pile M_high M_lifts M_begun M_left M_has M_lifted M_taken M_above M_allLifts M_busy _ _ hF hP hD hS ls (lv_sub hl [0, 1, 2, 3, 4] rfl)
          · have hF := zf c_10 hF
            refine lv_aload_n hx hb dX10_go_75 rfl (lv_at hl 0 rfl) ?_
            obtain ⟨o_11, hc_11, hF⟩ := zb hF
            refine zcVv (rest := []) (ws' := (wX10_M ca ad_M M_guests M_kind M_figure M_told M_heaps M_holds M_back M_mistakes M_hooks M_letters M_rule M_at M_well M_sort M_text M_row M_field M_fields M_begins M_ruleLetters M_coming M_comingMany M_going M_goingMany M_minute o_11.1 M_high M_where M_latest M_lifts M_begun M_left M_has M_lifted M_taken M_above o_11.2 M_busy M_longest M_onto M_worst M_best M_orders M_together M_ofOne M_ofOther M_seed M_then M_was M_kept M_held M_kindOn M_figureOn M_sorts M_size M_items M_moved M_thrown)) (kX10_turnOver l D ca t ad_M M_guests M_kind M_figure M_told M_heaps M_holds M_back M_mistakes M_hooks M_letters M_rule M_at M_well M_sort M_text M_row M_field M_fields M_begins M_ruleLetters M_coming M_comingMany M_going M_goingMany M_minute M_pile M_high M_where M_latest M_lifts M_begun M_left M_has M_lifted M_taken M_above M_allLifts M_busy M_longest M_onto M_worst M_best M_orders M_together M_ofOne M_ofOther M_seed M_then M_was M_kept M_held M_kindOn M_figureOn M_sorts M_size M_items M_moved M_thrown fuel _ hc_11) ⟨hx, hb, hml, hown, hts⟩ (zcwV hts zm_169 zm_170 zm_171 zm_19 zm_168 rfl rfl zdv_X10_turnOver ⟨Nat.le_of_ble_eq_true rfl, Nat.le_of_ble_eq_true rfl⟩) hA hK hZ hP hD hS [0, 1, 2, 3, 4, 5, 6, 7, 8, 9, 10, 11, 12, 13, 14, 15, 16, 17, 18, 19, 20, 21, 22, 23, 24, 25, 26, 27, 28, 29, 30, 31, 32, 33] [] [0, 1, 2, 3, 4, 5, 6, 7, 8, 9, 10, 11, 12, 13, 14, 15, 16, 17, 18, 19, 20, 21, 22, 23, 24, 25, 26, 27, 28, 29, 30, 31, 32, 33] rfl rfl rfl rfl rfl rfl rfl 7 0 rfl rfl rfl hl.1 (Nat.le_of_ble_eq_true rfl) dX10_go_76 rfl (fun H locs hP hD hS => ?_)
            refine lv_iconst (v := 1) hx hb dX10_go_79 (by decide) ?_
            refine lv_istore_n (lv' := [(3, .int 1), (0, .ref (ad_M 0)), (1, .int p1), (2, .int p2), (4, .int v4)]) hx hb dX10_go_80 rfl hl (by decide) rfl (fun ls hl => ?_)
            exact j81 1 v4 o_11.1 M_high M_lifts M_begun M_left M_has M_lifted M_taken M_above o_11.2 M_busy _ _ hF hP hD hS ls (lv_sub hl [1, 2, 3, 0, 4] rfl)
  have j46 : ∀ (v3 : Int32) (M_pile : Nat → Int32) (M_high : Nat → Int32) (M_lifts : Nat → Int32) (M_begun : Nat → Int32) (M_left : Nat → Int32) (M_has : Nat → Int32) (M_lifted : Nat → Int32) (M_taken : Nat → Int32) (M_above : Nat → Int32) (M_allLifts : Int32) (M_busy : Int32) (H : Heap) (locs : List Loc), fX10_go_J46 fuel M_kind M_figure M_heaps M_back M_mistakes M_going M_minute M_where p1 p2 v3 M_pile M_high M_lifts M_begun M_left M_has M_lifted M_taken M_above M_allLifts M_busy = some o → va_P D vwCl (wX10_M ca ad_M M_guests M_kind M_figure M_told M_heaps M_holds M_back M_mistakes M_hooks M_letters M_rule M_at M_well M_sort M_text M_row M_field M_fields M_begins M_ruleLetters M_coming M_comingMany M_going M_goingMany M_minute M_pile M_high M_where M_latest M_lifts M_begun M_left M_has M_lifted M_taken M_above M_allLifts M_busy M_longest M_onto M_worst M_best M_orders M_together M_ofOne M_ofOther M_seed M_then M_was M_kept M_held M_kindOn M_figureOn M_sorts M_size M_items M_moved M_thrown) H → va_D A (wX10_M ca ad_M M_guests M_kind M_figure M_told M_heaps M_holds M_back M_mistakes M_hooks M_letters M_rule M_at M_well M_sort M_text M_row M_field M_fields M_begins M_ruleLetters M_coming M_comingMany M_going M_goingMany M_minute M_pile M_high M_where M_latest M_lifts M_begun M_left M_has M_lifted M_taken M_above M_allLifts M_busy M_longest M_onto M_worst M_best M_orders M_together M_ofOne M_ofOther M_seed M_then M_was M_kept M_held M_kindOn M_figureOn M_sorts M_size M_items M_moved M_thrown) → va_S A s.heap H locs → ∀ ls : Array Slot, lv_has ls 5 [(0, .ref (ad_M 0)), (1, .int p1), (2, .int p2), (3, .int v3)] → W p l e roX10_go s m args below meth c H locs 0 0 Q (F0 m 46 ls []) := by
    intro v3 M_pile M_high M_lifts M_begun M_left M_has M_lifted M_taken M_above M_allLifts M_busy H locs hF hP hD hS ls hl
    unfold fX10_go_J46 at hF
    refine lv_iconst (v := 0) hx hb dX10_go_46 (by decide) ?_
    refine lv_istore (lv' := [(4, .int 0), (0, .ref (ad_M 0)), (1, .int p1), (2, .int p2), (3, .int v3)]) hx hb dX10_go_47 hl (by decide) rfl (fun ls hl => ?_)
    exact l49 fuel v3 0 M_pile M_high M_lifts M_begun M_left M_has M_lifted M_taken M_above M_allLifts M_busy _ _ hF hP hD hS ls (lv_sub hl [1, 2, 3, 4, 0] rfl)
  have l15 : ∀ (n15 : Nat) (v3 : Int32) (v4 : Int32) (M_pile : Nat → Int32) (M_high : Nat → Int32) (M_lifts : Nat → Int32) (M_begun : Nat → Int32) (M_left : Nat → Int32) (M_has : Nat → Int32) (M_lifted : Nat → Int32) (M_taken : Nat → Int32) (M_above : Nat → Int32) (M_allLifts : Int32) (M_busy : Int32) (H : Heap) (locs : List Loc), fX10_go_L15 fuel M_guests M_kind M_figure M_heaps M_back M_mistakes M_going M_minute M_where p1 p2 n15 v3 v4 M_pile M_high M_lifts M_begun M_left M_has M_lifted M_taken M_above M_allLifts M_busy = some o → va_P D vwCl (wX10_M ca ad_M M_guests M_kind M_figure M_told M_heaps M_holds M_back M_mistakes M_hooks M_letters M_rule M_at M_well M_sort M_text M_row M_field M_fields M_begins M_ruleLetters M_coming M_comingMany M_going M_goingMany M_minute M_pile M_high M_where M_latest M_lifts M_begun M_left M_has M_lifted M_taken M_above M_allLifts M_busy M_longest M_onto M_worst M_best M_orders M_together M_ofOne M_ofOther M_seed M_then M_was M_kept M_held M_kindOn M_figureOn M_sorts M_size M_items M_moved M_thrown) H → va_D A (wX10_M ca ad_M M_guests M_kind M_figure M_told M_heaps M_holds M_back M_mistakes M_hooks M_letters M_rule M_at M_well M_sort M_text M_row M_field M_fields M_begins M_ruleLetters M_coming M_comingMany M_going M_goingMany M_minute M_pile M_high M_where M_latest M_lifts M_begun M_left M_has M_lifted M_taken M_above M_allLifts M_busy M_longest M_onto M_worst M_best M_orders M_together M_ofOne M_ofOther M_seed M_then M_was M_kept M_held M_kindOn M_figureOn M_sorts M_size M_items M_moved M_thrown) → va_S A s.heap H locs → ∀ ls : Array Slot, lv_has ls 5 [(0, .ref (ad_M 0)), (1, .int p1), (2, .int p2), (3, .int v3), (4, .int v4)] → W p l e roX10_go s m args below meth c H locs 0 0 Q (F0 m 15 ls []) := by
    intro n15
    induction n15 with
    | zero =>
      intro v3 v4 M_pile M_high M_lifts M_begun M_left M_has M_lifted M_taken M_above M_allLifts M_busy H locs hF
      rw [fX10_go_L15] at hF
      cases hF
    | succ n15 ih15 =>
      intro v3 v4 M_pile M_high M_lifts M_begun M_left M_has M_lifted M_taken M_above M_allLifts M_busy H locs hF hP hD hS ls hl
      rw [fX10_go_L15] at hF
      refine lv_iload hx hb dX10_go_15 (lv_at hl 4 rfl) ?_
      refine lv_aload_n hx hb dX10_go_17 rfl (lv_at hl 0 rfl) ?_
      refine va_get (D := D) (ci := 7) (v := .int M_guests) (C := RX10) (T := TX10) (N := 58) hx hb hts hin10 hown hK hP 0 rfl rfl 0 (by decide) (hts _ zm_16) (fun _ h9 => h9) rfl dX10_go_18 ?_
      refine lv_icmp_ge (tgt := 46) hx hb dX10_go_21 (by decide) (fun c_1 => ?_) (fun c_1 => ?_)
      · have hF := zt c_1 hF
        exact j46 v3 M_pile M_high M_lifts M_begun M_left M_has M_lifted M_taken M_above M_allLifts M_busy _ _ hF hP hD hS ls (lv_sub hl [0, 1, 2, 3] rfl)
      · have hF := zf c_1 hF
        refine lv_aload_n hx hb dX10_go_24 rfl (lv_at hl 0 rfl) ?_
        refine va_get (D := D) (ci := 7) (v := .ref (ad_M 18)) (C := RX10) (T := TX10) (N := 58) hx hb hts hin10 hown hK hP 0 rfl rfl 33 (by decide) (hts _ zm_145) (fun _ h9 => h9) rfl dX10_go_25 ?_
        refine lv_iload hx hb dX10_go_28 (lv_at hl 4 rfl) ?_
        refine lv_iconst (v := 0) hx hb dX10_go_30 (by decide) ?_
        obtain ⟨h_2, hF⟩ := zgi hF
        refine z_iast hx hb hK hP hD hS 18 0 rfl rfl h_2 dX10_go_31 (fun g => (wX10_M ca ad_M M_guests M_kind M_figure M_told M_heaps M_holds M_back M_mistakes M_hooks M_letters M_rule M_at M_well M_sort M_text M_row M_field M_fields M_begins M_ruleLetters M_coming M_comingMany M_going M_goingMany M_minute M_pile M_high M_where M_latest M_lifts M_begun M_left M_has g M_taken M_above M_allLifts M_busy M_longest M_onto M_worst M_best M_orders M_together M_ofOne M_ofOther M_seed M_then M_was M_kept M_held M_kindOn M_figureOn M_sorts M_size M_items M_moved M_thrown)) (fun _ => rfl) hF (fun M_lifted_3 H locs hF hP hD hS => ?_)
        refine lv_aload_n hx hb dX10_go_32 rfl (lv_at hl 0 rfl) ?_
        refine va_get (D := D) (ci := 7) (v := .ref (ad_M 19)) (C := RX10) (T := TX10) (N := 58) hx hb hts hin10 hown hK hP 0 rfl rfl 34 (by decide) (hts _ zm_147) (fun _ h9 => h9) rfl dX10_go_33 ?_
        refine lv_iload hx hb dX10_go_36 (lv_at hl 4 rfl) ?_
        refine lv_iconst (v := 0) hx hb dX10_go_38 (by decide) ?_
        refine z_zast hx hb hK hP hD hS 19 1 rfl rfl h_2 dX10_go_39 (fun g => (wX10_M ca ad_M M_guests M_kind M_figure M_told M_heaps M_holds M_back M_mistakes M_hooks M_letters M_rule M_at M_well M_sort M_text M_row M_field M_fields M_begins M_ruleLetters M_coming M_comingMany M_going M_goingMany M_minute M_pile M_high M_where M_latest M_lifts M_begun M_left M_has M_lifted_3 g M_above M_allLifts M_busy M_longest M_onto M_worst M_best M_orders M_together M_ofOne M_ofOther M_seed M_then M_was M_kept M_held M_kindOn M_figureOn M_sorts M_size M_items M_moved M_thrown)) (fun _ => rfl) hF (fun M_taken_4 H locs hF hP hD hS => ?_)
        refine z_iinc (kv := 1) hx hb 4 dX10_go_40 hl rfl (by decide) (by decide) (fun g => [(4, .int g), (0, .ref (ad_M 0)), (1, .int p1), (2, .int p2), (3, .int v3)]) (fun _ => rfl) hF (fun v4_5 ls hF hl => ?_)
        refine lv_goto (tgt := 15) hx hb dX10_go_43 (by decide) ?_
        exact ih15 v3 v4_5 M_pile M_high M_lifts M_begun M_left M_has M_lifted_3 M_taken_4 M_above M_allLifts M_busy _ _ hF hP hD hS ls (lv_sub hl [1, 2, 3, 4, 0] rfl)
  unfold fX10_go at hF
  refine lv_aload_n hx hb dX10_go_0 rfl (lv_at hl 0 rfl) ?_
  refine lv_iconst (v := 0) hx hb dX10_go_1 (by decide) ?_
  refine va_put (D := D) (ci := 7) (v := .int 0) (C := RX10) (T := TX10) (N := 58) hx hb hts hin10 tyX10 tyX10_ok nmX10 hown hK hP hD hS 0 rfl rfl 36 (by decide) (hts _ zm_167) (fun _ h9 => h9) rfl (tyX10_ok 36 (by decide)) rfl rfl (Nat.le_of_ble_eq_true rfl) dX10_go_2 (fun H locs hP hD hS => ?_)
  have hP : va_P D vwCl (wX10_M ca ad_M M_guests M_kind M_figure M_told M_heaps M_holds M_back M_mistakes M_hooks M_letters M_rule M_at M_well M_sort M_text M_row M_field M_fields M_begins M_ruleLetters M_coming M_comingMany M_going M_goingMany M_minute M_pile M_high M_where M_latest M_lifts M_begun M_left M_has M_lifted M_taken M_above 0 M_busy M_longest M_onto M_worst M_best M_orders M_together M_ofOne M_ofOther M_seed M_then M_was M_kept M_held M_kindOn M_figureOn M_sorts M_size M_items M_moved M_thrown) H := hP
  have hD : va_D A (wX10_M ca ad_M M_guests M_kind M_figure M_told M_heaps M_holds M_back M_mistakes M_hooks M_letters M_rule M_at M_well M_sort M_text M_row M_field M_fields M_begins M_ruleLetters M_coming M_comingMany M_going M_goingMany M_minute M_pile M_high M_where M_latest M_lifts M_begun M_left M_has M_lifted M_taken M_above 0 M_busy M_longest M_onto M_worst M_best M_orders M_together M_ofOne M_ofOther M_seed M_then M_was M_kept M_held M_kindOn M_figureOn M_sorts M_size M_items M_moved M_thrown) := hD
  refine lv_aload_n hx hb dX10_go_5 rfl (lv_at hl 0 rfl) ?_
  refine lv_iconst (v := 0) hx hb dX10_go_6 (by decide) ?_
  refine va_put (D := D) (ci := 7) (v := .int 0) (C := RX10) (T := TX10) (N := 58) hx hb hts hin10 tyX10 tyX10_ok nmX10 hown hK hP hD hS 0 rfl rfl 37 (by decide) (hts _ zm_165) (fun _ h9 => h9) rfl (tyX10_ok 37 (by decide)) rfl rfl (Nat.le_of_ble_eq_true rfl) dX10_go_7 (fun H locs hP hD hS => ?_)
  have hP : va_P D vwCl (wX10_M ca ad_M M_guests M_kind M_figure M_told M_heaps M_holds M_back M_mistakes M_hooks M_letters M_rule M_at M_well M_sort M_text M_row M_field M_fields M_begins M_ruleLetters M_coming M_comingMany M_going M_goingMany M_minute M_pile M_high M_where M_latest M_lifts M_begun M_left M_has M_lifted M_taken M_above 0 0 M_longest M_onto M_worst M_best M_orders M_together M_ofOne M_ofOther M_seed M_then M_was M_kept M_held M_kindOn M_figureOn M_sorts M_size M_items M_moved M_thrown) H := hP
  have hD : va_D A (wX10_M ca ad_M M_guests M_kind M_figure M_told M_heaps M_holds M_back M_mistakes M_hooks M_letters M_rule M_at M_well M_sort M_text M_row M_field M_fields M_begins M_ruleLetters M_coming M_comingMany M_going M_goingMany M_minute M_pile M_high M_where M_latest M_lifts M_begun M_left M_has M_lifted M_taken M_above 0 0 M_longest M_onto M_worst M_best M_orders M_together M_ofOne M_ofOther M_seed M_then M_was M_kept M_held M_kindOn M_figureOn M_sorts M_size M_items M_moved M_thrown) := hD
  refine lv_iconst (v := 0) hx hb dX10_go_10 (by decide) ?_
  refine lv_istore_n (lv' := [(3, .int 0), (0, .ref (ad_M 0)), (1, .int p1), (2, .int p2)]) hx hb dX10_go_11 rfl hl (by decide) rfl (fun ls hl => ?_)
  refine lv_iconst (v := 0) hx hb dX10_go_12 (by decide) ?_
  refine lv_istore (lv' := [(4, .int 0), (3, .int 0), (0, .ref (ad_M 0)), (1, .int p1), (2, .int p2)]) hx hb dX10_go_13 hl (by decide) rfl (fun ls hl => ?_)
  exact l15 fuel 0 0 M_pile M_high M_lifts M_begun M_left M_has M_lifted M_taken M_above 0 0 _ _ hF hP hD hS ls (lv_sub hl [2, 3, 4, 1, 0] rfl)
theorem zdv_X10_go : yX10_go.cls = RX10 ∧ yX10_go.cls ≠ "java/lang/invoke/MethodHandle" ∧ yX10_go.cls ≠ "java/lang/invoke/VarHandle" ∧ (parseMethodDescriptor yX10_go.desc).map (fun d => d.parameters.length) = some 2 := by decide +kernel
theorem zdv_X10_lay : yX10_lay.cls = RX10 ∧ yX10_lay.cls ≠ "java/lang/invoke/MethodHandle" ∧ yX10_lay.cls ≠ "java/lang/invoke/VarHandle" ∧ (parseMethodDescriptor yX10_lay.desc).map (fun d => d.parameters.length) = some 0 := by decide +kernel
abbrev roX10_layAndGo : Room := { frames := 6, cells := 0, slots := 0, locals := 138 }
set_option maxHeartbeats 4000000 in
set_option maxRecDepth 100000 in
theorem kX10_layAndGo (l : Launch) (D : va_G) (ca : Nat → ClassId) (t : Nat → Nat) (ad_M : Nat → Nat) (M_guests : Int32) (M_kind : Nat → Int32) (M_figure : Nat → Int32) (M_told : Nat → Int32) (M_heaps : Int32) (M_holds : Int32) (M_back : Int32) (M_mistakes : Int32) (M_hooks : Int32) (M_letters : Int32) (M_rule : Nat → Int32) (M_at : Int32) (M_well : Int32) (M_sort : Int32) (M_text : Int32) (M_row : Int32) (M_field : Nat → Int32) (M_fields : Int32) (M_begins : Nat → Int32) (M_ruleLetters : Nat → Int32) (M_coming : Nat → Int32) (M_comingMany : Int32) (M_going : Nat → Int32) (M_goingMany : Int32) (M_minute : Nat → Int32) (M_pile : Nat → Int32) (M_high : Nat → Int32) (M_where : Nat → Int32) (M_latest : Int32) (M_lifts : Nat → Int32) (M_begun : Nat → Int32) (M_left : Nat → Int32) (M_has : Nat → Int32) (M_lifted : Nat → Int32) (M_taken : Nat → Int32) (M_above : Nat → Int32) (M_allLifts : Int32) (M_busy : Int32) (M_longest : Nat → Int32) (M_onto : Nat → Int32) (M_worst : Int32) (M_best : Int32) (M_orders : Int32) (M_together : Int32) (M_ofOne : Nat → Int32) (M_ofOther : Nat → Int32) (M_seed : Int32) (M_then : Nat → Int32) (M_was : Nat → Int32) (M_kept : Int32) (M_held : Nat → Int32) (M_kindOn : Nat → Int32) (M_figureOn : Nat → Int32) (M_sorts : Nat → Int32) (M_size : Nat → Int32) (M_items : Nat → Int32) (M_moved : Nat → Int32) (M_thrown : Int32) (fuel : Nat) (o : Int32 × (Nat → Int32) × (Nat → Int32) × (Nat → Int32) × Int32 × (Nat → Int32) × (Nat → Int32) × (Nat → Int32) × (Nat → Int32) × (Nat → Int32) × (Nat → Int32) × (Nat → Int32) × Int32 × Int32) (hF : fX10_layAndGo fuel M_guests M_kind M_figure M_heaps M_holds M_back M_mistakes M_hooks M_letters M_rule M_coming M_comingMany M_going M_goingMany M_minute M_pile M_high M_where M_latest M_lifts M_begun M_left M_has M_lifted M_taken M_above M_allLifts M_busy = some o) : zMi l D (zT ca) t yX10_layAndGo (.code yX10_layAndGo cX10_layAndGo 1 (some .int) :: zW) roX10_layAndGo [.ref (ad_M 0)] (wX10_M ca ad_M M_guests M_kind M_figure M_told M_heaps M_holds M_back M_mistakes M_hooks M_letters M_rule M_at M_well M_sort M_text M_row M_field M_fields M_begins M_ruleLetters M_coming M_comingMany M_going M_goingMany M_minute M_pile M_high M_where M_latest M_lifts M_begun M_left M_has M_lifted M_taken M_above M_allLifts M_busy M_longest M_onto M_worst M_best M_orders M_together M_ofOne M_ofOther M_seed M_then M_was M_kept M_held M_kindOn M_figureOn M_sorts M_size M_items M_moved M_thrown) (wX10_M ca ad_M M_guests M_kind M_figure M_told M_heaps M_holds M_back M_mistakes M_hooks M_letters M_rule M_at M_well M_sort M_text M_row M_field M_fields M_begins M_ruleLetters M_coming M_comingMany M_going M_goingMany M_minute o.2.1 o.2.2.1 o.2.2.2.1 o.2.2.2.2.1 o.2.2.2.2.2.1 o.2.2.2.2.2.2.1 o.2.2.2.2.2.2.2.1 o.2.2.2.2.2.2.2.2.1 o.2.2.2.2.2.2.2.2.2.1 o.2.2.2.2.2.2.2.2.2.2.1 o.2.2.2.2.2.2.2.2.2.2.2.1 o.2.2.2.2.2.2.2.2.2.2.2.2.1 o.2.2.2.2.2.2.2.2.2.2.2.2.2 M_longest M_onto M_worst M_best M_orders M_together M_ofOne M_ofOther M_seed M_then M_was M_kept M_held M_kindOn M_figureOn M_sorts M_size M_items M_moved M_thrown) o.1 := by
  refine zMi_of (cc := cX10_layAndGo) (maxL := 1) (by decide) rfl (Nat.le_of_ble_eq_true rfl) ?_
  intro p e s m args below meth c A Q ls ⟨hx, hb, hml, hown, hts, hA, hK, hZ, hS⟩ hret hP hD hl
  have hts := fun w h => hts w (List.mem_cons_of_mem _ h)
  have hown : s.vm.findClass RX10 = some m.cls := hown
  have hl : lv_has ls 1 [(0, .ref (ad_M 0))] := hl
  have hin10 := zin_X10
  unfold fX10_layAndGo at hF
  refine lv_aload_n hx hb dX10_layAndGo_0 rfl (lv_at hl 0 rfl) ?_
  obtain ⟨o_1, hc_1, hF⟩ := zb hF
  refine zcVv (rest := []) (ws' := (wX10_M ca ad_M M_guests M_kind M_figure M_told M_heaps M_holds M_back M_mistakes M_hooks M_letters M_rule M_at M_well M_sort M_text M_row M_field M_fields M_begins M_ruleLetters M_coming M_comingMany M_going M_goingMany M_minute o_1.1 o_1.2.1 o_1.2.2.1 o_1.2.2.2 M_lifts M_begun M_left M_has M_lifted M_taken M_above M_allLifts M_busy M_longest M_onto M_worst M_best M_orders M_together M_ofOne M_ofOther M_seed M_then M_was M_kept M_held M_kindOn M_figureOn M_sorts M_size M_items M_moved M_thrown)) (kX10_lay l D ca t ad_M M_guests M_kind M_figure M_told M_heaps M_holds M_back M_mistakes M_hooks M_letters M_rule M_at M_well M_sort M_text M_row M_field M_fields M_begins M_ruleLetters M_coming M_comingMany M_going M_goingMany M_minute M_pile M_high M_where M_latest M_lifts M_begun M_left M_has M_lifted M_taken M_above M_allLifts M_busy M_longest M_onto M_worst M_best M_orders M_together M_ofOne M_ofOther M_seed M_then M_was M_kept M_held M_kindOn M_figureOn M_sorts M_size M_items M_moved M_thrown fuel _ hc_1) ⟨hx, hb, hml, hown, hts⟩ (zcwV hts zm_177 zm_178 zm_179 zm_19 zm_176 rfl rfl zdv_X10_lay ⟨Nat.le_of_ble_eq_true rfl, Nat.le_of_ble_eq_true rfl⟩) hA hK hZ hP hD hS [0, 1, 2, 3, 4, 5, 6, 7, 8, 9, 10, 11, 12, 13, 14, 15, 16, 17, 18, 19, 20, 21, 22, 23, 24, 25, 26, 27, 28, 29, 30, 31, 32, 33] [] [0, 1, 2, 3, 4, 5, 6, 7, 8, 9, 10, 11, 12, 13, 14, 15, 16, 17, 18, 19, 20, 21, 22, 23, 24, 25, 26, 27, 28, 29, 30, 31, 32, 33] rfl rfl rfl rfl rfl rfl rfl 7 0 rfl rfl rfl hl.1 (Nat.le_of_ble_eq_true rfl) dX10_layAndGo_1 rfl (fun H locs hP hD hS => ?_)
  refine lv_aload_n hx hb dX10_layAndGo_4 rfl (lv_at hl 0 rfl) ?_
  refine lv_aload_n hx hb dX10_layAndGo_5 rfl (lv_at hl 0 rfl) ?_
  refine va_get (D := D) (ci := 7) (v := .int M_goingMany) (C := RX10) (T := TX10) (N := 58) hx hb hts hin10 hown hK hP 0 rfl rfl 23 (by decide) (hts _ zm_86) (fun _ h9 => h9) rfl dX10_layAndGo_6 ?_
  refine lv_ldcw hx hb hown (hts _ zm_180) dX10_layAndGo_9 ?_
  obtain ⟨o_2, hc_2, hF⟩ := zb hF
  refine zcVi (rest := []) (ws' := (wX10_M ca ad_M M_guests M_kind M_figure M_told M_heaps M_holds M_back M_mistakes M_hooks M_letters M_rule M_at M_well M_sort M_text M_row M_field M_fields M_begins M_ruleLetters M_coming M_comingMany M_going M_goingMany M_minute o_2.2.1 o_2.2.2.1 o_1.2.2.1 o_1.2.2.2 o_2.2.2.2.1 o_2.2.2.2.2.1 o_2.2.2.2.2.2.1 o_2.2.2.2.2.2.2.1 o_2.2.2.2.2.2.2.2.1 o_2.2.2.2.2.2.2.2.2.1 o_2.2.2.2.2.2.2.2.2.2.1 o_2.2.2.2.2.2.2.2.2.2.2.1 o_2.2.2.2.2.2.2.2.2.2.2.2 M_longest M_onto M_worst M_best M_orders M_together M_ofOne M_ofOther M_seed M_then M_was M_kept M_held M_kindOn M_figureOn M_sorts M_size M_items M_moved M_thrown)) (kX10_go l D ca t ad_M M_guests M_kind M_figure M_told M_heaps M_holds M_back M_mistakes M_hooks M_letters M_rule M_at M_well M_sort M_text M_row M_field M_fields M_begins M_ruleLetters M_coming M_comingMany M_going M_goingMany M_minute o_1.1 o_1.2.1 o_1.2.2.1 o_1.2.2.2 M_lifts M_begun M_left M_has M_lifted M_taken M_above M_allLifts M_busy M_longest M_onto M_worst M_best M_orders M_together M_ofOne M_ofOther M_seed M_then M_was M_kept M_held M_kindOn M_figureOn M_sorts M_size M_items M_moved M_thrown M_goingMany 1000000 fuel _ hc_2) ⟨hx, hb, hml, hown, hts⟩ (zcwV hts zm_182 zm_183 zm_184 zm_19 zm_181 rfl rfl zdv_X10_go ⟨Nat.le_of_ble_eq_true rfl, Nat.le_of_ble_eq_true rfl⟩) hA hK hZ hP hD hS [0, 1, 2, 3, 4, 5, 6, 7, 8, 9, 10, 11, 12, 13, 14, 15, 16, 17, 18, 19, 20, 21, 22, 23, 24, 25, 26, 27, 28, 29, 30, 31, 32, 33] [] [0, 1, 2, 3, 4, 5, 6, 7, 8, 9, 10, 11, 12, 13, 14, 15, 16, 17, 18, 19, 20, 21, 22, 23, 24, 25, 26, 27, 28, 29, 30, 31, 32, 33] rfl rfl rfl rfl rfl rfl rfl 7 0 rfl rfl rfl hl.1 (Nat.le_of_ble_eq_true rfl) dX10_layAndGo_12 rfl (fun H locs hP hD hS => ?_)
  obtain rfl := Option.some.inj hF
  exact hret _ _ _ _ hP hD hS rfl dX10_layAndGo_15
theorem zdv_X10_layAndGo : yX10_layAndGo.cls = RX10 ∧ yX10_layAndGo.cls ≠ "java/lang/invoke/MethodHandle" ∧ yX10_layAndGo.cls ≠ "java/lang/invoke/VarHandle" ∧ (parseMethodDescriptor yX10_layAndGo.desc).map (fun d => d.parameters.length) = some 0 := by decide +kernel
theorem zdv_X10_usual : yX10_usual.cls = RX10 ∧ yX10_usual.cls ≠ "java/lang/invoke/MethodHandle" ∧ yX10_usual.cls ≠ "java/lang/invoke/VarHandle" ∧ (parseMethodDescriptor yX10_usual.desc).map (fun d => d.parameters.length) = some 0 := by decide +kernel
abbrev roX10_night : Room := { frames := 7, cells := 0, slots := 0, locals := 158 }
set_option maxHeartbeats 4000000 in
set_option maxRecDepth 100000 in
theorem kX10_night (l : Launch) (D : va_G) (ca : Nat → ClassId) (t : Nat → Nat) (ad_M : Nat → Nat) (M_guests : Int32) (M_kind : Nat → Int32) (M_figure : Nat → Int32) (M_told : Nat → Int32) (M_heaps : Int32) (M_holds : Int32) (M_back : Int32) (M_mistakes : Int32) (M_hooks : Int32) (M_letters : Int32) (M_rule : Nat → Int32) (M_at : Int32) (M_well : Int32) (M_sort : Int32) (M_text : Int32) (M_row : Int32) (M_field : Nat → Int32) (M_fields : Int32) (M_begins : Nat → Int32) (M_ruleLetters : Nat → Int32) (M_coming : Nat → Int32) (M_comingMany : Int32) (M_going : Nat → Int32) (M_goingMany : Int32) (M_minute : Nat → Int32) (M_pile : Nat → Int32) (M_high : Nat → Int32) (M_where : Nat → Int32) (M_latest : Int32) (M_lifts : Nat → Int32) (M_begun : Nat → Int32) (M_left : Nat → Int32) (M_has : Nat → Int32) (M_lifted : Nat → Int32) (M_taken : Nat → Int32) (M_above : Nat → Int32) (M_allLifts : Int32) (M_busy : Int32) (M_longest : Nat → Int32) (M_onto : Nat → Int32) (M_worst : Int32) (M_best : Int32) (M_orders : Int32) (M_together : Int32) (M_ofOne : Nat → Int32) (M_ofOther : Nat → Int32) (M_seed : Int32) (M_then : Nat → Int32) (M_was : Nat → Int32) (M_kept : Int32) (M_held : Nat → Int32) (M_kindOn : Nat → Int32) (M_figureOn : Nat → Int32) (M_sorts : Nat → Int32) (M_size : Nat → Int32) (M_items : Nat → Int32) (M_moved : Nat → Int32) (M_thrown : Int32) (fuel : Nat) (o : Int32 × (Nat → Int32) × Int32 × (Nat → Int32) × Int32 × (Nat → Int32) × (Nat → Int32) × (Nat → Int32) × (Nat → Int32) × Int32 × (Nat → Int32) × (Nat → Int32) × (Nat → Int32) × (Nat → Int32) × (Nat → Int32) × (Nat → Int32) × (Nat → Int32) × Int32 × Int32) (hF : fX10_night fuel M_guests M_kind M_figure M_told M_heaps M_holds M_back M_mistakes M_hooks M_letters M_rule M_coming M_comingMany M_going M_goingMany M_minute M_pile M_high M_where M_latest M_lifts M_begun M_left M_has M_lifted M_taken M_above M_allLifts M_busy = some o) : zMi l D (zT ca) t yX10_night (.code yX10_night cX10_night 1 (some .int) :: zW) roX10_night [.ref (ad_M 0)] (wX10_M ca ad_M M_guests M_kind M_figure M_told M_heaps M_holds M_back M_mistakes M_hooks M_letters M_rule M_at M_well M_sort M_text M_row M_field M_fields M_begins M_ruleLetters M_coming M_comingMany M_going M_goingMany M_minute M_pile M_high M_where M_latest M_lifts M_begun M_left M_has M_lifted M_taken M_above M_allLifts M_busy M_longest M_onto M_worst M_best M_orders M_together M_ofOne M_ofOther M_seed M_then M_was M_kept M_held M_kindOn M_figureOn M_sorts M_size M_items M_moved M_thrown) (wX10_M ca ad_M M_guests M_kind M_figure M_told M_heaps M_holds M_back M_mistakes M_hooks M_letters M_rule M_at M_well M_sort M_text M_row M_field M_fields M_begins M_ruleLetters o.2.1 o.2.2.1 o.2.2.2.1 o.2.2.2.2.1 o.2.2.2.2.2.1 o.2.2.2.2.2.2.1 o.2.2.2.2.2.2.2.1 o.2.2.2.2.2.2.2.2.1 o.2.2.2.2.2.2.2.2.2.1 o.2.2.2.2.2.2.2.2.2.2.1 o.2.2.2.2.2.2.2.2.2.2.2.1 o.2.2.2.2.2.2.2.2.2.2.2.2.1 o.2.2.2.2.2.2.2.2.2.2.2.2.2.1 o.2.2.2.2.2.2.2.2.2.2.2.2.2.2.1 o.2.2.2.2.2.2.2.2.2.2.2.2.2.2.2.1 o.2.2.2.2.2.2.2.2.2.2.2.2.2.2.2.2.1 o.2.2.2.2.2.2.2.2.2.2.2.2.2.2.2.2.2.1 o.2.2.2.2.2.2.2.2.2.2.2.2.2.2.2.2.2.2 M_longest M_onto M_worst M_best M_orders M_together M_ofOne M_ofOther M_seed M_then M_was M_kept M_held M_kindOn M_figureOn M_sorts M_size M_items M_moved M_thrown) o.1 := by
  refine zMi_of (cc := cX10_night) (maxL := 1) (by decide) rfl (Nat.le_of_ble_eq_true rfl) ?_
  intro p e s m args below meth c A Q ls ⟨hx, hb, hml, hown, hts, hA, hK, hZ, hS⟩ hret hP hD hl
  have hts := fun w h => hts w (List.mem_cons_of_mem _ h)
  have hown : s.vm.findClass RX10 = some m.cls := hown
  have hl : lv_has ls 1 [(0, .ref (ad_M 0))] := hl
  unfold fX10_night at hF
  refine lv_aload_n hx hb dX10_night_0 rfl (lv_at hl 0 rfl) ?_
  obtain ⟨o_1, hc_1, hF⟩ := zb hF
  refine zcVv (rest := []) (ws' := (wX10_M ca ad_M M_guests M_kind M_figure M_told M_heaps M_holds M_back M_mistakes M_hooks M_letters M_rule M_at M_well M_sort M_text M_row M_field M_fields M_begins M_ruleLetters o_1.1 o_1.2.1 o_1.2.2.1 o_1.2.2.2.1 o_1.2.2.2.2 M_pile M_high M_where M_latest M_lifts M_begun M_left M_has M_lifted M_taken M_above M_allLifts M_busy M_longest M_onto M_worst M_best M_orders M_together M_ofOne M_ofOther M_seed M_then M_was M_kept M_held M_kindOn M_figureOn M_sorts M_size M_items M_moved M_thrown)) (kX10_usual l D ca t ad_M M_guests M_kind M_figure M_told M_heaps M_holds M_back M_mistakes M_hooks M_letters M_rule M_at M_well M_sort M_text M_row M_field M_fields M_begins M_ruleLetters M_coming M_comingMany M_going M_goingMany M_minute M_pile M_high M_where M_latest M_lifts M_begun M_left M_has M_lifted M_taken M_above M_allLifts M_busy M_longest M_onto M_worst M_best M_orders M_together M_ofOne M_ofOther M_seed M_then M_was M_kept M_held M_kindOn M_figureOn M_sorts M_size M_items M_moved M_thrown fuel _ hc_1) ⟨hx, hb, hml, hown, hts⟩ (zcwV hts zm_186 zm_187 zm_188 zm_19 zm_185 rfl rfl zdv_X10_usual ⟨Nat.le_of_ble_eq_true rfl, Nat.le_of_ble_eq_true rfl⟩) hA hK hZ hP hD hS [0, 1, 2, 3, 4, 5, 6, 7, 8, 9, 10, 11, 12, 13, 14, 15, 16, 17, 18, 19, 20, 21, 22, 23, 24, 25, 26, 27, 28, 29, 30, 31, 32, 33] [] [0, 1, 2, 3, 4, 5, 6, 7, 8, 9, 10, 11, 12, 13, 14, 15, 16, 17, 18, 19, 20, 21, 22, 23, 24, 25, 26, 27, 28, 29, 30, 31, 32, 33] rfl rfl rfl rfl rfl rfl rfl 7 0 rfl rfl rfl hl.1 (Nat.le_of_ble_eq_true rfl) dX10_night_1 rfl (fun H locs hP hD hS => ?_)
  refine lv_aload_n hx hb dX10_night_4 rfl (lv_at hl 0 rfl) ?_
  obtain ⟨o_2, hc_2, hF⟩ := zb hF
  refine zcVi (rest := []) (ws' := (wX10_M ca ad_M M_guests M_kind M_figure M_told M_heaps M_holds M_back M_mistakes M_hooks M_letters M_rule M_at M_well M_sort M_text M_row M_field M_fields M_begins M_ruleLetters o_1.1 o_1.2.1 o_1.2.2.1 o_1.2.2.2.1 o_1.2.2.2.2 o_2.2.1 o_2.2.2.1 o_2.2.2.2.1 o_2.2.2.2.2.1 o_2.2.2.2.2.2.1 o_2.2.2.2.2.2.2.1 o_2.2.2.2.2.2.2.2.1 o_2.2.2.2.2.2.2.2.2.1 o_2.2.2.2.2.2.2.2.2.2.1 o_2.2.2.2.2.2.2.2.2.2.2.1 o_2.2.2.2.2.2.2.2.2.2.2.2.1 o_2.2.2.2.2.2.2.2.2.2.2.2.2.1 o_2.2.2.2.2.2.2.2.2.2.2.2.2.2 M_longest M_onto M_worst M_best M_orders M_together M_ofOne M_ofOther M_seed M_then M_was M_kept M_held M_kindOn M_figureOn M_sorts M_size M_items M_moved M_thrown)) (kX10_layAndGo l D ca t ad_M M_guests M_kind M_figure M_told M_heaps M_holds M_back M_mistakes M_hooks M_letters M_rule M_at M_well M_sort M_text M_row M_field M_fields M_begins M_ruleLetters o_1.1 o_1.2.1 o_1.2.2.1 o_1.2.2.2.1 o_1.2.2.2.2 M_pile M_high M_where M_latest M_lifts M_begun M_left M_has M_lifted M_taken M_above M_allLifts M_busy M_longest M_onto M_worst M_best M_orders M_together M_ofOne M_ofOther M_seed M_then M_was M_kept M_held M_kindOn M_figureOn M_sorts M_size M_items M_moved M_thrown fuel _ hc_2) ⟨hx, hb, hml, hown, hts⟩ (zcwV hts zm_190 zm_191 zm_192 zm_19 zm_189 rfl rfl zdv_X10_layAndGo ⟨Nat.le_of_ble_eq_true rfl, Nat.le_of_ble_eq_true rfl⟩) hA hK hZ hP hD hS [0, 1, 2, 3, 4, 5, 6, 7, 8, 9, 10, 11, 12, 13, 14, 15, 16, 17, 18, 19, 20, 21, 22, 23, 24, 25, 26, 27, 28, 29, 30, 31, 32, 33] [] [0, 1, 2, 3, 4, 5, 6, 7, 8, 9, 10, 11, 12, 13, 14, 15, 16, 17, 18, 19, 20, 21, 22, 23, 24, 25, 26, 27, 28, 29, 30, 31, 32, 33] rfl rfl rfl rfl rfl rfl rfl 7 0 rfl rfl rfl hl.1 (Nat.le_of_ble_eq_true rfl) dX10_night_5 rfl (fun H locs hP hD hS => ?_)
  obtain rfl := Option.some.inj hF
  exact hret _ _ _ _ hP hD hS rfl dX10_night_8
abbrev roX10_heap : Room := { frames := 5, cells := 0, slots := 0, locals := 115 }
set_option maxHeartbeats 4000000 in
set_option maxRecDepth 100000 in
theorem kX10_heap (l : Launch) (D : va_G) (ca : Nat → ClassId) (t : Nat → Nat) (ad_M : Nat → Nat) (M_guests : Int32) (M_kind : Nat → Int32) (M_figure : Nat → Int32) (M_told : Nat → Int32) (M_heaps : Int32) (M_holds : Int32) (M_back : Int32) (M_mistakes : Int32) (M_hooks : Int32) (M_letters : Int32) (M_rule : Nat → Int32) (M_at : Int32) (M_well : Int32) (M_sort : Int32) (M_text : Int32) (M_row : Int32) (M_field : Nat → Int32) (M_fields : Int32) (M_begins : Nat → Int32) (M_ruleLetters : Nat → Int32) (M_coming : Nat → Int32) (M_comingMany : Int32) (M_going : Nat → Int32) (M_goingMany : Int32) (M_minute : Nat → Int32) (M_pile : Nat → Int32) (M_high : Nat → Int32) (M_where : Nat → Int32) (M_latest : Int32) (M_lifts : Nat → Int32) (M_begun : Nat → Int32) (M_left : Nat → Int32) (M_has : Nat → Int32) (M_lifted : Nat → Int32) (M_taken : Nat → Int32) (M_above : Nat → Int32) (M_allLifts : Int32) (M_busy : Int32) (M_longest : Nat → Int32) (M_onto : Nat → Int32) (M_worst : Int32) (M_best : Int32) (M_orders : Int32) (M_together : Int32) (M_ofOne : Nat → Int32) (M_ofOther : Nat → Int32) (M_seed : Int32) (M_then : Nat → Int32) (M_was : Nat → Int32) (M_kept : Int32) (M_held : Nat → Int32) (M_kindOn : Nat → Int32) (M_figureOn : Nat → Int32) (M_sorts : Nat → Int32) (M_size : Nat → Int32) (M_items : Nat → Int32) (M_moved : Nat → Int32) (M_thrown : Int32) (p1 : Int32) (p2 : Int32) (fuel : Nat) (o : Int32 × (Nat → Int32) × Int32 × (Nat → Int32) × Int32 × (Nat → Int32) × (Nat → Int32) × (Nat → Int32) × (Nat → Int32) × Int32) (hF : fX10_heap fuel M_guests M_kind M_figure M_told M_heaps M_holds M_hooks M_letters M_rule M_coming M_comingMany M_going M_goingMany M_minute M_pile M_high M_where M_latest p1 p2 = some o) : zMi l D (zT ca) t yX10_heap (.code yX10_heap cX10_heap 3 (some .int) :: zW) roX10_heap [.ref (ad_M 0), .int p1, .int p2] (wX10_M ca ad_M M_guests M_kind M_figure M_told M_heaps M_holds M_back M_mistakes M_hooks M_letters M_rule M_at M_well M_sort M_text M_row M_field M_fields M_begins M_ruleLetters M_coming M_comingMany M_going M_goingMany M_minute M_pile M_high M_where M_latest M_lifts M_begun M_left M_has M_lifted M_taken M_above M_allLifts M_busy M_longest M_onto M_worst M_best M_orders M_together M_ofOne M_ofOther M_seed M_then M_was M_kept M_held M_kindOn M_figureOn M_sorts M_size M_items M_moved M_thrown) (wX10_M ca ad_M M_guests M_kind M_figure M_told M_heaps M_holds M_back M_mistakes M_hooks M_letters M_rule M_at M_well M_sort M_text M_row M_field M_fields M_begins M_ruleLetters o.2.1 o.2.2.1 o.2.2.2.1 o.2.2.2.2.1 o.2.2.2.2.2.1 o.2.2.2.2.2.2.1 o.2.2.2.2.2.2.2.1 o.2.2.2.2.2.2.2.2.1 o.2.2.2.2.2.2.2.2.2 M_lifts M_begun M_left M_has M_lifted M_taken M_above M_allLifts M_busy M_longest M_onto M_worst M_best M_orders M_together M_ofOne M_ofOther M_seed M_then M_was M_kept M_held M_kindOn M_figureOn M_sorts M_size M_items M_moved M_thrown) o.1 := by
  refine zMi_of (cc := cX10_heap) (maxL := 3) (by decide) rfl (Nat.le_of_ble_eq_true rfl) ?_
  intro p e s m args below meth c A Q ls ⟨hx, hb, hml, hown, hts, hA, hK, hZ, hS⟩ hret hP hD hl
  have hts := fun w h => hts w (List.mem_cons_of_mem _ h)
  have hown : s.vm.findClass RX10 = some m.cls := hown
  have hl : lv_has ls 3 [(0, .ref (ad_M 0)), (1, .int p1), (2, .int p2)] := hl
  have hin10 := zin_X10
  unfold fX10_heap at hF
  refine lv_iload_n hx hb dX10_heap_0 rfl (lv_at hl 1 rfl) ?_
  refine lv_iconst (v := 0) hx hb dX10_heap_1 (by decide) ?_
  refine lv_iconst (v := 2) hx hb dX10_heap_2 (by decide) ?_
  obtain ⟨o_1, hc_1, hF⟩ := zb hF
  refine zcSR (rest := []) (kX10_isIn l D ca t p1 0 2 fuel _ hc_1) ⟨hx, hb, hml, hown, hts⟩ (zcwS hts zm_20 zm_18 zm_19 zm_17 rfl rfl zds_X10_isIn ⟨Nat.le_of_ble_eq_true rfl, Nat.le_of_ble_eq_true rfl⟩) hA hK hZ hP hD hS [] rfl rfl rfl hl.1 (Nat.le_of_ble_eq_true rfl) dX10_heap_3 rfl ?_
  refine lv_if_eq (tgt := 14) hx hb dX10_heap_6 (by decide) (fun c_2 => ?_) (fun c_2 => ?_)
  · have hF := zt c_2 hF
    refine lv_iconst (v := (-1)) hx hb dX10_heap_14 (by decide) ?_
    obtain rfl := Option.some.inj hF
    exact hret _ _ _ _ hP hD hS rfl dX10_heap_15
  · have hF := zf c_2 hF
    refine lv_iload_n hx hb dX10_heap_9 rfl (lv_at hl 2 rfl) ?_
    refine lv_iconst (v := (-1)) hx hb dX10_heap_10 (by decide) ?_
    refine lv_icmp_ge (tgt := 16) hx hb dX10_heap_11 (by decide) (fun c_3 => ?_) (fun c_3 => ?_)
    · have hF := zt c_3 hF
      refine lv_aload_n hx hb dX10_heap_16 rfl (lv_at hl 0 rfl) ?_
      obtain ⟨o_4, hc_4, hF⟩ := zb hF
      refine zcVv (rest := []) (ws' := (wX10_M ca ad_M M_guests M_kind M_figure M_told M_heaps M_holds M_back M_mistakes M_hooks M_letters M_rule M_at M_well M_sort M_text M_row M_field M_fields M_begins M_ruleLetters o_4.1 o_4.2.1 o_4.2.2.1 o_4.2.2.2.1 o_4.2.2.2.2 M_pile M_high M_where M_latest M_lifts M_begun M_left M_has M_lifted M_taken M_above M_allLifts M_busy M_longest M_onto M_worst M_best M_orders M_together M_ofOne M_ofOther M_seed M_then M_was M_kept M_held M_kindOn M_figureOn M_sorts M_size M_items M_moved M_thrown)) (kX10_usual l D ca t ad_M M_guests M_kind M_figure M_told M_heaps M_holds M_back M_mistakes M_hooks M_letters M_rule M_at M_well M_sort M_text M_row M_field M_fields M_begins M_ruleLetters M_coming M_comingMany M_going M_goingMany M_minute M_pile M_high M_where M_latest M_lifts M_begun M_left M_has M_lifted M_taken M_above M_allLifts M_busy M_longest M_onto M_worst M_best M_orders M_together M_ofOne M_ofOther M_seed M_then M_was M_kept M_held M_kindOn M_figureOn M_sorts M_size M_items M_moved M_thrown fuel _ hc_4) ⟨hx, hb, hml, hown, hts⟩ (zcwV hts zm_186 zm_187 zm_188 zm_19 zm_185 rfl rfl zdv_X10_usual ⟨Nat.le_of_ble_eq_true rfl, Nat.le_of_ble_eq_true rfl⟩) hA hK hZ hP hD hS [0, 1, 2, 3, 4, 5, 6, 7, 8, 9, 10, 11, 12, 13, 14, 15, 16, 17, 18, 19, 20, 21, 22, 23, 24, 25, 26, 27, 28, 29, 30, 31, 32, 33] [] [0, 1, 2, 3, 4, 5, 6, 7, 8, 9, 10, 11, 12, 13, 14, 15, 16, 17, 18, 19, 20, 21, 22, 23, 24, 25, 26, 27, 28, 29, 30, 31, 32, 33] rfl rfl rfl rfl rfl rfl rfl 7 0 rfl rfl rfl hl.1 (Nat.le_of_ble_eq_true rfl) dX10_heap_17 rfl (fun H locs hP hD hS => ?_)
      refine lv_aload_n hx hb dX10_heap_20 rfl (lv_at hl 0 rfl) ?_
      obtain ⟨o_5, hc_5, hF⟩ := zb hF
      refine zcVv (rest := []) (ws' := (wX10_M ca ad_M M_guests M_kind M_figure M_told M_heaps M_holds M_back M_mistakes M_hooks M_letters M_rule M_at M_well M_sort M_text M_row M_field M_fields M_begins M_ruleLetters o_4.1 o_4.2.1 o_4.2.2.1 o_4.2.2.2.1 o_4.2.2.2.2 o_5.1 o_5.2.1 o_5.2.2.1 o_5.2.2.2 M_lifts M_begun M_left M_has M_lifted M_taken M_above M_allLifts M_busy M_longest M_onto M_worst M_best M_orders M_together M_ofOne M_ofOther M_seed M_then M_was M_kept M_held M_kindOn M_figureOn M_sorts M_size M_items M_moved M_thrown)) (kX10_lay l D ca t ad_M M_guests M_kind M_figure M_told M_heaps M_holds M_back M_mistakes M_hooks M_letters M_rule M_at M_well M_sort M_text M_row M_field M_fields M_begins M_ruleLetters o_4.1 o_4.2.1 o_4.2.2.1 o_4.2.2.2.1 o_4.2.2.2.2 M_pile M_high M_where M_latest M_lifts M_begun M_left M_has M_lifted M_taken M_above M_allLifts M_busy M_longest M_onto M_worst M_best M_orders M_together M_ofOne M_ofOther M_seed M_then M_was M_kept M_held M_kindOn M_figureOn M_sorts M_size M_items M_moved M_thrown fuel _ hc_5) ⟨hx, hb, hml, hown, hts⟩ (zcwV hts zm_177 zm_178 zm_179 zm_19 zm_176 rfl rfl zdv_X10_lay ⟨Nat.le_of_ble_eq_true rfl, Nat.le_of_ble_eq_true rfl⟩) hA hK hZ hP hD hS [0, 1, 2, 3, 4, 5, 6, 7, 8, 9, 10, 11, 12, 13, 14, 15, 16, 17, 18, 19, 20, 21, 22, 23, 24, 25, 26, 27, 28, 29, 30, 31, 32, 33] [] [0, 1, 2, 3, 4, 5, 6, 7, 8, 9, 10, 11, 12, 13, 14, 15, 16, 17, 18, 19, 20, 21, 22, 23, 24, 25, 26, 27, 28, 29, 30, 31, 32, 33] rfl rfl rfl rfl rfl rfl rfl 7 0 rfl rfl rfl hl.1 (Nat.le_of_ble_eq_true rfl) dX10_heap_21 rfl (fun H locs hP hD hS => ?_)
      refine lv_iload_n hx hb dX10_heap_24 rfl (lv_at hl 2 rfl) ?_
      refine lv_iconst (v := (-1)) hx hb dX10_heap_25 (by decide) ?_
      refine lv_icmp_ne (tgt := 38) hx hb dX10_heap_26 (by decide) (fun c_6 => ?_) (fun c_6 => ?_)
      · have hF := zf c_6 hF
        refine lv_iload_n hx hb dX10_heap_38 rfl (lv_at hl 2 rfl) ?_
        refine lv_aload_n hx hb dX10_heap_39 rfl (lv_at hl 0 rfl) ?_
        refine va_get (D := D) (ci := 7) (v := .ref (ad_M 12)) (C := RX10) (T := TX10) (N := 58) hx hb hts hin10 hown hK hP 0 rfl rfl 26 (by decide) (hts _ zm_107) (fun _ h9 => h9) rfl dX10_heap_40 ?_
        refine lv_iload_n hx hb dX10_heap_43 rfl (lv_at hl 1 rfl) ?_
        obtain ⟨h_7, hF⟩ := zgi hF
        refine va_iald hx hb hK hP 12 0 rfl rfl h_7 dX10_heap_44 ?_
        refine lv_icmp_ge (tgt := 62) hx hb dX10_heap_45 (by decide) (fun c_8 => ?_) (fun c_8 => ?_)
        · have hF := zt c_8 hF
          refine lv_bipush (v := (-4)) hx hb dX10_heap_62 (by decide) ?_
          obtain rfl := Option.some.inj hF
          exact hret _ _ _ _ hP hD hS rfl dX10_heap_64
        · have hF := zf c_8 hF
          refine lv_aload_n hx hb dX10_heap_48 rfl (lv_at hl 0 rfl) ?_
          refine va_get (D := D) (ci := 7) (v := .ref (ad_M 11)) (C := RX10) (T := TX10) (N := 58) hx hb hts hin10 hown hK hP 0 rfl rfl 25 (by decide) (hts _ zm_108) (fun _ h9 => h9) rfl dX10_heap_49 ?_
          refine lv_bipush (v := 10) hx hb dX10_heap_52 (by decide) ?_
          refine lv_iload_n hx hb dX10_heap_54 rfl (lv_at hl 1 rfl) ?_
          refine lv_imul hx hb dX10_heap_55 ?_
          refine lv_iload_n hx hb dX10_heap_56 rfl (lv_at hl 2 rfl) ?_
          refine lv_iadd hx hb dX10_heap_57 ?_
          obtain ⟨h_9, hF⟩ := zgi hF
          refine va_iald hx hb hK hP 11 0 rfl rfl h_9 dX10_heap_58 ?_
          refine lv_goto (tgt := 64) hx hb dX10_heap_59 (by decide) ?_
          obtain rfl := Option.some.inj hF
          exact hret _ _ _ _ hP hD hS rfl dX10_heap_64
      · have hF := zt c_6 hF
        refine lv_aload_n hx hb dX10_heap_29 rfl (lv_at hl 0 rfl) ?_
        refine va_get (D := D) (ci := 7) (v := .ref (ad_M 12)) (C := RX10) (T := TX10) (N := 58) hx hb hts hin10 hown hK hP 0 rfl rfl 26 (by decide) (hts _ zm_107) (fun _ h9 => h9) rfl dX10_heap_30 ?_
        refine lv_iload_n hx hb dX10_heap_33 rfl (lv_at hl 1 rfl) ?_
        obtain ⟨h_10, hF⟩ := zgi hF
        refine va_iald hx hb hK hP 12 0 rfl rfl h_10 dX10_heap_34 ?_
        refine lv_goto (tgt := 64) hx hb dX10_heap_35 (by decide) ?_
        obtain rfl := Option.some.inj hF
        exact hret _ _ _ _ hP hD hS rfl dX10_heap_64
    · have hF := zf c_3 hF
      refine lv_iconst (v := (-1)) hx hb dX10_heap_14 (by decide) ?_
      obtain rfl := Option.some.inj hF
      exact hret _ _ _ _ hP hD hS rfl dX10_heap_15
abbrev roX10_above : Room := { frames := 5, cells := 0, slots := 0, locals := 115 }
set_option maxHeartbeats 4000000 in
set_option maxRecDepth 100000 in
theorem kX10_above (l : Launch) (D : va_G) (ca : Nat → ClassId) (t : Nat → Nat) (ad_M : Nat → Nat) (M_guests : Int32) (M_kind : Nat → Int32) (M_figure : Nat → Int32) (M_told : Nat → Int32) (M_heaps : Int32) (M_holds : Int32) (M_back : Int32) (M_mistakes : Int32) (M_hooks : Int32) (M_letters : Int32) (M_rule : Nat → Int32) (M_at : Int32) (M_well : Int32) (M_sort : Int32) (M_text : Int32) (M_row : Int32) (M_field : Nat → Int32) (M_fields : Int32) (M_begins : Nat → Int32) (M_ruleLetters : Nat → Int32) (M_coming : Nat → Int32) (M_comingMany : Int32) (M_going : Nat → Int32) (M_goingMany : Int32) (M_minute : Nat → Int32) (M_pile : Nat → Int32) (M_high : Nat → Int32) (M_where : Nat → Int32) (M_latest : Int32) (M_lifts : Nat → Int32) (M_begun : Nat → Int32) (M_left : Nat → Int32) (M_has : Nat → Int32) (M_lifted : Nat → Int32) (M_taken : Nat → Int32) (M_above : Nat → Int32) (M_allLifts : Int32) (M_busy : Int32) (M_longest : Nat → Int32) (M_onto : Nat → Int32) (M_worst : Int32) (M_best : Int32) (M_orders : Int32) (M_together : Int32) (M_ofOne : Nat → Int32) (M_ofOther : Nat → Int32) (M_seed : Int32) (M_then : Nat → Int32) (M_was : Nat → Int32) (M_kept : Int32) (M_held : Nat → Int32) (M_kindOn : Nat → Int32) (M_figureOn : Nat → Int32) (M_sorts : Nat → Int32) (M_size : Nat → Int32) (M_items : Nat → Int32) (M_moved : Nat → Int32) (M_thrown : Int32) (p1 : Int32) (fuel : Nat) (o : Int32 × (Nat → Int32) × Int32 × (Nat → Int32) × Int32 × (Nat → Int32) × (Nat → Int32) × (Nat → Int32) × (Nat → Int32) × Int32) (hF : fX10_above fuel M_guests M_kind M_figure M_told M_heaps M_holds M_hooks M_letters M_rule M_coming M_comingMany M_going M_goingMany M_minute M_pile M_high M_where M_latest p1 = some o) : zMi l D (zT ca) t yX10_above (.code yX10_above cX10_above 3 (some .int) :: zW) roX10_above [.ref (ad_M 0), .int p1] (wX10_M ca ad_M M_guests M_kind M_figure M_told M_heaps M_holds M_back M_mistakes M_hooks M_letters M_rule M_at M_well M_sort M_text M_row M_field M_fields M_begins M_ruleLetters M_coming M_comingMany M_going M_goingMany M_minute M_pile M_high M_where M_latest M_lifts M_begun M_left M_has M_lifted M_taken M_above M_allLifts M_busy M_longest M_onto M_worst M_best M_orders M_together M_ofOne M_ofOther M_seed M_then M_was M_kept M_held M_kindOn M_figureOn M_sorts M_size M_items M_moved M_thrown) (wX10_M ca ad_M M_guests M_kind M_figure M_told M_heaps M_holds M_back M_mistakes M_hooks M_letters M_rule M_at M_well M_sort M_text M_row M_field M_fields M_begins M_ruleLetters o.2.1 o.2.2.1 o.2.2.2.1 o.2.2.2.2.1 o.2.2.2.2.2.1 o.2.2.2.2.2.2.1 o.2.2.2.2.2.2.2.1 o.2.2.2.2.2.2.2.2.1 o.2.2.2.2.2.2.2.2.2 M_lifts M_begun M_left M_has M_lifted M_taken M_above M_allLifts M_busy M_longest M_onto M_worst M_best M_orders M_together M_ofOne M_ofOther M_seed M_then M_was M_kept M_held M_kindOn M_figureOn M_sorts M_size M_items M_moved M_thrown) o.1 := by
  refine zMi_of (cc := cX10_above) (maxL := 3) (by decide) rfl (Nat.le_of_ble_eq_true rfl) ?_
  intro p e s m args below meth c A Q ls ⟨hx, hb, hml, hown, hts, hA, hK, hZ, hS⟩ hret hP hD hl
  have hts := fun w h => hts w (List.mem_cons_of_mem _ h)
  have hown : s.vm.findClass RX10 = some m.cls := hown
  have hl : lv_has ls 3 [(0, .ref (ad_M 0)), (1, .int p1)] := hl
  have hin10 := zin_X10
  unfold fX10_above at hF
  refine lv_aload_n hx hb dX10_above_0 rfl (lv_at hl 0 rfl) ?_
  refine lv_iload_n hx hb dX10_above_1 rfl (lv_at hl 1 rfl) ?_
  obtain ⟨o_1, hc_1, hF⟩ := zb hF
  refine zcVR (rest := []) (kX10_isGuest l D ca t ad_M M_guests M_kind M_figure M_told M_heaps M_holds M_back M_mistakes M_hooks M_letters M_rule M_at M_well M_sort M_text M_row M_field M_fields M_begins M_ruleLetters M_coming M_comingMany M_going M_goingMany M_minute M_pile M_high M_where M_latest M_lifts M_begun M_left M_has M_lifted M_taken M_above M_allLifts M_busy M_longest M_onto M_worst M_best M_orders M_together M_ofOne M_ofOther M_seed M_then M_was M_kept M_held M_kindOn M_figureOn M_sorts M_size M_items M_moved M_thrown p1 fuel _ hc_1) ⟨hx, hb, hml, hown, hts⟩ (zcwV hts zm_63 zm_64 zm_65 zm_19 zm_62 rfl rfl zdv_X10_isGuest ⟨Nat.le_of_ble_eq_true rfl, Nat.le_of_ble_eq_true rfl⟩) hA hK hZ hP hD hS [0, 1, 2, 3, 4, 5, 6, 7, 8, 9, 10, 11, 12, 13, 14, 15, 16, 17, 18, 19, 20, 21, 22, 23, 24, 25, 26, 27, 28, 29, 30, 31, 32, 33] rfl rfl 7 0 rfl rfl rfl hl.1 (Nat.le_of_ble_eq_true rfl) dX10_above_2 rfl ?_
  refine lv_if_ne (tgt := 10) hx hb dX10_above_5 (by decide) (fun c_2 => ?_) (fun c_2 => ?_)
  · have hF := zf c_2 hF
    refine lv_aload_n hx hb dX10_above_10 rfl (lv_at hl 0 rfl) ?_
    obtain ⟨o_3, hc_3, hF⟩ := zb hF
    refine zcVv (rest := []) (ws' := (wX10_M ca ad_M M_guests M_kind M_figure M_told M_heaps M_holds M_back M_mistakes M_hooks M_letters M_rule M_at M_well M_sort M_text M_row M_field M_fields M_begins M_ruleLetters o_3.1 o_3.2.1 o_3.2.2.1 o_3.2.2.2.1 o_3.2.2.2.2 M_pile M_high M_where M_latest M_lifts M_begun M_left M_has M_lifted M_taken M_above M_allLifts M_busy M_longest M_onto M_worst M_best M_orders M_together M_ofOne M_ofOther M_seed M_then M_was M_kept M_held M_kindOn M_figureOn M_sorts M_size M_items M_moved M_thrown)) (kX10_usual l D ca t ad_M M_guests M_kind M_figure M_told M_heaps M_holds M_back M_mistakes M_hooks M_letters M_rule M_at M_well M_sort M_text M_row M_field M_fields M_begins M_ruleLetters M_coming M_comingMany M_going M_goingMany M_minute M_pile M_high M_where M_latest M_lifts M_begun M_left M_has M_lifted M_taken M_above M_allLifts M_busy M_longest M_onto M_worst M_best M_orders M_together M_ofOne M_ofOther M_seed M_then M_was M_kept M_held M_kindOn M_figureOn M_sorts M_size M_items M_moved M_thrown fuel _ hc_3) ⟨hx, hb, hml, hown, hts⟩ (zcwV hts zm_186 zm_187 zm_188 zm_19 zm_185 rfl rfl zdv_X10_usual ⟨Nat.le_of_ble_eq_true rfl, Nat.le_of_ble_eq_true rfl⟩) hA hK hZ hP hD hS [0, 1, 2, 3, 4, 5, 6, 7, 8, 9, 10, 11, 12, 13, 14, 15, 16, 17, 18, 19, 20, 21, 22, 23, 24, 25, 26, 27, 28, 29, 30, 31, 32, 33] [] [0, 1, 2, 3, 4, 5, 6, 7, 8, 9, 10, 11, 12, 13, 14, 15, 16, 17, 18, 19, 20, 21, 22, 23, 24, 25, 26, 27, 28, 29, 30, 31, 32, 33] rfl rfl rfl rfl rfl rfl rfl 7 0 rfl rfl rfl hl.1 (Nat.le_of_ble_eq_true rfl) dX10_above_11 rfl (fun H locs hP hD hS => ?_)
    refine lv_aload_n hx hb dX10_above_14 rfl (lv_at hl 0 rfl) ?_
    obtain ⟨o_4, hc_4, hF⟩ := zb hF
    refine zcVv (rest := []) (ws' := (wX10_M ca ad_M M_guests M_kind M_figure M_told M_heaps M_holds M_back M_mistakes M_hooks M_letters M_rule M_at M_well M_sort M_text M_row M_field M_fields M_begins M_ruleLetters o_3.1 o_3.2.1 o_3.2.2.1 o_3.2.2.2.1 o_3.2.2.2.2 o_4.1 o_4.2.1 o_4.2.2.1 o_4.2.2.2 M_lifts M_begun M_left M_has M_lifted M_taken M_above M_allLifts M_busy M_longest M_onto M_worst M_best M_orders M_together M_ofOne M_ofOther M_seed M_then M_was M_kept M_held M_kindOn M_figureOn M_sorts M_size M_items M_moved M_thrown)) (kX10_lay l D ca t ad_M M_guests M_kind M_figure M_told M_heaps M_holds M_back M_mistakes M_hooks M_letters M_rule M_at M_well M_sort M_text M_row M_field M_fields M_begins M_ruleLetters o_3.1 o_3.2.1 o_3.2.2.1 o_3.2.2.2.1 o_3.2.2.2.2 M_pile M_high M_where M_latest M_lifts M_begun M_left M_has M_lifted M_taken M_above M_allLifts M_busy M_longest M_onto M_worst M_best M_orders M_together M_ofOne M_ofOther M_seed M_then M_was M_kept M_held M_kindOn M_figureOn M_sorts M_size M_items M_moved M_thrown fuel _ hc_4) ⟨hx, hb, hml, hown, hts⟩ (zcwV hts zm_177 zm_178 zm_179 zm_19 zm_176 rfl rfl zdv_X10_lay ⟨Nat.le_of_ble_eq_true rfl, Nat.le_of_ble_eq_true rfl⟩) hA hK hZ hP hD hS [0, 1, 2, 3, 4, 5, 6, 7, 8, 9, 10, 11, 12, 13, 14, 15, 16, 17, 18, 19, 20, 21, 22, 23, 24, 25, 26, 27, 28, 29, 30, 31, 32, 33] [] [0, 1, 2, 3, 4, 5, 6, 7, 8, 9, 10, 11, 12, 13, 14, 15, 16, 17, 18, 19, 20, 21, 22, 23, 24, 25, 26, 27, 28, 29, 30, 31, 32, 33] rfl rfl rfl rfl rfl rfl rfl 7 0 rfl rfl rfl hl.1 (Nat.le_of_ble_eq_true rfl) dX10_above_15 rfl (fun H locs hP hD hS => ?_)
    refine lv_aload_n hx hb dX10_above_18 rfl (lv_at hl 0 rfl) ?_
    refine va_get (D := D) (ci := 7) (v := .ref (ad_M 13)) (C := RX10) (T := TX10) (N := 58) hx hb hts hin10 hown hK hP 0 rfl rfl 27 (by decide) (hts _ zm_130) (fun _ h9 => h9) rfl dX10_above_19 ?_
    refine lv_iload_n hx hb dX10_above_22 rfl (lv_at hl 1 rfl) ?_
    obtain ⟨h_5, hF⟩ := zgi hF
    refine va_iald hx hb hK hP 13 0 rfl rfl h_5 dX10_above_23 ?_
    refine z_let hF (fun v2_6 hF => ?_)
    refine lv_istore_n (lv' := [(2, .int v2_6), (0, .ref (ad_M 0)), (1, .int p1)]) hx hb dX10_above_24 rfl hl (by decide) rfl (fun ls hl => ?_)
    refine lv_iload_n hx hb dX10_above_25 rfl (lv_at hl 0 rfl) ?_
    refine lv_iconst (v := 0) hx hb dX10_above_26 (by decide) ?_
    refine lv_iconst (v := 2) hx hb dX10_above_27 (by decide) ?_
    obtain ⟨o_7, hc_7, hF⟩ := zb hF
    refine zcSR (rest := []) (kX10_isIn l D ca t v2_6 0 2 fuel _ hc_7) ⟨hx, hb, hml, hown, hts⟩ (zcwS hts zm_20 zm_18 zm_19 zm_17 rfl rfl zds_X10_isIn ⟨Nat.le_of_ble_eq_true rfl, Nat.le_of_ble_eq_true rfl⟩) hA hK hZ hP hD hS [] rfl rfl rfl hl.1 (Nat.le_of_ble_eq_true rfl) dX10_above_28 rfl ?_
    refine lv_if_eq (tgt := 52) hx hb dX10_above_31 (by decide) (fun c_8 => ?_) (fun c_8 => ?_)
    · have hF := zt c_8 hF
      refine lv_iconst (v := 0) hx hb dX10_above_52 (by decide) ?_
      obtain rfl := Option.some.inj hF
      exact hret _ _ _ _ hP hD hS rfl dX10_above_53
    · have hF := zf c_8 hF
      refine lv_aload_n hx hb dX10_above_34 rfl (lv_at hl 1 rfl) ?_
      refine va_get (D := D) (ci := 7) (v := .ref (ad_M 12)) (C := RX10) (T := TX10) (N := 58) hx hb hts hin10 hown hK hP 0 rfl rfl 26 (by decide) (hts _ zm_107) (fun _ h9 => h9) rfl dX10_above_35 ?_
      refine lv_iload_n hx hb dX10_above_38 rfl (lv_at hl 0 rfl) ?_
      obtain ⟨h_9, hF⟩ := zgi hF
      refine va_iald hx hb hK hP 12 0 rfl rfl h_9 dX10_above_39 ?_
      refine lv_iconst (v := 1) hx hb dX10_above_40 (by decide) ?_
      refine lv_isub hx hb dX10_above_41 ?_
      refine lv_aload_n hx hb dX10_above_42 rfl (lv_at hl 1 rfl) ?_
      refine lv_iload_n hx hb dX10_above_43 rfl (lv_at hl 2 rfl) ?_
      refine lv_iload_n hx hb dX10_above_44 rfl (lv_at hl 0 rfl) ?_
      obtain ⟨o_10, hc_10, hF⟩ := zb hF
      refine zcVR (rest := [.int (((o_4.2.1 v2_6.toNatClampNeg) - 1))]) (kX10_placeOf l D ca t ad_M M_guests M_kind M_figure M_told M_heaps M_holds M_back M_mistakes M_hooks M_letters M_rule M_at M_well M_sort M_text M_row M_field M_fields M_begins M_ruleLetters o_3.1 o_3.2.1 o_3.2.2.1 o_3.2.2.2.1 o_3.2.2.2.2 o_4.1 o_4.2.1 o_4.2.2.1 o_4.2.2.2 M_lifts M_begun M_left M_has M_lifted M_taken M_above M_allLifts M_busy M_longest M_onto M_worst M_best M_orders M_together M_ofOne M_ofOther M_seed M_then M_was M_kept M_held M_kindOn M_figureOn M_sorts M_size M_items M_moved M_thrown p1 v2_6 fuel _ hc_10) ⟨hx, hb, hml, hown, hts⟩ (zcwV hts zm_161 zm_162 zm_163 zm_19 zm_160 rfl rfl zdv_X10_placeOf ⟨Nat.le_of_ble_eq_true rfl, Nat.le_of_ble_eq_true rfl⟩) hA hK hZ hP hD hS [0, 1, 2, 3, 4, 5, 6, 7, 8, 9, 10, 11, 12, 13, 14, 15, 16, 17, 18, 19, 20, 21, 22, 23, 24, 25, 26, 27, 28, 29, 30, 31, 32, 33] rfl rfl 7 0 rfl rfl rfl hl.1 (Nat.le_of_ble_eq_true rfl) dX10_above_45 rfl ?_
      refine lv_isub hx hb dX10_above_48 ?_
      refine lv_goto (tgt := 53) hx hb dX10_above_49 (by decide) ?_
      obtain rfl := Option.some.inj hF
      exact hret _ _ _ _ hP hD hS rfl dX10_above_53
  · have hF := zt c_2 hF
    refine lv_iconst (v := (-1)) hx hb dX10_above_8 (by decide) ?_
    obtain rfl := Option.some.inj hF
    exact hret _ _ _ _ hP hD hS rfl dX10_above_9
theorem zdv_X10_night : yX10_night.cls = RX10 ∧ yX10_night.cls ≠ "java/lang/invoke/MethodHandle" ∧ yX10_night.cls ≠ "java/lang/invoke/VarHandle" ∧ (parseMethodDescriptor yX10_night.desc).map (fun d => d.parameters.length) = some 0 := by decide +kernel
abbrev roX10_fate : Room := { frames := 8, cells := 0, slots := 0, locals := 178 }
set_option maxHeartbeats 4000000 in
set_option maxRecDepth 100000 in
theorem kX10_fate (l : Launch) (D : va_G) (ca : Nat → ClassId) (t : Nat → Nat) (ad_M : Nat → Nat) (M_guests : Int32) (M_kind : Nat → Int32) (M_figure : Nat → Int32) (M_told : Nat → Int32) (M_heaps : Int32) (M_holds : Int32) (M_back : Int32) (M_mistakes : Int32) (M_hooks : Int32) (M_letters : Int32) (M_rule : Nat → Int32) (M_at : Int32) (M_well : Int32) (M_sort : Int32) (M_text : Int32) (M_row : Int32) (M_field : Nat → Int32) (M_fields : Int32) (M_begins : Nat → Int32) (M_ruleLetters : Nat → Int32) (M_coming : Nat → Int32) (M_comingMany : Int32) (M_going : Nat → Int32) (M_goingMany : Int32) (M_minute : Nat → Int32) (M_pile : Nat → Int32) (M_high : Nat → Int32) (M_where : Nat → Int32) (M_latest : Int32) (M_lifts : Nat → Int32) (M_begun : Nat → Int32) (M_left : Nat → Int32) (M_has : Nat → Int32) (M_lifted : Nat → Int32) (M_taken : Nat → Int32) (M_above : Nat → Int32) (M_allLifts : Int32) (M_busy : Int32) (M_longest : Nat → Int32) (M_onto : Nat → Int32) (M_worst : Int32) (M_best : Int32) (M_orders : Int32) (M_together : Int32) (M_ofOne : Nat → Int32) (M_ofOther : Nat → Int32) (M_seed : Int32) (M_then : Nat → Int32) (M_was : Nat → Int32) (M_kept : Int32) (M_held : Nat → Int32) (M_kindOn : Nat → Int32) (M_figureOn : Nat → Int32) (M_sorts : Nat → Int32) (M_size : Nat → Int32) (M_items : Nat → Int32) (M_moved : Nat → Int32) (M_thrown : Int32) (p1 : Int32) (p2 : Int32) (fuel : Nat) (o : Int32 × (Nat → Int32) × Int32 × (Nat → Int32) × Int32 × (Nat → Int32) × (Nat → Int32) × (Nat → Int32) × (Nat → Int32) × Int32 × (Nat → Int32) × (Nat → Int32) × (Nat → Int32) × (Nat → Int32) × (Nat → Int32) × (Nat → Int32) × (Nat → Int32) × Int32 × Int32) (hF : fX10_fate fuel M_guests M_kind M_figure M_told M_heaps M_holds M_back M_mistakes M_hooks M_letters M_rule M_coming M_comingMany M_going M_goingMany M_minute M_pile M_high M_where M_latest M_lifts M_begun M_left M_has M_lifted M_taken M_above M_allLifts M_busy p1 p2 = some o) : zMi l D (zT ca) t yX10_fate (.code yX10_fate cX10_fate 4 (some .int) :: zW) roX10_fate [.ref (ad_M 0), .int p1, .int p2] (wX10_M ca ad_M M_guests M_kind M_figure M_told M_heaps M_holds M_back M_mistakes M_hooks M_letters M_rule M_at M_well M_sort M_text M_row M_field M_fields M_begins M_ruleLetters M_coming M_comingMany M_going M_goingMany M_minute M_pile M_high M_where M_latest M_lifts M_begun M_left M_has M_lifted M_taken M_above M_allLifts M_busy M_longest M_onto M_worst M_best M_orders M_together M_ofOne M_ofOther M_seed M_then M_was M_kept M_held M_kindOn M_figureOn M_sorts M_size M_items M_moved M_thrown) (wX10_M ca ad_M M_guests M_kind M_figure M_told M_heaps M_holds M_back M_mistakes M_hooks M_letters M_rule M_at M_well M_sort M_text M_row M_field M_fields M_begins M_ruleLetters o.2.1 o.2.2.1 o.2.2.2.1 o.2.2.2.2.1 o.2.2.2.2.2.1 o.2.2.2.2.2.2.1 o.2.2.2.2.2.2.2.1 o.2.2.2.2.2.2.2.2.1 o.2.2.2.2.2.2.2.2.2.1 o.2.2.2.2.2.2.2.2.2.2.1 o.2.2.2.2.2.2.2.2.2.2.2.1 o.2.2.2.2.2.2.2.2.2.2.2.2.1 o.2.2.2.2.2.2.2.2.2.2.2.2.2.1 o.2.2.2.2.2.2.2.2.2.2.2.2.2.2.1 o.2.2.2.2.2.2.2.2.2.2.2.2.2.2.2.1 o.2.2.2.2.2.2.2.2.2.2.2.2.2.2.2.2.1 o.2.2.2.2.2.2.2.2.2.2.2.2.2.2.2.2.2.1 o.2.2.2.2.2.2.2.2.2.2.2.2.2.2.2.2.2.2 M_longest M_onto M_worst M_best M_orders M_together M_ofOne M_ofOther M_seed M_then M_was M_kept M_held M_kindOn M_figureOn M_sorts M_size M_items M_moved M_thrown) o.1 := by
  refine zMi_of (cc := cX10_fate) (maxL := 4) (by decide) rfl (Nat.le_of_ble_eq_true rfl) ?_
  intro p e s m args below meth c A Q ls ⟨hx, hb, hml, hown, hts, hA, hK, hZ, hS⟩ hret hP hD hl
  have hts := fun w h => hts w (List.mem_cons_of_mem _ h)
  have hown : s.vm.findClass RX10 = some m.cls := hown
  have hl : lv_has ls 4 [(0, .ref (ad_M 0)), (1, .int p1), (2, .int p2)] := hl
  have hin10 := zin_X10
  have l86 : ∀ (n86 : Nat) (v3 : Int32) (M_coming : Nat → Int32) (M_comingMany : Int32) (M_going : Nat → Int32) (M_goingMany : Int32) (M_minute : Nat → Int32) (M_pile : Nat → Int32) (M_high : Nat → Int32) (M_where : Nat → Int32) (M_latest : Int32) (M_lifts : Nat → Int32) (M_begun : Nat → Int32) (M_left : Nat → Int32) (M_has : Nat → Int32) (M_lifted : Nat → Int32) (M_taken : Nat → Int32) (M_above : Nat → Int32) (M_allLifts : Int32) (M_busy : Int32) (H : Heap) (locs : List Loc), fX10_fate_L86 p1 n86 v3 M_coming M_comingMany M_going M_goingMany M_minute M_pile M_high M_where M_latest M_lifts M_begun M_left M_has M_lifted M_taken M_above M_allLifts M_busy = some o → va_P D vwCl (wX10_M ca ad_M M_guests M_kind M_figure M_told M_heaps M_holds M_back M_mistakes M_hooks M_letters M_rule M_at M_well M_sort M_text M_row M_field M_fields M_begins M_ruleLetters M_coming M_comingMany M_going M_goingMany M_minute M_pile M_high M_where M_latest M_lifts M_begun M_left M_has M_lifted M_taken M_above M_allLifts M_busy M_longest M_onto M_worst M_best M_orders M_together M_ofOne M_ofOther M_seed M_then M_was M_kept M_held M_kindOn M_figureOn M_sorts M_size M_items M_moved M_thrown) H → va_D A (wX10_M ca ad_M M_guests M_kind M_figure M_told M_heaps M_holds M_back M_mistakes M_hooks M_letters M_rule M_at M_well M_sort M_text M_row M_field M_fields M_begins M_ruleLetters M_coming M_comingMany M_going M_goingMany M_minute M_pile M_high M_where M_latest M_lifts M_begun M_left M_has M_lifted M_taken M_above M_allLifts M_busy M_longest M_onto M_worst M_best M_orders M_together M_ofOne M_ofOther M_seed M_then M_was M_kept M_held M_kindOn M_figureOn M_sorts M_size M_items M_moved M_thrown) → va_S A s.heap H locs → ∀ ls : Array Slot, lv_has ls 4 [(0, .ref (ad_M 0)), (1, .int p1), (3, .int v3)] → W p l e roX10_fate s m args below meth c H locs 0 0 Q (F0 m 86 ls []) := by
    intro n86
    induction n86 with
    | zero =>
      intro v3 M_coming M_comingMany M_going M_goingMany M_minute M_pile M_high M_where M_latest M_lifts M_begun M_left M_has M_lifted M_taken M_above M_allLifts M_busy H locs hF
      rw [fX10_fate_L86] at hF
      cases hF
    | succ n86 ih86 =>
      intro v3 M_coming M_comingMany M_going M_goingMany M_minute M_pile M_high M_where M_latest M_lifts M_begun M_left M_has M_lifted M_taken M_above M_allLifts M_busy H locs hF hP hD hS ls hl
      rw [fX10_fate_L86] at hF
      refine lv_aload_n hx hb dX10_fate_86 rfl (lv_at hl 0 rfl) ?_
      refine va_get (D := D) (ci := 7) (v := .ref (ad_M 9)) (C := RX10) (T := TX10) (N := 58) hx hb hts hin10 hown hK hP 0 rfl rfl 22 (by decide) (hts _ zm_87) (fun _ h9 => h9) rfl dX10_fate_87 ?_
      refine lv_iload_n hx hb dX10_fate_90 rfl (lv_at hl 2 rfl) ?_
      obtain ⟨h_15, hF⟩ := zgi hF
      refine va_iald hx hb hK hP 9 0 rfl rfl h_15 dX10_fate_91 ?_
      refine lv_iload_n hx hb dX10_fate_92 rfl (lv_at hl 1 rfl) ?_
      refine lv_icmp_eq (tgt := 102) hx hb dX10_fate_93 (by decide) (fun c_16 => ?_) (fun c_16 => ?_)
      · have hF := zt c_16 hF
        refine lv_iload_n hx hb dX10_fate_102 rfl (lv_at hl 2 rfl) ?_
        obtain rfl := Option.some.inj hF
        exact hret _ _ _ _ hP hD hS rfl dX10_fate_103
      · have hF := zf c_16 hF
        refine z_iinc (kv := 1) hx hb 2 dX10_fate_96 hl rfl (by decide) (by decide) (fun g => [(3, .int g), (0, .ref (ad_M 0)), (1, .int p1)]) (fun _ => rfl) hF (fun v3_17 ls hF hl => ?_)
        refine lv_goto (tgt := 86) hx hb dX10_fate_99 (by decide) ?_
        exact ih86 v3_17 M_coming M_comingMany M_going M_goingMany M_minute M_pile M_high M_where M_latest M_lifts M_begun M_left M_has M_lifted M_taken M_above M_allLifts M_busy _ _ hF hP hD hS ls (lv_sub hl [1, 2, 0] rfl)
  unfold fX10_fate at hF
  refine lv_aload_n hx hb dX10_fate_0 rfl (lv_at hl 0 rfl) ?_
  refine lv_iload_n hx hb dX10_fate_1 rfl (lv_at hl 1 rfl) ?_
  obtain ⟨o_1, hc_1, hF⟩ := zb hF
  refine zcVR (rest := []) (kX10_isGuest l D ca t ad_M M_guests M_kind M_figure M_told M_heaps M_holds M_back M_mistakes M_hooks M_letters M_rule M_at M_well M_sort M_text M_row M_field M_fields M_begins M_ruleLetters M_coming M_comingMany M_going M_goingMany M_minute M_pile M_high M_where M_latest M_lifts M_begun M_left M_has M_lifted M_taken M_above M_allLifts M_busy M_longest M_onto M_worst M_best M_orders M_together M_ofOne M_ofOther M_seed M_then M_was M_kept M_held M_kindOn M_figureOn M_sorts M_size M_items M_moved M_thrown p1 fuel _ hc_1) ⟨hx, hb, hml, hown, hts⟩ (zcwV hts zm_63 zm_64 zm_65 zm_19 zm_62 rfl rfl zdv_X10_isGuest ⟨Nat.le_of_ble_eq_true rfl, Nat.le_of_ble_eq_true rfl⟩) hA hK hZ hP hD hS [0, 1, 2, 3, 4, 5, 6, 7, 8, 9, 10, 11, 12, 13, 14, 15, 16, 17, 18, 19, 20, 21, 22, 23, 24, 25, 26, 27, 28, 29, 30, 31, 32, 33] rfl rfl 7 0 rfl rfl rfl hl.1 (Nat.le_of_ble_eq_true rfl) dX10_fate_2 rfl ?_
  refine lv_if_ne (tgt := 10) hx hb dX10_fate_5 (by decide) (fun c_2 => ?_) (fun c_2 => ?_)
  · have hF := zf c_2 hF
    refine lv_aload_n hx hb dX10_fate_10 rfl (lv_at hl 0 rfl) ?_
    obtain ⟨o_3, hc_3, hF⟩ := zb hF
    refine zcVi (rest := []) (ws' := (wX10_M ca ad_M M_guests M_kind M_figure M_told M_heaps M_holds M_back M_mistakes M_hooks M_letters M_rule M_at M_well M_sort M_text M_row M_field M_fields M_begins M_ruleLetters o_3.2.1 o_3.2.2.1 o_3.2.2.2.1 o_3.2.2.2.2.1 o_3.2.2.2.2.2.1 o_3.2.2.2.2.2.2.1 o_3.2.2.2.2.2.2.2.1 o_3.2.2.2.2.2.2.2.2.1 o_3.2.2.2.2.2.2.2.2.2.1 o_3.2.2.2.2.2.2.2.2.2.2.1 o_3.2.2.2.2.2.2.2.2.2.2.2.1 o_3.2.2.2.2.2.2.2.2.2.2.2.2.1 o_3.2.2.2.2.2.2.2.2.2.2.2.2.2.1 o_3.2.2.2.2.2.2.2.2.2.2.2.2.2.2.1 o_3.2.2.2.2.2.2.2.2.2.2.2.2.2.2.2.1 o_3.2.2.2.2.2.2.2.2.2.2.2.2.2.2.2.2.1 o_3.2.2.2.2.2.2.2.2.2.2.2.2.2.2.2.2.2.1 o_3.2.2.2.2.2.2.2.2.2.2.2.2.2.2.2.2.2.2 M_longest M_onto M_worst M_best M_orders M_together M_ofOne M_ofOther M_seed M_then M_was M_kept M_held M_kindOn M_figureOn M_sorts M_size M_items M_moved M_thrown)) (kX10_night l D ca t ad_M M_guests M_kind M_figure M_told M_heaps M_holds M_back M_mistakes M_hooks M_letters M_rule M_at M_well M_sort M_text M_row M_field M_fields M_begins M_ruleLetters M_coming M_comingMany M_going M_goingMany M_minute M_pile M_high M_where M_latest M_lifts M_begun M_left M_has M_lifted M_taken M_above M_allLifts M_busy M_longest M_onto M_worst M_best M_orders M_together M_ofOne M_ofOther M_seed M_then M_was M_kept M_held M_kindOn M_figureOn M_sorts M_size M_items M_moved M_thrown fuel _ hc_3) ⟨hx, hb, hml, hown, hts⟩ (zcwV hts zm_194 zm_195 zm_196 zm_19 zm_193 rfl rfl zdv_X10_night ⟨Nat.le_of_ble_eq_true rfl, Nat.le_of_ble_eq_true rfl⟩) hA hK hZ hP hD hS [0, 1, 2, 3, 4, 5, 6, 7, 8, 9, 10, 11, 12, 13, 14, 15, 16, 17, 18, 19, 20, 21, 22, 23, 24, 25, 26, 27, 28, 29, 30, 31, 32, 33] [] [0, 1, 2, 3, 4, 5, 6, 7, 8, 9, 10, 11, 12, 13, 14, 15, 16, 17, 18, 19, 20, 21, 22, 23, 24, 25, 26, 27, 28, 29, 30, 31, 32, 33] rfl rfl rfl rfl rfl rfl rfl 7 0 rfl rfl rfl hl.1 (Nat.le_of_ble_eq_true rfl) dX10_fate_11 rfl (fun H locs hP hD hS => ?_)
    refine lv_pop hx hb dX10_fate_14 rfl ?_
    refine lv_iload_n hx hb dX10_fate_15 rfl (lv_at hl 2 rfl) ?_
    by_cases c_4 : p2 = 0
    · have hF := zt c_4 hF
      refine lv_tableIn (tgt := 56) (off := 40) hx hb dX10_fate_16 (by rw [c_4]; decide) (by rw [c_4]; decide) (by rw [c_4]; rfl) (by decide) ?_
      refine lv_aload_n hx hb dX10_fate_56 rfl (lv_at hl 0 rfl) ?_
      refine va_get (D := D) (ci := 7) (v := .ref (ad_M 14)) (C := RX10) (T := TX10) (N := 58) hx hb hts hin10 hown hK hP 0 rfl rfl 29 (by decide) (hts _ zm_144) (fun _ h9 => h9) rfl dX10_fate_57 ?_
      refine lv_iload_n hx hb dX10_fate_60 rfl (lv_at hl 1 rfl) ?_
      obtain ⟨h_5, hF⟩ := zgi hF
      refine va_iald hx hb hK hP 14 0 rfl rfl h_5 dX10_fate_61 ?_
      obtain rfl := Option.some.inj hF
      exact hret _ _ _ _ hP hD hS rfl dX10_fate_62
    · have hF := zf c_4 hF
      by_cases c_6 : p2 = 1
      · have hF := zt c_6 hF
        refine lv_tableIn (tgt := 63) (off := 47) hx hb dX10_fate_16 (by rw [c_6]; decide) (by rw [c_6]; decide) (by rw [c_6]; rfl) (by decide) ?_
        refine lv_aload_n hx hb dX10_fate_63 rfl (lv_at hl 0 rfl) ?_
        refine va_get (D := D) (ci := 7) (v := .ref (ad_M 15)) (C := RX10) (T := TX10) (N := 58) hx hb hts hin10 hown hK hP 0 rfl rfl 30 (by decide) (hts _ zm_164) (fun _ h9 => h9) rfl dX10_fate_64 ?_
        refine lv_iload_n hx hb dX10_fate_67 rfl (lv_at hl 1 rfl) ?_
        obtain ⟨h_7, hF⟩ := zgi hF
        refine va_iald hx hb hK hP 15 0 rfl rfl h_7 dX10_fate_68 ?_
        obtain rfl := Option.some.inj hF
        exact hret _ _ _ _ hP hD hS rfl dX10_fate_69
      · have hF := zf c_6 hF
        by_cases c_8 : p2 = 2
        · have hF := zt c_8 hF
          refine lv_tableIn (tgt := 70) (off := 54) hx hb dX10_fate_16 (by rw [c_8]; decide) (by rw [c_8]; decide) (by rw [c_8]; rfl) (by decide) ?_
          refine lv_aload_n hx hb dX10_fate_70 rfl (lv_at hl 0 rfl) ?_
          refine va_get (D := D) (ci := 7) (v := .ref (ad_M 16)) (C := RX10) (T := TX10) (N := 58) hx hb hts hin10 hown hK hP 0 rfl rfl 31 (by decide) (hts _ zm_166) (fun _ h9 => h9) rfl dX10_fate_71 ?_
          refine lv_iload_n hx hb dX10_fate_74 rfl (lv_at hl 1 rfl) ?_
          obtain ⟨h_9, hF⟩ := zgi hF
          refine va_iald hx hb hK hP 16 0 rfl rfl h_9 dX10_fate_75 ?_
          obtain rfl := Option.some.inj hF
          exact hret _ _ _ _ hP hD hS rfl dX10_fate_76
        · have hF := zf c_8 hF
          by_cases c_10 : p2 = 3
          · have hF := zt c_10 hF
            refine lv_tableIn (tgt := 77) (off := 61) hx hb dX10_fate_16 (by rw [c_10]; decide) (by rw [c_10]; decide) (by rw [c_10]; rfl) (by decide) ?_
            refine lv_aload_n hx hb dX10_fate_77 rfl (lv_at hl 0 rfl) ?_
            refine va_get (D := D) (ci := 7) (v := .ref (ad_M 17)) (C := RX10) (T := TX10) (N := 58) hx hb hts hin10 hown hK hP 0 rfl rfl 32 (by decide) (hts _ zm_146) (fun _ h9 => h9) rfl dX10_fate_78 ?_
            refine lv_iload_n hx hb dX10_fate_81 rfl (lv_at hl 1 rfl) ?_
            obtain ⟨h_11, hF⟩ := zgi hF
            refine va_iald hx hb hK hP 17 0 rfl rfl h_11 dX10_fate_82 ?_
            obtain rfl := Option.some.inj hF
            exact hret _ _ _ _ hP hD hS rfl dX10_fate_83
          · have hF := zf c_10 hF
            by_cases c_12 : p2 = 4
            · have hF := zt c_12 hF
              refine lv_tableIn (tgt := 84) (off := 68) hx hb dX10_fate_16 (by rw [c_12]; decide) (by rw [c_12]; decide) (by rw [c_12]; rfl) (by decide) ?_
              refine lv_iconst (v := 0) hx hb dX10_fate_84 (by decide) ?_
              refine lv_istore_n (lv' := [(3, .int 0), (0, .ref (ad_M 0)), (1, .int p1), (2, .int p2)]) hx hb dX10_fate_85 rfl hl (by decide) rfl (fun ls hl => ?_)
              exact l86 fuel 0 o_3.2.1 o_3.2.2.1 o_3.2.2.2.1 o_3.2.2.2.2.1 o_3.2.2.2.2.2.1 o_3.2.2.2.2.2.2.1 o_3.2.2.2.2.2.2.2.1 o_3.2.2.2.2.2.2.2.2.1 o_3.2.2.2.2.2.2.2.2.2.1 o_3.2.2.2.2.2.2.2.2.2.2.1 o_3.2.2.2.2.2.2.2.2.2.2.2.1 o_3.2.2.2.2.2.2.2.2.2.2.2.2.1 o_3.2.2.2.2.2.2.2.2.2.2.2.2.2.1 o_3.2.2.2.2.2.2.2.2.2.2.2.2.2.2.1 o_3.2.2.2.2.2.2.2.2.2.2.2.2.2.2.2.1 o_3.2.2.2.2.2.2.2.2.2.2.2.2.2.2.2.2.1 o_3.2.2.2.2.2.2.2.2.2.2.2.2.2.2.2.2.2.1 o_3.2.2.2.2.2.2.2.2.2.2.2.2.2.2.2.2.2.2 _ _ hF hP hD hS ls (lv_sub hl [1, 2, 0] rfl)
            · have hF := zf c_12 hF
              by_cases c_13 : p2 = 5
              · have hF := zt c_13 hF
                refine lv_tableIn (tgt := 104) (off := 88) hx hb dX10_fate_16 (by rw [c_13]; decide) (by rw [c_13]; decide) (by rw [c_13]; rfl) (by decide) ?_
                refine lv_aload_n hx hb dX10_fate_104 rfl (lv_at hl 0 rfl) ?_
                refine va_get (D := D) (ci := 7) (v := .ref (ad_M 18)) (C := RX10) (T := TX10) (N := 58) hx hb hts hin10 hown hK hP 0 rfl rfl 33 (by decide) (hts _ zm_145) (fun _ h9 => h9) rfl dX10_fate_105 ?_
                refine lv_iload_n hx hb dX10_fate_108 rfl (lv_at hl 1 rfl) ?_
                obtain ⟨h_14, hF⟩ := zgi hF
                refine va_iald hx hb hK hP 18 0 rfl rfl h_14 dX10_fate_109 ?_
                obtain rfl := Option.some.inj hF
                exact hret _ _ _ _ hP hD hS rfl dX10_fate_110
              · have hF := zf c_13 hF
                refine lv_tableOut (tgt := 111) hx hb dX10_fate_16 (ztab (lo := 0) (hi := 5) (fun k h1 h2 => by rcases (show k = 0 ∨ k = 1 ∨ k = 2 ∨ k = 3 ∨ k = 4 ∨ k = 5 by omega) with rfl | rfl | rfl | rfl | rfl | rfl <;> first | exact c_4 | exact c_6 | exact c_8 | exact c_10 | exact c_12 | exact c_13)) (by decide) ?_
                refine lv_iconst (v := (-1)) hx hb dX10_fate_111 (by decide) ?_
                obtain rfl := Option.some.inj hF
                exact hret _ _ _ _ hP hD hS rfl dX10_fate_112
  · have hF := zt c_2 hF
    refine lv_iconst (v := (-1)) hx hb dX10_fate_8 (by decide) ?_
    obtain rfl := Option.some.inj hF
    exact hret _ _ _ _ hP hD hS rfl dX10_fate_9
theorem zdv_X10_spare : yX10_spare.cls = RX10 ∧ yX10_spare.cls ≠ "java/lang/invoke/MethodHandle" ∧ yX10_spare.cls ≠ "java/lang/invoke/VarHandle" ∧ (parseMethodDescriptor yX10_spare.desc).map (fun d => d.parameters.length) = some 1 := by decide +kernel
abbrev roX10_misses : Room := { frames := 1, cells := 0, slots := 0, locals := 21 }
set_option maxHeartbeats 4000000 in
set_option maxRecDepth 100000 in
theorem kX10_misses (l : Launch) (D : va_G) (ca : Nat → ClassId) (t : Nat → Nat) (ad_M : Nat → Nat) (M_guests : Int32) (M_kind : Nat → Int32) (M_figure : Nat → Int32) (M_told : Nat → Int32) (M_heaps : Int32) (M_holds : Int32) (M_back : Int32) (M_mistakes : Int32) (M_hooks : Int32) (M_letters : Int32) (M_rule : Nat → Int32) (M_at : Int32) (M_well : Int32) (M_sort : Int32) (M_text : Int32) (M_row : Int32) (M_field : Nat → Int32) (M_fields : Int32) (M_begins : Nat → Int32) (M_ruleLetters : Nat → Int32) (M_coming : Nat → Int32) (M_comingMany : Int32) (M_going : Nat → Int32) (M_goingMany : Int32) (M_minute : Nat → Int32) (M_pile : Nat → Int32) (M_high : Nat → Int32) (M_where : Nat → Int32) (M_latest : Int32) (M_lifts : Nat → Int32) (M_begun : Nat → Int32) (M_left : Nat → Int32) (M_has : Nat → Int32) (M_lifted : Nat → Int32) (M_taken : Nat → Int32) (M_above : Nat → Int32) (M_allLifts : Int32) (M_busy : Int32) (M_longest : Nat → Int32) (M_onto : Nat → Int32) (M_worst : Int32) (M_best : Int32) (M_orders : Int32) (M_together : Int32) (M_ofOne : Nat → Int32) (M_ofOther : Nat → Int32) (M_seed : Int32) (M_then : Nat → Int32) (M_was : Nat → Int32) (M_kept : Int32) (M_held : Nat → Int32) (M_kindOn : Nat → Int32) (M_figureOn : Nat → Int32) (M_sorts : Nat → Int32) (M_size : Nat → Int32) (M_items : Nat → Int32) (M_moved : Nat → Int32) (M_thrown : Int32) (p1 : Int32) (fuel : Nat) (o : Int32) (hF : fX10_misses fuel M_kind M_figure M_minute M_left p1 = some o) : zRi l D (zT ca) t yX10_misses (.code yX10_misses cX10_misses 2 (some .boolean) :: zW) roX10_misses [.ref (ad_M 0), .int p1] (wX10_M ca ad_M M_guests M_kind M_figure M_told M_heaps M_holds M_back M_mistakes M_hooks M_letters M_rule M_at M_well M_sort M_text M_row M_field M_fields M_begins M_ruleLetters M_coming M_comingMany M_going M_goingMany M_minute M_pile M_high M_where M_latest M_lifts M_begun M_left M_has M_lifted M_taken M_above M_allLifts M_busy M_longest M_onto M_worst M_best M_orders M_together M_ofOne M_ofOther M_seed M_then M_was M_kept M_held M_kindOn M_figureOn M_sorts M_size M_items M_moved M_thrown) o := by
  refine zRi_of (cc := cX10_misses) (maxL := 2) (by decide) rfl (Nat.le_of_ble_eq_true rfl) ?_
  intro p e s m args below meth c A Q ls ⟨hx, hb, hml, hown, hts, hA, hK, hZ, hS⟩ hret hP hD hl
  have hts := fun w h => hts w (List.mem_cons_of_mem _ h)
  have hown : s.vm.findClass RX10 = some m.cls := hown
  have hl : lv_has ls 2 [(0, .ref (ad_M 0)), (1, .int p1)] := hl
  have hin10 := zin_X10
  unfold fX10_misses at hF
  refine lv_aload_n hx hb dX10_misses_0 rfl (lv_at hl 0 rfl) ?_
  refine va_get (D := D) (ci := 7) (v := .ref (ad_M 16)) (C := RX10) (T := TX10) (N := 58) hx hb hts hin10 hown hK hP 0 rfl rfl 31 (by decide) (hts _ zm_166) (fun _ h9 => h9) rfl dX10_misses_1 ?_
  refine lv_iload_n hx hb dX10_misses_4 rfl (lv_at hl 1 rfl) ?_
  obtain ⟨h_1, hF⟩ := zgi hF
  refine va_iald hx hb hK hP 16 0 rfl rfl h_1 dX10_misses_5 ?_
  refine lv_aload_n hx hb dX10_misses_6 rfl (lv_at hl 0 rfl) ?_
  refine va_get (D := D) (ci := 7) (v := .ref (ad_M 10)) (C := RX10) (T := TX10) (N := 58) hx hb hts hin10 hown hK hP 0 rfl rfl 24 (by decide) (hts _ zm_85) (fun _ h9 => h9) rfl dX10_misses_7 ?_
  refine lv_iload_n hx hb dX10_misses_10 rfl (lv_at hl 1 rfl) ?_
  refine va_iald hx hb hK hP 10 0 rfl rfl h_1 dX10_misses_11 ?_
  refine lv_aload_n hx hb dX10_misses_12 rfl (lv_at hl 0 rfl) ?_
  refine lv_iload_n hx hb dX10_misses_13 rfl (lv_at hl 1 rfl) ?_
  obtain ⟨o_2, hc_2, hF⟩ := zb hF
  refine zcVR (rest := [.int (M_minute p1.toNatClampNeg), .int (M_left p1.toNatClampNeg)]) (kX10_spare l D ca t ad_M M_guests M_kind M_figure M_told M_heaps M_holds M_back M_mistakes M_hooks M_letters M_rule M_at M_well M_sort M_text M_row M_field M_fields M_begins M_ruleLetters M_coming M_comingMany M_going M_goingMany M_minute M_pile M_high M_where M_latest M_lifts M_begun M_left M_has M_lifted M_taken M_above M_allLifts M_busy M_longest M_onto M_worst M_best M_orders M_together M_ofOne M_ofOther M_seed M_then M_was M_kept M_held M_kindOn M_figureOn M_sorts M_size M_items M_moved M_thrown p1 fuel _ hc_2) ⟨hx, hb, hml, hown, hts⟩ (zcwV hts zm_198 zm_199 zm_200 zm_19 zm_197 rfl rfl zdv_X10_spare ⟨Nat.le_of_ble_eq_true rfl, Nat.le_of_ble_eq_true rfl⟩) hA hK hZ hP hD hS [0, 1, 2, 3, 4, 5, 6, 7, 8, 9, 10, 11, 12, 13, 14, 15, 16, 17, 18, 19, 20, 21, 22, 23, 24, 25, 26, 27, 28, 29, 30, 31, 32, 33] rfl rfl 7 0 rfl rfl rfl hl.1 (Nat.le_of_ble_eq_true rfl) dX10_misses_14 rfl ?_
  refine lv_iadd hx hb dX10_misses_17 ?_
  refine lv_icmp_le (tgt := 25) hx hb dX10_misses_18 (by decide) (fun c_3 => ?_) (fun c_3 => ?_)
  · have hF := zt c_3 hF
    refine lv_iconst (v := 0) hx hb dX10_misses_25 (by decide) ?_
    obtain rfl := Option.some.inj hF
    exact hret _ _ (zbool (Or.inl rfl)) dX10_misses_26
  · have hF := zf c_3 hF
    refine lv_iconst (v := 1) hx hb dX10_misses_21 (by decide) ?_
    refine lv_goto (tgt := 26) hx hb dX10_misses_22 (by decide) ?_
    obtain rfl := Option.some.inj hF
    exact hret _ _ (zbool (Or.inr rfl)) dX10_misses_26
theorem zdv_X10_misses : yX10_misses.cls = RX10 ∧ yX10_misses.cls ≠ "java/lang/invoke/MethodHandle" ∧ yX10_misses.cls ≠ "java/lang/invoke/VarHandle" ∧ (parseMethodDescriptor yX10_misses.desc).map (fun d => d.parameters.length) = some 1 := by decide +kernel
abbrev roX10_sums : Room := { frames := 8, cells := 0, slots := 0, locals := 178 }
set_option maxHeartbeats 4000000 in
set_option maxRecDepth 100000 in
theorem kX10_sums (l : Launch) (D : va_G) (ca : Nat → ClassId) (t : Nat → Nat) (ad_M : Nat → Nat) (M_guests : Int32) (M_kind : Nat → Int32) (M_figure : Nat → Int32) (M_told : Nat → Int32) (M_heaps : Int32) (M_holds : Int32) (M_back : Int32) (M_mistakes : Int32) (M_hooks : Int32) (M_letters : Int32) (M_rule : Nat → Int32) (M_at : Int32) (M_well : Int32) (M_sort : Int32) (M_text : Int32) (M_row : Int32) (M_field : Nat → Int32) (M_fields : Int32) (M_begins : Nat → Int32) (M_ruleLetters : Nat → Int32) (M_coming : Nat → Int32) (M_comingMany : Int32) (M_going : Nat → Int32) (M_goingMany : Int32) (M_minute : Nat → Int32) (M_pile : Nat → Int32) (M_high : Nat → Int32) (M_where : Nat → Int32) (M_latest : Int32) (M_lifts : Nat → Int32) (M_begun : Nat → Int32) (M_left : Nat → Int32) (M_has : Nat → Int32) (M_lifted : Nat → Int32) (M_taken : Nat → Int32) (M_above : Nat → Int32) (M_allLifts : Int32) (M_busy : Int32) (M_longest : Nat → Int32) (M_onto : Nat → Int32) (M_worst : Int32) (M_best : Int32) (M_orders : Int32) (M_together : Int32) (M_ofOne : Nat → Int32) (M_ofOther : Nat → Int32) (M_seed : Int32) (M_then : Nat → Int32) (M_was : Nat → Int32) (M_kept : Int32) (M_held : Nat → Int32) (M_kindOn : Nat → Int32) (M_figureOn : Nat → Int32) (M_sorts : Nat → Int32) (M_size : Nat → Int32) (M_items : Nat → Int32) (M_moved : Nat → Int32) (M_thrown : Int32) (p1 : Int32) (fuel : Nat) (o : Int32 × (Nat → Int32) × Int32 × (Nat → Int32) × Int32 × (Nat → Int32) × (Nat → Int32) × (Nat → Int32) × (Nat → Int32) × Int32 × (Nat → Int32) × (Nat → Int32) × (Nat → Int32) × (Nat → Int32) × (Nat → Int32) × (Nat → Int32) × (Nat → Int32) × Int32 × Int32) (hF : fX10_sums fuel M_guests M_kind M_figure M_told M_heaps M_holds M_back M_mistakes M_hooks M_letters M_rule M_coming M_comingMany M_going M_goingMany M_minute M_pile M_high M_where M_latest M_lifts M_begun M_left M_has M_lifted M_taken M_above M_allLifts M_busy p1 = some o) : zMi l D (zT ca) t yX10_sums (.code yX10_sums cX10_sums 6 (some .int) :: zW) roX10_sums [.ref (ad_M 0), .int p1] (wX10_M ca ad_M M_guests M_kind M_figure M_told M_heaps M_holds M_back M_mistakes M_hooks M_letters M_rule M_at M_well M_sort M_text M_row M_field M_fields M_begins M_ruleLetters M_coming M_comingMany M_going M_goingMany M_minute M_pile M_high M_where M_latest M_lifts M_begun M_left M_has M_lifted M_taken M_above M_allLifts M_busy M_longest M_onto M_worst M_best M_orders M_together M_ofOne M_ofOther M_seed M_then M_was M_kept M_held M_kindOn M_figureOn M_sorts M_size M_items M_moved M_thrown) (wX10_M ca ad_M M_guests M_kind M_figure M_told M_heaps M_holds M_back M_mistakes M_hooks M_letters M_rule M_at M_well M_sort M_text M_row M_field M_fields M_begins M_ruleLetters o.2.1 o.2.2.1 o.2.2.2.1 o.2.2.2.2.1 o.2.2.2.2.2.1 o.2.2.2.2.2.2.1 o.2.2.2.2.2.2.2.1 o.2.2.2.2.2.2.2.2.1 o.2.2.2.2.2.2.2.2.2.1 o.2.2.2.2.2.2.2.2.2.2.1 o.2.2.2.2.2.2.2.2.2.2.2.1 o.2.2.2.2.2.2.2.2.2.2.2.2.1 o.2.2.2.2.2.2.2.2.2.2.2.2.2.1 o.2.2.2.2.2.2.2.2.2.2.2.2.2.2.1 o.2.2.2.2.2.2.2.2.2.2.2.2.2.2.2.1 o.2.2.2.2.2.2.2.2.2.2.2.2.2.2.2.2.1 o.2.2.2.2.2.2.2.2.2.2.2.2.2.2.2.2.2.1 o.2.2.2.2.2.2.2.2.2.2.2.2.2.2.2.2.2.2 M_longest M_onto M_worst M_best M_orders M_together M_ofOne M_ofOther M_seed M_then M_was M_kept M_held M_kindOn M_figureOn M_sorts M_size M_items M_moved M_thrown) o.1 := by
  refine zMi_of (cc := cX10_sums) (maxL := 6) (by decide) rfl (Nat.le_of_ble_eq_true rfl) ?_
  intro p e s m args below meth c A Q ls ⟨hx, hb, hml, hown, hts, hA, hK, hZ, hS⟩ hret hP hD hl
  have hts := fun w h => hts w (List.mem_cons_of_mem _ h)
  have hown : s.vm.findClass RX10 = some m.cls := hown
  have hl : lv_has ls 6 [(0, .ref (ad_M 0)), (1, .int p1)] := hl
  have hin10 := zin_X10
  have j178 : ∀ (v2 : Int32) (v3 : Int32) (v4 : Int32) (M_coming : Nat → Int32) (M_comingMany : Int32) (M_going : Nat → Int32) (M_goingMany : Int32) (M_minute : Nat → Int32) (M_pile : Nat → Int32) (M_high : Nat → Int32) (M_where : Nat → Int32) (M_latest : Int32) (M_lifts : Nat → Int32) (M_begun : Nat → Int32) (M_left : Nat → Int32) (M_has : Nat → Int32) (M_lifted : Nat → Int32) (M_taken : Nat → Int32) (M_above : Nat → Int32) (M_allLifts : Int32) (M_busy : Int32) (H : Heap) (locs : List Loc), fX10_sums_J178 p1 v2 v3 v4 M_coming M_comingMany M_going M_goingMany M_minute M_pile M_high M_where M_latest M_lifts M_begun M_left M_has M_lifted M_taken M_above M_allLifts M_busy = some o → va_P D vwCl (wX10_M ca ad_M M_guests M_kind M_figure M_told M_heaps M_holds M_back M_mistakes M_hooks M_letters M_rule M_at M_well M_sort M_text M_row M_field M_fields M_begins M_ruleLetters M_coming M_comingMany M_going M_goingMany M_minute M_pile M_high M_where M_latest M_lifts M_begun M_left M_has M_lifted M_taken M_above M_allLifts M_busy M_longest M_onto M_worst M_best M_orders M_together M_ofOne M_ofOther M_seed M_then M_was M_kept M_held M_kindOn M_figureOn M_sorts M_size M_items M_moved M_thrown) H → va_D A (wX10_M ca ad_M M_guests M_kind M_figure M_told M_heaps M_holds M_back M_mistakes M_hooks M_letters M_rule M_at M_well M_sort M_text M_row M_field M_fields M_begins M_ruleLetters M_coming M_comingMany M_going M_goingMany M_minute M_pile M_high M_where M_latest M_lifts M_begun M_left M_has M_lifted M_taken M_above M_allLifts M_busy M_longest M_onto M_worst M_best M_orders M_together M_ofOne M_ofOther M_seed M_then M_was M_kept M_held M_kindOn M_figureOn M_sorts M_size M_items M_moved M_thrown) → va_S A s.heap H locs → ∀ ls : Array Slot, lv_has ls 6 [(1, .int p1), (2, .int v2), (3, .int v3), (4, .int v4)] → W p l e roX10_sums s m args below meth c H locs 0 0 Q (F0 m 178 ls []) := by
    intro v2 v3 v4 M_coming M_comingMany M_going M_goingMany M_minute M_pile M_high M_where M_latest M_lifts M_begun M_left M_has M_lifted M_taken M_above M_allLifts M_busy H locs hF hP hD hS ls hl
    unfold fX10_sums_J178 at hF
    refine lv_iload_n hx hb dX10_sums_178 rfl (lv_at hl 0 rfl) ?_
    refine lv_if_ne (tgt := 186) hx hb dX10_sums_179 (by decide) (fun c_24 => ?_) (fun c_24 => ?_)
    · have hF := zf c_24 hF
      refine lv_iload_n hx hb dX10_sums_186 rfl (lv_at hl 0 rfl) ?_
      refine lv_iconst (v := 4) hx hb dX10_sums_187 (by decide) ?_
      refine lv_icmp_ne (tgt := 196) hx hb dX10_sums_188 (by decide) (fun c_25 => ?_) (fun c_25 => ?_)
      · have hF := zf c_25 hF
        refine lv_iload_n hx hb dX10_sums_196 rfl (lv_at hl 2 rfl) ?_
        obtain rfl := Option.some.inj hF
        exact hret _ _ _ _ hP hD hS rfl dX10_sums_197
      · have hF := zt c_25 hF
        refine lv_iload hx hb dX10_sums_191 (lv_at hl 3 rfl) ?_
        refine lv_goto (tgt := 197) hx hb dX10_sums_193 (by decide) ?_
        obtain rfl := Option.some.inj hF
        exact hret _ _ _ _ hP hD hS rfl dX10_sums_197
    · have hF := zt c_24 hF
      refine lv_iload_n hx hb dX10_sums_182 rfl (lv_at hl 1 rfl) ?_
      refine lv_goto (tgt := 197) hx hb dX10_sums_183 (by decide) ?_
      obtain rfl := Option.some.inj hF
      exact hret _ _ _ _ hP hD hS rfl dX10_sums_197
  have l24 : ∀ (n24 : Nat) (v2 : Int32) (v3 : Int32) (v4 : Int32) (v5 : Int32) (M_coming : Nat → Int32) (M_comingMany : Int32) (M_going : Nat → Int32) (M_goingMany : Int32) (M_minute : Nat → Int32) (M_pile : Nat → Int32) (M_high : Nat → Int32) (M_where : Nat → Int32) (M_latest : Int32) (M_lifts : Nat → Int32) (M_begun : Nat → Int32) (M_left : Nat → Int32) (M_has : Nat → Int32) (M_lifted : Nat → Int32) (M_taken : Nat → Int32) (M_above : Nat → Int32) (M_allLifts : Int32) (M_busy : Int32) (H : Heap) (locs : List Loc), fX10_sums_L24 fuel M_guests M_kind M_figure p1 n24 v2 v3 v4 v5 M_coming M_comingMany M_going M_goingMany M_minute M_pile M_high M_where M_latest M_lifts M_begun M_left M_has M_lifted M_taken M_above M_allLifts M_busy = some o → va_P D vwCl (wX10_M ca ad_M M_guests M_kind M_figure M_told M_heaps M_holds M_back M_mistakes M_hooks M_letters M_rule M_at M_well M_sort M_text M_row M_field M_fields M_begins M_ruleLetters M_coming M_comingMany M_going M_goingMany M_minute M_pile M_high M_where M_latest M_lifts M_begun M_left M_has M_lifted M_taken M_above M_allLifts M_busy M_longest M_onto M_worst M_best M_orders M_together M_ofOne M_ofOther M_seed M_then M_was M_kept M_held M_kindOn M_figureOn M_sorts M_size M_items M_moved M_thrown) H → va_D A (wX10_M ca ad_M M_guests M_kind M_figure M_told M_heaps M_holds M_back M_mistakes M_hooks M_letters M_rule M_at M_well M_sort M_text M_row M_field M_fields M_begins M_ruleLetters M_coming M_comingMany M_going M_goingMany M_minute M_pile M_high M_where M_latest M_lifts M_begun M_left M_has M_lifted M_taken M_above M_allLifts M_busy M_longest M_onto M_worst M_best M_orders M_together M_ofOne M_ofOther M_seed M_then M_was M_kept M_held M_kindOn M_figureOn M_sorts M_size M_items M_moved M_thrown) → va_S A s.heap H locs → ∀ ls : Array Slot, lv_has ls 6 [(0, .ref (ad_M 0)), (1, .int p1), (2, .int v2), (3, .int v3), (4, .int v4), (5, .int v5)] → W p l e roX10_sums s m args below meth c H locs 0 0 Q (F0 m 24 ls []) := by
    intro n24
    induction n24 with
    | zero =>
      intro v2 v3 v4 v5 M_coming M_comingMany M_going M_goingMany M_minute M_pile M_high M_where M_latest M_lifts M_begun M_left M_has M_lifted M_taken M_above M_allLifts M_busy H locs hF
      rw [fX10_sums_L24] at hF
      cases hF
    | succ n24 ih24 =>
      have j172 : ∀ (v2 : Int32) (v3 : Int32) (v4 : Int32) (v5 : Int32) (M_coming : Nat → Int32) (M_comingMany : Int32) (M_going : Nat → Int32) (M_goingMany : Int32) (M_minute : Nat → Int32) (M_pile : Nat → Int32) (M_high : Nat → Int32) (M_where : Nat → Int32) (M_latest : Int32) (M_lifts : Nat → Int32) (M_begun : Nat → Int32) (M_left : Nat → Int32) (M_has : Nat → Int32) (M_lifted : Nat → Int32) (M_taken : Nat → Int32) (M_above : Nat → Int32) (M_allLifts : Int32) (M_busy : Int32) (H : Heap) (locs : List Loc), fX10_sums_J172 (fX10_sums_L24 fuel M_guests M_kind M_figure p1 n24) v2 v3 v4 v5 M_coming M_comingMany M_going M_goingMany M_minute M_pile M_high M_where M_latest M_lifts M_begun M_left M_has M_lifted M_taken M_above M_allLifts M_busy = some o → va_P D vwCl (wX10_M ca ad_M M_guests M_kind M_figure M_told M_heaps M_holds M_back M_mistakes M_hooks M_letters M_rule M_at M_well M_sort M_text M_row M_field M_fields M_begins M_ruleLetters M_coming M_comingMany M_going M_goingMany M_minute M_pile M_high M_where M_latest M_lifts M_begun M_left M_has M_lifted M_taken M_above M_allLifts M_busy M_longest M_onto M_worst M_best M_orders M_together M_ofOne M_ofOther M_seed M_then M_was M_kept M_held M_kindOn M_figureOn M_sorts M_size M_items M_moved M_thrown) H → va_D A (wX10_M ca ad_M M_guests M_kind M_figure M_told M_heaps M_holds M_back M_mistakes M_hooks M_letters M_rule M_at M_well M_sort M_text M_row M_field M_fields M_begins M_ruleLetters M_coming M_comingMany M_going M_goingMany M_minute M_pile M_high M_where M_latest M_lifts M_begun M_left M_has M_lifted M_taken M_above M_allLifts M_busy M_longest M_onto M_worst M_best M_orders M_together M_ofOne M_ofOther M_seed M_then M_was M_kept M_held M_kindOn M_figureOn M_sorts M_size M_items M_moved M_thrown) → va_S A s.heap H locs → ∀ ls : Array Slot, lv_has ls 6 [(0, .ref (ad_M 0)), (1, .int p1), (2, .int v2), (3, .int v3), (4, .int v4), (5, .int v5)] → W p l e roX10_sums s m args below meth c H locs 0 0 Q (F0 m 172 ls []) := by
        intro v2 v3 v4 v5 M_coming M_comingMany M_going M_goingMany M_minute M_pile M_high M_where M_latest M_lifts M_begun M_left M_has M_lifted M_taken M_above M_allLifts M_busy H locs hF hP hD hS ls hl
        unfold fX10_sums_J172 at hF
        refine z_iinc (kv := 1) hx hb 5 dX10_sums_172 hl rfl (by decide) (by decide) (fun g => [(5, .int g), (0, .ref (ad_M 0)), (1, .int p1), (2, .int v2), (3, .int v3), (4, .int v4)]) (fun _ => rfl) hF (fun v5_26 ls hF hl => ?_)
        refine lv_goto (tgt := 24) hx hb dX10_sums_175 (by decide) ?_
        exact ih24 v2 v3 v4 v5_26 M_coming M_comingMany M_going M_goingMany M_minute M_pile M_high M_where M_latest M_lifts M_begun M_left M_has M_lifted M_taken M_above M_allLifts M_busy _ _ hF hP hD hS ls (lv_sub hl [1, 2, 3, 4, 5, 0] rfl)
      intro v2 v3 v4 v5 M_coming M_comingMany M_going M_goingMany M_minute M_pile M_high M_where M_latest M_lifts M_begun M_left M_has M_lifted M_taken M_above M_allLifts M_busy H locs hF hP hD hS ls hl
      rw [fX10_sums_L24] at hF
      refine lv_iload hx hb dX10_sums_24 (lv_at hl 5 rfl) ?_
      refine lv_aload_n hx hb dX10_sums_26 rfl (lv_at hl 0 rfl) ?_
      refine va_get (D := D) (ci := 7) (v := .int M_guests) (C := RX10) (T := TX10) (N := 58) hx hb hts hin10 hown hK hP 0 rfl rfl 0 (by decide) (hts _ zm_16) (fun _ h9 => h9) rfl dX10_sums_27 ?_
      refine lv_icmp_ge (tgt := 178) hx hb dX10_sums_30 (by decide) (fun c_4 => ?_) (fun c_4 => ?_)
      · have hF := zt c_4 hF
        exact j178 v2 v3 v4 M_coming M_comingMany M_going M_goingMany M_minute M_pile M_high M_where M_latest M_lifts M_begun M_left M_has M_lifted M_taken M_above M_allLifts M_busy _ _ hF hP hD hS ls (lv_sub hl [1, 2, 3, 4] rfl)
      · have hF := zf c_4 hF
        refine lv_iload hx hb dX10_sums_33 (lv_at hl 4 rfl) ?_
        refine lv_aload_n hx hb dX10_sums_35 rfl (lv_at hl 0 rfl) ?_
        refine va_get (D := D) (ci := 7) (v := .ref (ad_M 16)) (C := RX10) (T := TX10) (N := 58) hx hb hts hin10 hown hK hP 0 rfl rfl 31 (by decide) (hts _ zm_166) (fun _ h9 => h9) rfl dX10_sums_36 ?_
        refine lv_iload hx hb dX10_sums_39 (lv_at hl 5 rfl) ?_
        obtain ⟨h_5, hF⟩ := zgi hF
        refine va_iald hx hb hK hP 16 0 rfl rfl h_5 dX10_sums_41 ?_
        refine va_mmax hx hb (hml.trans hl.1.symm) hown (hts _ zm_21) (hts _ zm_22) (hts _ zm_23) (hts _ zm_24) (Nat.le_of_ble_eq_true rfl) (Nat.le_of_ble_eq_true rfl) (Nat.zero_le _) (Nat.zero_le _) dX10_sums_42 ?_
        refine z_let hF (fun x_6 hF => ?_)
        refine lv_istore (lv' := [(4, .int x_6), (0, .ref (ad_M 0)), (1, .int p1), (2, .int v2), (3, .int v3), (5, .int v5)]) hx hb dX10_sums_45 hl (by decide) rfl (fun ls hl => ?_)
        refine lv_iload_n hx hb dX10_sums_47 rfl (lv_at hl 2 rfl) ?_
        by_cases c_7 : p1 = 1
        · have hF := zt c_7 hF
          refine lv_tableIn (tgt := 76) (off := 28) hx hb dX10_sums_48 (by rw [c_7]; decide) (by rw [c_7]; decide) (by rw [c_7]; rfl) (by decide) ?_
          refine lv_iload_n hx hb dX10_sums_76 rfl (lv_at hl 4 rfl) ?_
          refine lv_aload_n hx hb dX10_sums_77 rfl (lv_at hl 1 rfl) ?_
          refine va_get (D := D) (ci := 7) (v := .ref (ad_M 15)) (C := RX10) (T := TX10) (N := 58) hx hb hts hin10 hown hK hP 0 rfl rfl 30 (by decide) (hts _ zm_164) (fun _ h9 => h9) rfl dX10_sums_78 ?_
          refine lv_iload hx hb dX10_sums_81 (lv_at hl 5 rfl) ?_
          refine va_iald hx hb hK hP 15 0 rfl rfl h_5 dX10_sums_83 ?_
          refine lv_aload_n hx hb dX10_sums_84 rfl (lv_at hl 1 rfl) ?_
          refine va_get (D := D) (ci := 7) (v := .ref (ad_M 10)) (C := RX10) (T := TX10) (N := 58) hx hb hts hin10 hown hK hP 0 rfl rfl 24 (by decide) (hts _ zm_85) (fun _ h9 => h9) rfl dX10_sums_85 ?_
          refine lv_iload hx hb dX10_sums_88 (lv_at hl 5 rfl) ?_
          refine va_iald hx hb hK hP 10 0 rfl rfl h_5 dX10_sums_90 ?_
          refine lv_isub hx hb dX10_sums_91 ?_
          refine z_let hF (fun x_8 hF => ?_)
          refine lv_iadd hx hb dX10_sums_92 ?_
          refine z_let hF (fun v3_9 hF => ?_)
          refine lv_istore_n (lv' := [(3, .int v3_9), (4, .int x_6), (0, .ref (ad_M 0)), (1, .int p1), (2, .int v2), (5, .int v5)]) hx hb dX10_sums_93 rfl hl (by decide) rfl (fun ls hl => ?_)
          refine lv_goto (tgt := 172) hx hb dX10_sums_94 (by decide) ?_
          exact j172 v2 v3_9 x_6 v5 M_coming M_comingMany M_going M_goingMany M_minute M_pile M_high M_where M_latest M_lifts M_begun M_left M_has M_lifted M_taken M_above M_allLifts M_busy _ _ hF hP hD hS ls (lv_sub hl [2, 3, 4, 0, 1, 5] rfl)
        · have hF := zf c_7 hF
          by_cases c_10 : p1 = 2
          · have hF := zt c_10 hF
            refine lv_tableIn (tgt := 97) (off := 49) hx hb dX10_sums_48 (by rw [c_10]; decide) (by rw [c_10]; decide) (by rw [c_10]; rfl) (by decide) ?_
            refine lv_iload_n hx hb dX10_sums_97 rfl (lv_at hl 4 rfl) ?_
            refine lv_aload_n hx hb dX10_sums_98 rfl (lv_at hl 1 rfl) ?_
            refine va_get (D := D) (ci := 7) (v := .ref (ad_M 17)) (C := RX10) (T := TX10) (N := 58) hx hb hts hin10 hown hK hP 0 rfl rfl 32 (by decide) (hts _ zm_146) (fun _ h9 => h9) rfl dX10_sums_99 ?_
            refine lv_iload hx hb dX10_sums_102 (lv_at hl 5 rfl) ?_
            refine va_iald hx hb hK hP 17 0 rfl rfl h_5 dX10_sums_104 ?_
            refine lv_bipush (v := (-4)) hx hb dX10_sums_105 (by decide) ?_
            refine lv_icmp_eq (tgt := 126) hx hb dX10_sums_107 (by decide) (fun c_11 => ?_) (fun c_11 => ?_)
            · have hF := zt c_11 hF
              refine lv_iconst (v := 0) hx hb dX10_sums_126 (by decide) ?_
              refine lv_iadd hx hb dX10_sums_127 ?_
              refine z_let hF (fun v3_12 hF => ?_)
              refine lv_istore_n (lv' := [(3, .int v3_12), (4, .int x_6), (0, .ref (ad_M 0)), (1, .int p1), (2, .int v2), (5, .int v5)]) hx hb dX10_sums_128 rfl hl (by decide) rfl (fun ls hl => ?_)
              refine lv_goto (tgt := 172) hx hb dX10_sums_129 (by decide) ?_
              exact j172 v2 v3_12 x_6 v5 M_coming M_comingMany M_going M_goingMany M_minute M_pile M_high M_where M_latest M_lifts M_begun M_left M_has M_lifted M_taken M_above M_allLifts M_busy _ _ hF hP hD hS ls (lv_sub hl [2, 3, 4, 0, 1, 5] rfl)
            · have hF := zf c_11 hF
              refine lv_aload_n hx hb dX10_sums_110 rfl (lv_at hl 1 rfl) ?_
              refine va_get (D := D) (ci := 7) (v := .ref (ad_M 17)) (C := RX10) (T := TX10) (N := 58) hx hb hts hin10 hown hK hP 0 rfl rfl 32 (by decide) (hts _ zm_146) (fun _ h9 => h9) rfl dX10_sums_111 ?_
              refine lv_iload hx hb dX10_sums_114 (lv_at hl 5 rfl) ?_
              refine va_iald hx hb hK hP 17 0 rfl rfl h_5 dX10_sums_116 ?_
              refine lv_iload hx hb dX10_sums_117 (lv_at hl 5 rfl) ?_
              refine lv_icmp_eq (tgt := 126) hx hb dX10_sums_119 (by decide) (fun c_13 => ?_) (fun c_13 => ?_)
              · have hF := zt c_13 hF
                refine lv_iconst (v := 0) hx hb dX10_sums_126 (by decide) ?_
                refine lv_iadd hx hb dX10_sums_127 ?_
                refine z_let hF (fun v3_14 hF => ?_)
                refine lv_istore_n (lv' := [(3, .int v3_14), (4, .int x_6), (0, .ref (ad_M 0)), (1, .int p1), (2, .int v2), (5, .int v5)]) hx hb dX10_sums_128 rfl hl (by decide) rfl (fun ls hl => ?_)
                refine lv_goto (tgt := 172) hx hb dX10_sums_129 (by decide) ?_
                exact j172 v2 v3_14 x_6 v5 M_coming M_comingMany M_going M_goingMany M_minute M_pile M_high M_where M_latest M_lifts M_begun M_left M_has M_lifted M_taken M_above M_allLifts M_busy _ _ hF hP hD hS ls (lv_sub hl [2, 3, 4, 0, 1, 5] rfl)
              · have hF := zf c_13 hF
                refine lv_iconst (v := 1) hx hb dX10_sums_122 (by decide) ?_
                refine lv_goto (tgt := 127) hx hb dX10_sums_123 (by decide) ?_
                refine lv_iadd hx hb dX10_sums_127 ?_
                refine z_let hF (fun v3_15 hF => ?_)
                refine lv_istore_n (lv' := [(3, .int v3_15), (4, .int x_6), (0, .ref (ad_M 0)), (1, .int p1), (2, .int v2), (5, .int v5)]) hx hb dX10_sums_128 rfl hl (by decide) rfl (fun ls hl => ?_)
                refine lv_goto (tgt := 172) hx hb dX10_sums_129 (by decide) ?_
                exact j172 v2 v3_15 x_6 v5 M_coming M_comingMany M_going M_goingMany M_minute M_pile M_high M_where M_latest M_lifts M_begun M_left M_has M_lifted M_taken M_above M_allLifts M_busy _ _ hF hP hD hS ls (lv_sub hl [2, 3, 4, 0, 1, 5] rfl)
          · have hF := zf c_10 hF
            by_cases c_16 : p1 = 3
            · have hF := zt c_16 hF
              refine lv_tableIn (tgt := 132) (off := 84) hx hb dX10_sums_48 (by rw [c_16]; decide) (by rw [c_16]; decide) (by rw [c_16]; rfl) (by decide) ?_
              refine lv_iload_n hx hb dX10_sums_132 rfl (lv_at hl 4 rfl) ?_
              refine lv_aload_n hx hb dX10_sums_133 rfl (lv_at hl 1 rfl) ?_
              refine va_get (D := D) (ci := 7) (v := .ref (ad_M 17)) (C := RX10) (T := TX10) (N := 58) hx hb hts hin10 hown hK hP 0 rfl rfl 32 (by decide) (hts _ zm_146) (fun _ h9 => h9) rfl dX10_sums_134 ?_
              refine lv_iload hx hb dX10_sums_137 (lv_at hl 5 rfl) ?_
              refine va_iald hx hb hK hP 17 0 rfl rfl h_5 dX10_sums_139 ?_
              refine lv_bipush (v := (-4)) hx hb dX10_sums_140 (by decide) ?_
              refine lv_icmp_ne (tgt := 149) hx hb dX10_sums_142 (by decide) (fun c_17 => ?_) (fun c_17 => ?_)
              · have hF := zf c_17 hF
                refine lv_iconst (v := 0) hx hb dX10_sums_149 (by decide) ?_
                refine lv_iadd hx hb dX10_sums_150 ?_
                refine z_let hF (fun v3_18 hF => ?_)
                refine lv_istore_n (lv' := [(3, .int v3_18), (4, .int x_6), (0, .ref (ad_M 0)), (1, .int p1), (2, .int v2), (5, .int v5)]) hx hb dX10_sums_151 rfl hl (by decide) rfl (fun ls hl => ?_)
                refine lv_goto (tgt := 172) hx hb dX10_sums_152 (by decide) ?_
                exact j172 v2 v3_18 x_6 v5 M_coming M_comingMany M_going M_goingMany M_minute M_pile M_high M_where M_latest M_lifts M_begun M_left M_has M_lifted M_taken M_above M_allLifts M_busy _ _ hF hP hD hS ls (lv_sub hl [2, 3, 4, 0, 1, 5] rfl)
              · have hF := zt c_17 hF
                refine lv_iconst (v := 1) hx hb dX10_sums_145 (by decide) ?_
                refine lv_goto (tgt := 150) hx hb dX10_sums_146 (by decide) ?_
                refine lv_iadd hx hb dX10_sums_150 ?_
                refine z_let hF (fun v3_19 hF => ?_)
                refine lv_istore_n (lv' := [(3, .int v3_19), (4, .int x_6), (0, .ref (ad_M 0)), (1, .int p1), (2, .int v2), (5, .int v5)]) hx hb dX10_sums_151 rfl hl (by decide) rfl (fun ls hl => ?_)
                refine lv_goto (tgt := 172) hx hb dX10_sums_152 (by decide) ?_
                exact j172 v2 v3_19 x_6 v5 M_coming M_comingMany M_going M_goingMany M_minute M_pile M_high M_where M_latest M_lifts M_begun M_left M_has M_lifted M_taken M_above M_allLifts M_busy _ _ hF hP hD hS ls (lv_sub hl [2, 3, 4, 0, 1, 5] rfl)
            · have hF := zf c_16 hF
              refine lv_tableOut (tgt := 155) hx hb dX10_sums_48 (ztab (lo := 1) (hi := 3) (fun k h1 h2 => by rcases (show k = 1 ∨ k = 2 ∨ k = 3 by omega) with rfl | rfl | rfl <;> first | exact c_7 | exact c_10 | exact c_16)) (by decide) ?_
              refine lv_iload_n hx hb dX10_sums_155 rfl (lv_at hl 4 rfl) ?_
              refine lv_aload_n hx hb dX10_sums_156 rfl (lv_at hl 1 rfl) ?_
              refine lv_iload hx hb dX10_sums_157 (lv_at hl 5 rfl) ?_
              obtain ⟨o_20, hc_20, hF⟩ := zb hF
              refine zcVR (rest := [.int v3]) (kX10_misses l D ca t ad_M M_guests M_kind M_figure M_told M_heaps M_holds M_back M_mistakes M_hooks M_letters M_rule M_at M_well M_sort M_text M_row M_field M_fields M_begins M_ruleLetters M_coming M_comingMany M_going M_goingMany M_minute M_pile M_high M_where M_latest M_lifts M_begun M_left M_has M_lifted M_taken M_above M_allLifts M_busy M_longest M_onto M_worst M_best M_orders M_together M_ofOne M_ofOther M_seed M_then M_was M_kept M_held M_kindOn M_figureOn M_sorts M_size M_items M_moved M_thrown v5 fuel _ hc_20) ⟨hx, hb, hml, hown, hts⟩ (zcwV hts zm_202 zm_203 zm_204 zm_19 zm_201 rfl rfl zdv_X10_misses ⟨Nat.le_of_ble_eq_true rfl, Nat.le_of_ble_eq_true rfl⟩) hA hK hZ hP hD hS [0, 1, 2, 3, 4, 5, 6, 7, 8, 9, 10, 11, 12, 13, 14, 15, 16, 17, 18, 19, 20, 21, 22, 23, 24, 25, 26, 27, 28, 29, 30, 31, 32, 33] rfl rfl 7 0 rfl rfl rfl hl.1 (Nat.le_of_ble_eq_true rfl) dX10_sums_159 rfl ?_
              refine lv_if_eq (tgt := 169) hx hb dX10_sums_162 (by decide) (fun c_21 => ?_) (fun c_21 => ?_)
              · have hF := zt c_21 hF
                refine lv_iconst (v := 0) hx hb dX10_sums_169 (by decide) ?_
                refine lv_iadd hx hb dX10_sums_170 ?_
                refine z_let hF (fun v3_22 hF => ?_)
                refine lv_istore_n (lv' := [(3, .int v3_22), (4, .int x_6), (0, .ref (ad_M 0)), (1, .int p1), (2, .int v2), (5, .int v5)]) hx hb dX10_sums_171 rfl hl (by decide) rfl (fun ls hl => ?_)
                exact j172 v2 v3_22 x_6 v5 M_coming M_comingMany M_going M_goingMany M_minute M_pile M_high M_where M_latest M_lifts M_begun M_left M_has M_lifted M_taken M_above M_allLifts M_busy _ _ hF hP hD hS ls (lv_sub hl [2, 3, 4, 0, 1, 5] rfl)
              · have hF := zf c_21 hF
                refine lv_iconst (v := 1) hx hb dX10_sums_165 (by decide) ?_
                refine lv_goto (tgt := 170) hx hb dX10_sums_166 (by decide) ?_
                refine lv_iadd hx hb dX10_sums_170 ?_
                refine z_let hF (fun v3_23 hF => ?_)
                refine lv_istore_n (lv' := [(3, .int v3_23), (4, .int x_6), (0, .ref (ad_M 0)), (1, .int p1), (2, .int v2), (5, .int v5)]) hx hb dX10_sums_171 rfl hl (by decide) rfl (fun ls hl => ?_)
                exact j172 v2 v3_23 x_6 v5 M_coming M_comingMany M_going M_goingMany M_minute M_pile M_high M_where M_latest M_lifts M_begun M_left M_has M_lifted M_taken M_above M_allLifts M_busy _ _ hF hP hD hS ls (lv_sub hl [2, 3, 4, 0, 1, 5] rfl)
  unfold fX10_sums at hF
  refine lv_iload_n hx hb dX10_sums_0 rfl (lv_at hl 1 rfl) ?_
  refine lv_iconst (v := 0) hx hb dX10_sums_1 (by decide) ?_
  refine lv_iconst (v := 5) hx hb dX10_sums_2 (by decide) ?_
  obtain ⟨o_1, hc_1, hF⟩ := zb hF
  refine zcSR (rest := []) (kX10_isIn l D ca t p1 0 5 fuel _ hc_1) ⟨hx, hb, hml, hown, hts⟩ (zcwS hts zm_20 zm_18 zm_19 zm_17 rfl rfl zds_X10_isIn ⟨Nat.le_of_ble_eq_true rfl, Nat.le_of_ble_eq_true rfl⟩) hA hK hZ hP hD hS [] rfl rfl rfl hl.1 (Nat.le_of_ble_eq_true rfl) dX10_sums_3 rfl ?_
  refine lv_if_ne (tgt := 11) hx hb dX10_sums_6 (by decide) (fun c_2 => ?_) (fun c_2 => ?_)
  · have hF := zf c_2 hF
    refine lv_aload_n hx hb dX10_sums_11 rfl (lv_at hl 0 rfl) ?_
    obtain ⟨o_3, hc_3, hF⟩ := zb hF
    refine zcVi (rest := []) (ws' := (wX10_M ca ad_M M_guests M_kind M_figure M_told M_heaps M_holds M_back M_mistakes M_hooks M_letters M_rule M_at M_well M_sort M_text M_row M_field M_fields M_begins M_ruleLetters o_3.2.1 o_3.2.2.1 o_3.2.2.2.1 o_3.2.2.2.2.1 o_3.2.2.2.2.2.1 o_3.2.2.2.2.2.2.1 o_3.2.2.2.2.2.2.2.1 o_3.2.2.2.2.2.2.2.2.1 o_3.2.2.2.2.2.2.2.2.2.1 o_3.2.2.2.2.2.2.2.2.2.2.1 o_3.2.2.2.2.2.2.2.2.2.2.2.1 o_3.2.2.2.2.2.2.2.2.2.2.2.2.1 o_3.2.2.2.2.2.2.2.2.2.2.2.2.2.1 o_3.2.2.2.2.2.2.2.2.2.2.2.2.2.2.1 o_3.2.2.2.2.2.2.2.2.2.2.2.2.2.2.2.1 o_3.2.2.2.2.2.2.2.2.2.2.2.2.2.2.2.2.1 o_3.2.2.2.2.2.2.2.2.2.2.2.2.2.2.2.2.2.1 o_3.2.2.2.2.2.2.2.2.2.2.2.2.2.2.2.2.2.2 M_longest M_onto M_worst M_best M_orders M_together M_ofOne M_ofOther M_seed M_then M_was M_kept M_held M_kindOn M_figureOn M_sorts M_size M_items M_moved M_thrown)) (kX10_night l D ca t ad_M M_guests M_kind M_figure M_told M_heaps M_holds M_back M_mistakes M_hooks M_letters M_rule M_at M_well M_sort M_text M_row M_field M_fields M_begins M_ruleLetters M_coming M_comingMany M_going M_goingMany M_minute M_pile M_high M_where M_latest M_lifts M_begun M_left M_has M_lifted M_taken M_above M_allLifts M_busy M_longest M_onto M_worst M_best M_orders M_together M_ofOne M_ofOther M_seed M_then M_was M_kept M_held M_kindOn M_figureOn M_sorts M_size M_items M_moved M_thrown fuel _ hc_3) ⟨hx, hb, hml, hown, hts⟩ (zcwV hts zm_194 zm_195 zm_196 zm_19 zm_193 rfl rfl zdv_X10_night ⟨Nat.le_of_ble_eq_true rfl, Nat.le_of_ble_eq_true rfl⟩) hA hK hZ hP hD hS [0, 1, 2, 3, 4, 5, 6, 7, 8, 9, 10, 11, 12, 13, 14, 15, 16, 17, 18, 19, 20, 21, 22, 23, 24, 25, 26, 27, 28, 29, 30, 31, 32, 33] [] [0, 1, 2, 3, 4, 5, 6, 7, 8, 9, 10, 11, 12, 13, 14, 15, 16, 17, 18, 19, 20, 21, 22, 23, 24, 25, 26, 27, 28, 29, 30, 31, 32, 33] rfl rfl rfl rfl rfl rfl rfl 7 0 rfl rfl rfl hl.1 (Nat.le_of_ble_eq_true rfl) dX10_sums_12 rfl (fun H locs hP hD hS => ?_)
    refine lv_istore_n (lv' := [(2, .int o_3.1), (0, .ref (ad_M 0)), (1, .int p1)]) hx hb dX10_sums_15 rfl hl (by decide) rfl (fun ls hl => ?_)
    refine lv_iconst (v := 0) hx hb dX10_sums_16 (by decide) ?_
    refine lv_istore_n (lv' := [(3, .int 0), (2, .int o_3.1), (0, .ref (ad_M 0)), (1, .int p1)]) hx hb dX10_sums_17 rfl hl (by decide) rfl (fun ls hl => ?_)
    refine lv_iconst (v := 0) hx hb dX10_sums_18 (by decide) ?_
    refine lv_istore (lv' := [(4, .int 0), (3, .int 0), (2, .int o_3.1), (0, .ref (ad_M 0)), (1, .int p1)]) hx hb dX10_sums_19 hl (by decide) rfl (fun ls hl => ?_)
    refine lv_iconst (v := 0) hx hb dX10_sums_21 (by decide) ?_
    refine lv_istore (lv' := [(5, .int 0), (4, .int 0), (3, .int 0), (2, .int o_3.1), (0, .ref (ad_M 0)), (1, .int p1)]) hx hb dX10_sums_22 hl (by decide) rfl (fun ls hl => ?_)
    exact l24 fuel o_3.1 0 0 0 o_3.2.1 o_3.2.2.1 o_3.2.2.2.1 o_3.2.2.2.2.1 o_3.2.2.2.2.2.1 o_3.2.2.2.2.2.2.1 o_3.2.2.2.2.2.2.2.1 o_3.2.2.2.2.2.2.2.2.1 o_3.2.2.2.2.2.2.2.2.2.1 o_3.2.2.2.2.2.2.2.2.2.2.1 o_3.2.2.2.2.2.2.2.2.2.2.2.1 o_3.2.2.2.2.2.2.2.2.2.2.2.2.1 o_3.2.2.2.2.2.2.2.2.2.2.2.2.2.1 o_3.2.2.2.2.2.2.2.2.2.2.2.2.2.2.1 o_3.2.2.2.2.2.2.2.2.2.2.2.2.2.2.2.1 o_3.2.2.2.2.2.2.2.2.2.2.2.2.2.2.2.2.1 o_3.2.2.2.2.2.2.2.2.2.2.2.2.2.2.2.2.2.1 o_3.2.2.2.2.2.2.2.2.2.2.2.2.2.2.2.2.2.2 _ _ hF hP hD hS ls (lv_sub hl [4, 5, 3, 2, 1, 0] rfl)
  · have hF := zt c_2 hF
    refine lv_iconst (v := (-1)) hx hb dX10_sums_9 (by decide) ?_
    obtain rfl := Option.some.inj hF
    exact hret _ _ _ _ hP hD hS rfl dX10_sums_10
abbrev roX10_missing : Room := { frames := 8, cells := 0, slots := 0, locals := 178 }
set_option maxHeartbeats 4000000 in
set_option maxRecDepth 100000 in
theorem kX10_missing (l : Launch) (D : va_G) (ca : Nat → ClassId) (t : Nat → Nat) (ad_M : Nat → Nat) (M_guests : Int32) (M_kind : Nat → Int32) (M_figure : Nat → Int32) (M_told : Nat → Int32) (M_heaps : Int32) (M_holds : Int32) (M_back : Int32) (M_mistakes : Int32) (M_hooks : Int32) (M_letters : Int32) (M_rule : Nat → Int32) (M_at : Int32) (M_well : Int32) (M_sort : Int32) (M_text : Int32) (M_row : Int32) (M_field : Nat → Int32) (M_fields : Int32) (M_begins : Nat → Int32) (M_ruleLetters : Nat → Int32) (M_coming : Nat → Int32) (M_comingMany : Int32) (M_going : Nat → Int32) (M_goingMany : Int32) (M_minute : Nat → Int32) (M_pile : Nat → Int32) (M_high : Nat → Int32) (M_where : Nat → Int32) (M_latest : Int32) (M_lifts : Nat → Int32) (M_begun : Nat → Int32) (M_left : Nat → Int32) (M_has : Nat → Int32) (M_lifted : Nat → Int32) (M_taken : Nat → Int32) (M_above : Nat → Int32) (M_allLifts : Int32) (M_busy : Int32) (M_longest : Nat → Int32) (M_onto : Nat → Int32) (M_worst : Int32) (M_best : Int32) (M_orders : Int32) (M_together : Int32) (M_ofOne : Nat → Int32) (M_ofOther : Nat → Int32) (M_seed : Int32) (M_then : Nat → Int32) (M_was : Nat → Int32) (M_kept : Int32) (M_held : Nat → Int32) (M_kindOn : Nat → Int32) (M_figureOn : Nat → Int32) (M_sorts : Nat → Int32) (M_size : Nat → Int32) (M_items : Nat → Int32) (M_moved : Nat → Int32) (M_thrown : Int32) (fuel : Nat) (o : Int32 × (Nat → Int32) × Int32 × (Nat → Int32) × Int32 × (Nat → Int32) × (Nat → Int32) × (Nat → Int32) × (Nat → Int32) × Int32 × (Nat → Int32) × (Nat → Int32) × (Nat → Int32) × (Nat → Int32) × (Nat → Int32) × (Nat → Int32) × (Nat → Int32) × Int32 × Int32) (hF : fX10_missing fuel M_guests M_kind M_figure M_told M_heaps M_holds M_back M_mistakes M_hooks M_letters M_rule M_coming M_comingMany M_going M_goingMany M_minute M_pile M_high M_where M_latest M_lifts M_begun M_left M_has M_lifted M_taken M_above M_allLifts M_busy = some o) : zMi l D (zT ca) t yX10_missing (.code yX10_missing cX10_missing 3 (some .int) :: zW) roX10_missing [.ref (ad_M 0)] (wX10_M ca ad_M M_guests M_kind M_figure M_told M_heaps M_holds M_back M_mistakes M_hooks M_letters M_rule M_at M_well M_sort M_text M_row M_field M_fields M_begins M_ruleLetters M_coming M_comingMany M_going M_goingMany M_minute M_pile M_high M_where M_latest M_lifts M_begun M_left M_has M_lifted M_taken M_above M_allLifts M_busy M_longest M_onto M_worst M_best M_orders M_together M_ofOne M_ofOther M_seed M_then M_was M_kept M_held M_kindOn M_figureOn M_sorts M_size M_items M_moved M_thrown) (wX10_M ca ad_M M_guests M_kind M_figure M_told M_heaps M_holds M_back M_mistakes M_hooks M_letters M_rule M_at M_well M_sort M_text M_row M_field M_fields M_begins M_ruleLetters o.2.1 o.2.2.1 o.2.2.2.1 o.2.2.2.2.1 o.2.2.2.2.2.1 o.2.2.2.2.2.2.1 o.2.2.2.2.2.2.2.1 o.2.2.2.2.2.2.2.2.1 o.2.2.2.2.2.2.2.2.2.1 o.2.2.2.2.2.2.2.2.2.2.1 o.2.2.2.2.2.2.2.2.2.2.2.1 o.2.2.2.2.2.2.2.2.2.2.2.2.1 o.2.2.2.2.2.2.2.2.2.2.2.2.2.1 o.2.2.2.2.2.2.2.2.2.2.2.2.2.2.1 o.2.2.2.2.2.2.2.2.2.2.2.2.2.2.2.1 o.2.2.2.2.2.2.2.2.2.2.2.2.2.2.2.2.1 o.2.2.2.2.2.2.2.2.2.2.2.2.2.2.2.2.2.1 o.2.2.2.2.2.2.2.2.2.2.2.2.2.2.2.2.2.2 M_longest M_onto M_worst M_best M_orders M_together M_ofOne M_ofOther M_seed M_then M_was M_kept M_held M_kindOn M_figureOn M_sorts M_size M_items M_moved M_thrown) o.1 := by
  refine zMi_of (cc := cX10_missing) (maxL := 3) (by decide) rfl (Nat.le_of_ble_eq_true rfl) ?_
  intro p e s m args below meth c A Q ls ⟨hx, hb, hml, hown, hts, hA, hK, hZ, hS⟩ hret hP hD hl
  have hts := fun w h => hts w (List.mem_cons_of_mem _ h)
  have hown : s.vm.findClass RX10 = some m.cls := hown
  have hl : lv_has ls 3 [(0, .ref (ad_M 0))] := hl
  have hin10 := zin_X10
  have l9 : ∀ (n9 : Nat) (v1 : Int32) (v2 : Int32) (M_coming : Nat → Int32) (M_comingMany : Int32) (M_going : Nat → Int32) (M_goingMany : Int32) (M_minute : Nat → Int32) (M_pile : Nat → Int32) (M_high : Nat → Int32) (M_where : Nat → Int32) (M_latest : Int32) (M_lifts : Nat → Int32) (M_begun : Nat → Int32) (M_left : Nat → Int32) (M_has : Nat → Int32) (M_lifted : Nat → Int32) (M_taken : Nat → Int32) (M_above : Nat → Int32) (M_allLifts : Int32) (M_busy : Int32) (H : Heap) (locs : List Loc), fX10_missing_L9 fuel M_guests M_kind M_figure n9 v1 v2 M_coming M_comingMany M_going M_goingMany M_minute M_pile M_high M_where M_latest M_lifts M_begun M_left M_has M_lifted M_taken M_above M_allLifts M_busy = some o → va_P D vwCl (wX10_M ca ad_M M_guests M_kind M_figure M_told M_heaps M_holds M_back M_mistakes M_hooks M_letters M_rule M_at M_well M_sort M_text M_row M_field M_fields M_begins M_ruleLetters M_coming M_comingMany M_going M_goingMany M_minute M_pile M_high M_where M_latest M_lifts M_begun M_left M_has M_lifted M_taken M_above M_allLifts M_busy M_longest M_onto M_worst M_best M_orders M_together M_ofOne M_ofOther M_seed M_then M_was M_kept M_held M_kindOn M_figureOn M_sorts M_size M_items M_moved M_thrown) H → va_D A (wX10_M ca ad_M M_guests M_kind M_figure M_told M_heaps M_holds M_back M_mistakes M_hooks M_letters M_rule M_at M_well M_sort M_text M_row M_field M_fields M_begins M_ruleLetters M_coming M_comingMany M_going M_goingMany M_minute M_pile M_high M_where M_latest M_lifts M_begun M_left M_has M_lifted M_taken M_above M_allLifts M_busy M_longest M_onto M_worst M_best M_orders M_together M_ofOne M_ofOther M_seed M_then M_was M_kept M_held M_kindOn M_figureOn M_sorts M_size M_items M_moved M_thrown) → va_S A s.heap H locs → ∀ ls : Array Slot, lv_has ls 3 [(0, .ref (ad_M 0)), (1, .int v1), (2, .int v2)] → W p l e roX10_missing s m args below meth c H locs 0 0 Q (F0 m 9 ls []) := by
    intro n9
    induction n9 with
    | zero =>
      intro v1 v2 M_coming M_comingMany M_going M_goingMany M_minute M_pile M_high M_where M_latest M_lifts M_begun M_left M_has M_lifted M_taken M_above M_allLifts M_busy H locs hF
      rw [fX10_missing_L9] at hF
      cases hF
    | succ n9 ih9 =>
      intro v1 v2 M_coming M_comingMany M_going M_goingMany M_minute M_pile M_high M_where M_latest M_lifts M_begun M_left M_has M_lifted M_taken M_above M_allLifts M_busy H locs hF hP hD hS ls hl
      rw [fX10_missing_L9] at hF
      refine lv_iload_n hx hb dX10_missing_9 rfl (lv_at hl 2 rfl) ?_
      refine lv_aload_n hx hb dX10_missing_10 rfl (lv_at hl 0 rfl) ?_
      refine va_get (D := D) (ci := 7) (v := .int M_guests) (C := RX10) (T := TX10) (N := 58) hx hb hts hin10 hown hK hP 0 rfl rfl 0 (by decide) (hts _ zm_16) (fun _ h9 => h9) rfl dX10_missing_11 ?_
      refine lv_icmp_ge (tgt := 41) hx hb dX10_missing_14 (by decide) (fun c_2 => ?_) (fun c_2 => ?_)
      · have hF := zt c_2 hF
        refine lv_iload_n hx hb dX10_missing_41 rfl (lv_at hl 1 rfl) ?_
        obtain rfl := Option.some.inj hF
        exact hret _ _ _ _ hP hD hS rfl dX10_missing_42
      · have hF := zf c_2 hF
        refine lv_iload_n hx hb dX10_missing_17 rfl (lv_at hl 1 rfl) ?_
        refine lv_aload_n hx hb dX10_missing_18 rfl (lv_at hl 0 rfl) ?_
        refine lv_iload_n hx hb dX10_missing_19 rfl (lv_at hl 2 rfl) ?_
        obtain ⟨o_3, hc_3, hF⟩ := zb hF
        refine zcVR (rest := [.int v1]) (kX10_misses l D ca t ad_M M_guests M_kind M_figure M_told M_heaps M_holds M_back M_mistakes M_hooks M_letters M_rule M_at M_well M_sort M_text M_row M_field M_fields M_begins M_ruleLetters M_coming M_comingMany M_going M_goingMany M_minute M_pile M_high M_where M_latest M_lifts M_begun M_left M_has M_lifted M_taken M_above M_allLifts M_busy M_longest M_onto M_worst M_best M_orders M_together M_ofOne M_ofOther M_seed M_then M_was M_kept M_held M_kindOn M_figureOn M_sorts M_size M_items M_moved M_thrown v2 fuel _ hc_3) ⟨hx, hb, hml, hown, hts⟩ (zcwV hts zm_202 zm_203 zm_204 zm_19 zm_201 rfl rfl zdv_X10_misses ⟨Nat.le_of_ble_eq_true rfl, Nat.le_of_ble_eq_true rfl⟩) hA hK hZ hP hD hS [0, 1, 2, 3, 4, 5, 6, 7, 8, 9, 10, 11, 12, 13, 14, 15, 16, 17, 18, 19, 20, 21, 22, 23, 24, 25, 26, 27, 28, 29, 30, 31, 32, 33] rfl rfl 7 0 rfl rfl rfl hl.1 (Nat.le_of_ble_eq_true rfl) dX10_missing_20 rfl ?_
        refine lv_if_eq (tgt := 32) hx hb dX10_missing_23 (by decide) (fun c_4 => ?_) (fun c_4 => ?_)
        · have hF := zt c_4 hF
          refine lv_iconst (v := 0) hx hb dX10_missing_32 (by decide) ?_
          refine lv_ior hx hb dX10_missing_33 ?_
          refine z_let hF (fun v1_5 hF => ?_)
          refine lv_istore_n (lv' := [(1, .int v1_5), (0, .ref (ad_M 0)), (2, .int v2)]) hx hb dX10_missing_34 rfl hl (by decide) rfl (fun ls hl => ?_)
          refine z_iinc (kv := 1) hx hb 2 dX10_missing_35 hl rfl (by decide) (by decide) (fun g => [(2, .int g), (1, .int v1_5), (0, .ref (ad_M 0))]) (fun _ => rfl) hF (fun v2_6 ls hF hl => ?_)
          refine lv_goto (tgt := 9) hx hb dX10_missing_38 (by decide) ?_
          exact ih9 v1_5 v2_6 M_coming M_comingMany M_going M_goingMany M_minute M_pile M_high M_where M_latest M_lifts M_begun M_left M_has M_lifted M_taken M_above M_allLifts M_busy _ _ hF hP hD hS ls (lv_sub hl [2, 1, 0] rfl)
        · have hF := zf c_4 hF
          refine lv_iconst (v := 1) hx hb dX10_missing_26 (by decide) ?_
          refine lv_iload_n hx hb dX10_missing_27 rfl (lv_at hl 2 rfl) ?_
          refine lv_ishl hx hb dX10_missing_28 ?_
          refine lv_goto (tgt := 33) hx hb dX10_missing_29 (by decide) ?_
          refine lv_ior hx hb dX10_missing_33 ?_
          refine z_let hF (fun v1_7 hF => ?_)
          refine lv_istore_n (lv' := [(1, .int v1_7), (0, .ref (ad_M 0)), (2, .int v2)]) hx hb dX10_missing_34 rfl hl (by decide) rfl (fun ls hl => ?_)
          refine z_iinc (kv := 1) hx hb 2 dX10_missing_35 hl rfl (by decide) (by decide) (fun g => [(2, .int g), (1, .int v1_7), (0, .ref (ad_M 0))]) (fun _ => rfl) hF (fun v2_8 ls hF hl => ?_)
          refine lv_goto (tgt := 9) hx hb dX10_missing_38 (by decide) ?_
          exact ih9 v1_7 v2_8 M_coming M_comingMany M_going M_goingMany M_minute M_pile M_high M_where M_latest M_lifts M_begun M_left M_has M_lifted M_taken M_above M_allLifts M_busy _ _ hF hP hD hS ls (lv_sub hl [2, 1, 0] rfl)
  unfold fX10_missing at hF
  refine lv_aload_n hx hb dX10_missing_0 rfl (lv_at hl 0 rfl) ?_
  obtain ⟨o_1, hc_1, hF⟩ := zb hF
  refine zcVi (rest := []) (ws' := (wX10_M ca ad_M M_guests M_kind M_figure M_told M_heaps M_holds M_back M_mistakes M_hooks M_letters M_rule M_at M_well M_sort M_text M_row M_field M_fields M_begins M_ruleLetters o_1.2.1 o_1.2.2.1 o_1.2.2.2.1 o_1.2.2.2.2.1 o_1.2.2.2.2.2.1 o_1.2.2.2.2.2.2.1 o_1.2.2.2.2.2.2.2.1 o_1.2.2.2.2.2.2.2.2.1 o_1.2.2.2.2.2.2.2.2.2.1 o_1.2.2.2.2.2.2.2.2.2.2.1 o_1.2.2.2.2.2.2.2.2.2.2.2.1 o_1.2.2.2.2.2.2.2.2.2.2.2.2.1 o_1.2.2.2.2.2.2.2.2.2.2.2.2.2.1 o_1.2.2.2.2.2.2.2.2.2.2.2.2.2.2.1 o_1.2.2.2.2.2.2.2.2.2.2.2.2.2.2.2.1 o_1.2.2.2.2.2.2.2.2.2.2.2.2.2.2.2.2.1 o_1.2.2.2.2.2.2.2.2.2.2.2.2.2.2.2.2.2.1 o_1.2.2.2.2.2.2.2.2.2.2.2.2.2.2.2.2.2.2 M_longest M_onto M_worst M_best M_orders M_together M_ofOne M_ofOther M_seed M_then M_was M_kept M_held M_kindOn M_figureOn M_sorts M_size M_items M_moved M_thrown)) (kX10_night l D ca t ad_M M_guests M_kind M_figure M_told M_heaps M_holds M_back M_mistakes M_hooks M_letters M_rule M_at M_well M_sort M_text M_row M_field M_fields M_begins M_ruleLetters M_coming M_comingMany M_going M_goingMany M_minute M_pile M_high M_where M_latest M_lifts M_begun M_left M_has M_lifted M_taken M_above M_allLifts M_busy M_longest M_onto M_worst M_best M_orders M_together M_ofOne M_ofOther M_seed M_then M_was M_kept M_held M_kindOn M_figureOn M_sorts M_size M_items M_moved M_thrown fuel _ hc_1) ⟨hx, hb, hml, hown, hts⟩ (zcwV hts zm_194 zm_195 zm_196 zm_19 zm_193 rfl rfl zdv_X10_night ⟨Nat.le_of_ble_eq_true rfl, Nat.le_of_ble_eq_true rfl⟩) hA hK hZ hP hD hS [0, 1, 2, 3, 4, 5, 6, 7, 8, 9, 10, 11, 12, 13, 14, 15, 16, 17, 18, 19, 20, 21, 22, 23, 24, 25, 26, 27, 28, 29, 30, 31, 32, 33] [] [0, 1, 2, 3, 4, 5, 6, 7, 8, 9, 10, 11, 12, 13, 14, 15, 16, 17, 18, 19, 20, 21, 22, 23, 24, 25, 26, 27, 28, 29, 30, 31, 32, 33] rfl rfl rfl rfl rfl rfl rfl 7 0 rfl rfl rfl hl.1 (Nat.le_of_ble_eq_true rfl) dX10_missing_1 rfl (fun H locs hP hD hS => ?_)
  refine lv_pop hx hb dX10_missing_4 rfl ?_
  refine lv_iconst (v := 0) hx hb dX10_missing_5 (by decide) ?_
  refine lv_istore_n (lv' := [(1, .int 0), (0, .ref (ad_M 0))]) hx hb dX10_missing_6 rfl hl (by decide) rfl (fun ls hl => ?_)
  refine lv_iconst (v := 0) hx hb dX10_missing_7 (by decide) ?_
  refine lv_istore_n (lv' := [(2, .int 0), (1, .int 0), (0, .ref (ad_M 0))]) hx hb dX10_missing_8 rfl hl (by decide) rfl (fun ls hl => ?_)
  exact l9 fuel 0 0 o_1.2.1 o_1.2.2.1 o_1.2.2.2.1 o_1.2.2.2.2.1 o_1.2.2.2.2.2.1 o_1.2.2.2.2.2.2.1 o_1.2.2.2.2.2.2.2.1 o_1.2.2.2.2.2.2.2.2.1 o_1.2.2.2.2.2.2.2.2.2.1 o_1.2.2.2.2.2.2.2.2.2.2.1 o_1.2.2.2.2.2.2.2.2.2.2.2.1 o_1.2.2.2.2.2.2.2.2.2.2.2.2.1 o_1.2.2.2.2.2.2.2.2.2.2.2.2.2.1 o_1.2.2.2.2.2.2.2.2.2.2.2.2.2.2.1 o_1.2.2.2.2.2.2.2.2.2.2.2.2.2.2.2.1 o_1.2.2.2.2.2.2.2.2.2.2.2.2.2.2.2.2.1 o_1.2.2.2.2.2.2.2.2.2.2.2.2.2.2.2.2.2.1 o_1.2.2.2.2.2.2.2.2.2.2.2.2.2.2.2.2.2.2 _ _ hF hP hD hS ls (lv_sub hl [2, 1, 0] rfl)
abbrev roX10_then : Room := { frames := 6, cells := 0, slots := 0, locals := 138 }
set_option maxHeartbeats 4000000 in
set_option maxRecDepth 100000 in
theorem kX10_then (l : Launch) (D : va_G) (ca : Nat → ClassId) (t : Nat → Nat) (ad_M : Nat → Nat) (M_guests : Int32) (M_kind : Nat → Int32) (M_figure : Nat → Int32) (M_told : Nat → Int32) (M_heaps : Int32) (M_holds : Int32) (M_back : Int32) (M_mistakes : Int32) (M_hooks : Int32) (M_letters : Int32) (M_rule : Nat → Int32) (M_at : Int32) (M_well : Int32) (M_sort : Int32) (M_text : Int32) (M_row : Int32) (M_field : Nat → Int32) (M_fields : Int32) (M_begins : Nat → Int32) (M_ruleLetters : Nat → Int32) (M_coming : Nat → Int32) (M_comingMany : Int32) (M_going : Nat → Int32) (M_goingMany : Int32) (M_minute : Nat → Int32) (M_pile : Nat → Int32) (M_high : Nat → Int32) (M_where : Nat → Int32) (M_latest : Int32) (M_lifts : Nat → Int32) (M_begun : Nat → Int32) (M_left : Nat → Int32) (M_has : Nat → Int32) (M_lifted : Nat → Int32) (M_taken : Nat → Int32) (M_above : Nat → Int32) (M_allLifts : Int32) (M_busy : Int32) (M_longest : Nat → Int32) (M_onto : Nat → Int32) (M_worst : Int32) (M_best : Int32) (M_orders : Int32) (M_together : Int32) (M_ofOne : Nat → Int32) (M_ofOther : Nat → Int32) (M_seed : Int32) (M_then : Nat → Int32) (M_was : Nat → Int32) (M_kept : Int32) (M_held : Nat → Int32) (M_kindOn : Nat → Int32) (M_figureOn : Nat → Int32) (M_sorts : Nat → Int32) (M_size : Nat → Int32) (M_items : Nat → Int32) (M_moved : Nat → Int32) (M_thrown : Int32) (p1 : Int32) (p2 : Int32) (p3 : Int32) (fuel : Nat) (o : Int32 × (Nat → Int32) × Int32 × (Nat → Int32) × Int32 × (Nat → Int32) × (Nat → Int32) × (Nat → Int32) × (Nat → Int32) × Int32 × (Nat → Int32) × (Nat → Int32) × (Nat → Int32) × (Nat → Int32) × (Nat → Int32) × (Nat → Int32) × (Nat → Int32) × Int32 × Int32) (hF : fX10_then fuel M_guests M_kind M_figure M_told M_heaps M_holds M_back M_mistakes M_hooks M_letters M_rule M_coming M_comingMany M_going M_goingMany M_minute M_pile M_high M_where M_latest M_lifts M_begun M_left M_has M_lifted M_taken M_above M_allLifts M_busy p1 p2 p3 = some o) : zMi l D (zT ca) t yX10_then (.code yX10_then cX10_then 4 (some .int) :: zW) roX10_then [.ref (ad_M 0), .int p1, .int p2, .int p3] (wX10_M ca ad_M M_guests M_kind M_figure M_told M_heaps M_holds M_back M_mistakes M_hooks M_letters M_rule M_at M_well M_sort M_text M_row M_field M_fields M_begins M_ruleLetters M_coming M_comingMany M_going M_goingMany M_minute M_pile M_high M_where M_latest M_lifts M_begun M_left M_has M_lifted M_taken M_above M_allLifts M_busy M_longest M_onto M_worst M_best M_orders M_together M_ofOne M_ofOther M_seed M_then M_was M_kept M_held M_kindOn M_figureOn M_sorts M_size M_items M_moved M_thrown) (wX10_M ca ad_M M_guests M_kind M_figure M_told M_heaps M_holds M_back M_mistakes M_hooks M_letters M_rule M_at M_well M_sort M_text M_row M_field M_fields M_begins M_ruleLetters o.2.1 o.2.2.1 o.2.2.2.1 o.2.2.2.2.1 o.2.2.2.2.2.1 o.2.2.2.2.2.2.1 o.2.2.2.2.2.2.2.1 o.2.2.2.2.2.2.2.2.1 o.2.2.2.2.2.2.2.2.2.1 o.2.2.2.2.2.2.2.2.2.2.1 o.2.2.2.2.2.2.2.2.2.2.2.1 o.2.2.2.2.2.2.2.2.2.2.2.2.1 o.2.2.2.2.2.2.2.2.2.2.2.2.2.1 o.2.2.2.2.2.2.2.2.2.2.2.2.2.2.1 o.2.2.2.2.2.2.2.2.2.2.2.2.2.2.2.1 o.2.2.2.2.2.2.2.2.2.2.2.2.2.2.2.2.1 o.2.2.2.2.2.2.2.2.2.2.2.2.2.2.2.2.2.1 o.2.2.2.2.2.2.2.2.2.2.2.2.2.2.2.2.2.2 M_longest M_onto M_worst M_best M_orders M_together M_ofOne M_ofOther M_seed M_then M_was M_kept M_held M_kindOn M_figureOn M_sorts M_size M_items M_moved M_thrown) o.1 := by
  refine zMi_of (cc := cX10_then) (maxL := 4) (by decide) rfl (Nat.le_of_ble_eq_true rfl) ?_
  intro p e s m args below meth c A Q ls ⟨hx, hb, hml, hown, hts, hA, hK, hZ, hS⟩ hret hP hD hl
  have hts := fun w h => hts w (List.mem_cons_of_mem _ h)
  have hown : s.vm.findClass RX10 = some m.cls := hown
  have hl : lv_has ls 4 [(0, .ref (ad_M 0)), (1, .int p1), (2, .int p2), (3, .int p3)] := hl
  have hin10 := zin_X10
  unfold fX10_then at hF
  refine lv_iload_n hx hb dX10_then_0 rfl (lv_at hl 1 rfl) ?_
  refine lv_iconst (v := 0) hx hb dX10_then_1 (by decide) ?_
  refine lv_aload_n hx hb dX10_then_2 rfl (lv_at hl 0 rfl) ?_
  refine va_get (D := D) (ci := 7) (v := .int M_guests) (C := RX10) (T := TX10) (N := 58) hx hb hts hin10 hown hK hP 0 rfl rfl 0 (by decide) (hts _ zm_16) (fun _ h9 => h9) rfl dX10_then_3 ?_
  obtain ⟨o_1, hc_1, hF⟩ := zb hF
  refine zcSR (rest := []) (kX10_isIn l D ca t p1 0 M_guests fuel _ hc_1) ⟨hx, hb, hml, hown, hts⟩ (zcwS hts zm_20 zm_18 zm_19 zm_17 rfl rfl zds_X10_isIn ⟨Nat.le_of_ble_eq_true rfl, Nat.le_of_ble_eq_true rfl⟩) hA hK hZ hP hD hS [] rfl rfl rfl hl.1 (Nat.le_of_ble_eq_true rfl) dX10_then_6 rfl ?_
  refine lv_if_eq (tgt := 25) hx hb dX10_then_9 (by decide) (fun c_2 => ?_) (fun c_2 => ?_)
  · have hF := zt c_2 hF
    refine lv_iconst (v := (-1)) hx hb dX10_then_25 (by decide) ?_
    obtain rfl := Option.some.inj hF
    exact hret _ _ _ _ hP hD hS rfl dX10_then_26
  · have hF := zf c_2 hF
    refine lv_iload_n hx hb dX10_then_12 rfl (lv_at hl 2 rfl) ?_
    refine lv_iconst (v := 0) hx hb dX10_then_13 (by decide) ?_
    refine lv_iconst (v := 2) hx hb dX10_then_14 (by decide) ?_
    obtain ⟨o_3, hc_3, hF⟩ := zb hF
    refine zcSR (rest := []) (kX10_isIn l D ca t p2 0 2 fuel _ hc_3) ⟨hx, hb, hml, hown, hts⟩ (zcwS hts zm_20 zm_18 zm_19 zm_17 rfl rfl zds_X10_isIn ⟨Nat.le_of_ble_eq_true rfl, Nat.le_of_ble_eq_true rfl⟩) hA hK hZ hP hD hS [] rfl rfl rfl hl.1 (Nat.le_of_ble_eq_true rfl) dX10_then_15 rfl ?_
    refine lv_if_eq (tgt := 25) hx hb dX10_then_18 (by decide) (fun c_4 => ?_) (fun c_4 => ?_)
    · have hF := zt c_4 hF
      refine lv_iconst (v := (-1)) hx hb dX10_then_25 (by decide) ?_
      obtain rfl := Option.some.inj hF
      exact hret _ _ _ _ hP hD hS rfl dX10_then_26
    · have hF := zf c_4 hF
      refine lv_iload_n hx hb dX10_then_21 rfl (lv_at hl 3 rfl) ?_
      refine lv_if_ge (tgt := 27) hx hb dX10_then_22 (by decide) (fun c_5 => ?_) (fun c_5 => ?_)
      · have hF := zt c_5 hF
        refine lv_aload_n hx hb dX10_then_27 rfl (lv_at hl 0 rfl) ?_
        obtain ⟨o_6, hc_6, hF⟩ := zb hF
        refine zcVv (rest := []) (ws' := (wX10_M ca ad_M M_guests M_kind M_figure M_told M_heaps M_holds M_back M_mistakes M_hooks M_letters M_rule M_at M_well M_sort M_text M_row M_field M_fields M_begins M_ruleLetters o_6.1 o_6.2.1 o_6.2.2.1 o_6.2.2.2.1 o_6.2.2.2.2 M_pile M_high M_where M_latest M_lifts M_begun M_left M_has M_lifted M_taken M_above M_allLifts M_busy M_longest M_onto M_worst M_best M_orders M_together M_ofOne M_ofOther M_seed M_then M_was M_kept M_held M_kindOn M_figureOn M_sorts M_size M_items M_moved M_thrown)) (kX10_usual l D ca t ad_M M_guests M_kind M_figure M_told M_heaps M_holds M_back M_mistakes M_hooks M_letters M_rule M_at M_well M_sort M_text M_row M_field M_fields M_begins M_ruleLetters M_coming M_comingMany M_going M_goingMany M_minute M_pile M_high M_where M_latest M_lifts M_begun M_left M_has M_lifted M_taken M_above M_allLifts M_busy M_longest M_onto M_worst M_best M_orders M_together M_ofOne M_ofOther M_seed M_then M_was M_kept M_held M_kindOn M_figureOn M_sorts M_size M_items M_moved M_thrown fuel _ hc_6) ⟨hx, hb, hml, hown, hts⟩ (zcwV hts zm_186 zm_187 zm_188 zm_19 zm_185 rfl rfl zdv_X10_usual ⟨Nat.le_of_ble_eq_true rfl, Nat.le_of_ble_eq_true rfl⟩) hA hK hZ hP hD hS [0, 1, 2, 3, 4, 5, 6, 7, 8, 9, 10, 11, 12, 13, 14, 15, 16, 17, 18, 19, 20, 21, 22, 23, 24, 25, 26, 27, 28, 29, 30, 31, 32, 33] [] [0, 1, 2, 3, 4, 5, 6, 7, 8, 9, 10, 11, 12, 13, 14, 15, 16, 17, 18, 19, 20, 21, 22, 23, 24, 25, 26, 27, 28, 29, 30, 31, 32, 33] rfl rfl rfl rfl rfl rfl rfl 7 0 rfl rfl rfl hl.1 (Nat.le_of_ble_eq_true rfl) dX10_then_28 rfl (fun H locs hP hD hS => ?_)
        refine lv_aload_n hx hb dX10_then_31 rfl (lv_at hl 0 rfl) ?_
        obtain ⟨o_7, hc_7, hF⟩ := zb hF
        refine zcVv (rest := []) (ws' := (wX10_M ca ad_M M_guests M_kind M_figure M_told M_heaps M_holds M_back M_mistakes M_hooks M_letters M_rule M_at M_well M_sort M_text M_row M_field M_fields M_begins M_ruleLetters o_6.1 o_6.2.1 o_6.2.2.1 o_6.2.2.2.1 o_6.2.2.2.2 o_7.1 o_7.2.1 o_7.2.2.1 o_7.2.2.2 M_lifts M_begun M_left M_has M_lifted M_taken M_above M_allLifts M_busy M_longest M_onto M_worst M_best M_orders M_together M_ofOne M_ofOther M_seed M_then M_was M_kept M_held M_kindOn M_figureOn M_sorts M_size M_items M_moved M_thrown)) (kX10_lay l D ca t ad_M M_guests M_kind M_figure M_told M_heaps M_holds M_back M_mistakes M_hooks M_letters M_rule M_at M_well M_sort M_text M_row M_field M_fields M_begins M_ruleLetters o_6.1 o_6.2.1 o_6.2.2.1 o_6.2.2.2.1 o_6.2.2.2.2 M_pile M_high M_where M_latest M_lifts M_begun M_left M_has M_lifted M_taken M_above M_allLifts M_busy M_longest M_onto M_worst M_best M_orders M_together M_ofOne M_ofOther M_seed M_then M_was M_kept M_held M_kindOn M_figureOn M_sorts M_size M_items M_moved M_thrown fuel _ hc_7) ⟨hx, hb, hml, hown, hts⟩ (zcwV hts zm_177 zm_178 zm_179 zm_19 zm_176 rfl rfl zdv_X10_lay ⟨Nat.le_of_ble_eq_true rfl, Nat.le_of_ble_eq_true rfl⟩) hA hK hZ hP hD hS [0, 1, 2, 3, 4, 5, 6, 7, 8, 9, 10, 11, 12, 13, 14, 15, 16, 17, 18, 19, 20, 21, 22, 23, 24, 25, 26, 27, 28, 29, 30, 31, 32, 33] [] [0, 1, 2, 3, 4, 5, 6, 7, 8, 9, 10, 11, 12, 13, 14, 15, 16, 17, 18, 19, 20, 21, 22, 23, 24, 25, 26, 27, 28, 29, 30, 31, 32, 33] rfl rfl rfl rfl rfl rfl rfl 7 0 rfl rfl rfl hl.1 (Nat.le_of_ble_eq_true rfl) dX10_then_32 rfl (fun H locs hP hD hS => ?_)
        refine lv_aload_n hx hb dX10_then_35 rfl (lv_at hl 0 rfl) ?_
        refine lv_iload_n hx hb dX10_then_36 rfl (lv_at hl 1 rfl) ?_
        refine lv_ldcw hx hb hown (hts _ zm_180) dX10_then_37 ?_
        obtain ⟨o_8, hc_8, hF⟩ := zb hF
        refine zcVi (rest := []) (ws' := (wX10_M ca ad_M M_guests M_kind M_figure M_told M_heaps M_holds M_back M_mistakes M_hooks M_letters M_rule M_at M_well M_sort M_text M_row M_field M_fields M_begins M_ruleLetters o_6.1 o_6.2.1 o_6.2.2.1 o_6.2.2.2.1 o_6.2.2.2.2 o_8.2.1 o_8.2.2.1 o_7.2.2.1 o_7.2.2.2 o_8.2.2.2.1 o_8.2.2.2.2.1 o_8.2.2.2.2.2.1 o_8.2.2.2.2.2.2.1 o_8.2.2.2.2.2.2.2.1 o_8.2.2.2.2.2.2.2.2.1 o_8.2.2.2.2.2.2.2.2.2.1 o_8.2.2.2.2.2.2.2.2.2.2.1 o_8.2.2.2.2.2.2.2.2.2.2.2 M_longest M_onto M_worst M_best M_orders M_together M_ofOne M_ofOther M_seed M_then M_was M_kept M_held M_kindOn M_figureOn M_sorts M_size M_items M_moved M_thrown)) (kX10_go l D ca t ad_M M_guests M_kind M_figure M_told M_heaps M_holds M_back M_mistakes M_hooks M_letters M_rule M_at M_well M_sort M_text M_row M_field M_fields M_begins M_ruleLetters o_6.1 o_6.2.1 o_6.2.2.1 o_6.2.2.2.1 o_6.2.2.2.2 o_7.1 o_7.2.1 o_7.2.2.1 o_7.2.2.2 M_lifts M_begun M_left M_has M_lifted M_taken M_above M_allLifts M_busy M_longest M_onto M_worst M_best M_orders M_together M_ofOne M_ofOther M_seed M_then M_was M_kept M_held M_kindOn M_figureOn M_sorts M_size M_items M_moved M_thrown p1 1000000 fuel _ hc_8) ⟨hx, hb, hml, hown, hts⟩ (zcwV hts zm_182 zm_183 zm_184 zm_19 zm_181 rfl rfl zdv_X10_go ⟨Nat.le_of_ble_eq_true rfl, Nat.le_of_ble_eq_true rfl⟩) hA hK hZ hP hD hS [0, 1, 2, 3, 4, 5, 6, 7, 8, 9, 10, 11, 12, 13, 14, 15, 16, 17, 18, 19, 20, 21, 22, 23, 24, 25, 26, 27, 28, 29, 30, 31, 32, 33] [] [0, 1, 2, 3, 4, 5, 6, 7, 8, 9, 10, 11, 12, 13, 14, 15, 16, 17, 18, 19, 20, 21, 22, 23, 24, 25, 26, 27, 28, 29, 30, 31, 32, 33] rfl rfl rfl rfl rfl rfl rfl 7 0 rfl rfl rfl hl.1 (Nat.le_of_ble_eq_true rfl) dX10_then_40 rfl (fun H locs hP hD hS => ?_)
        refine lv_pop hx hb dX10_then_43 rfl ?_
        refine lv_iload_n hx hb dX10_then_44 rfl (lv_at hl 3 rfl) ?_
        refine lv_aload_n hx hb dX10_then_45 rfl (lv_at hl 0 rfl) ?_
        refine va_get (D := D) (ci := 7) (v := .ref (ad_M 12)) (C := RX10) (T := TX10) (N := 58) hx hb hts hin10 hown hK hP 0 rfl rfl 26 (by decide) (hts _ zm_107) (fun _ h9 => h9) rfl dX10_then_46 ?_
        refine lv_iload_n hx hb dX10_then_49 rfl (lv_at hl 2 rfl) ?_
        obtain ⟨h_9, hF⟩ := zgi hF
        refine va_iald hx hb hK hP 12 0 rfl rfl h_9 dX10_then_50 ?_
        refine lv_icmp_ge (tgt := 68) hx hb dX10_then_51 (by decide) (fun c_10 => ?_) (fun c_10 => ?_)
        · have hF := zt c_10 hF
          refine lv_bipush (v := (-4)) hx hb dX10_then_68 (by decide) ?_
          obtain rfl := Option.some.inj hF
          exact hret _ _ _ _ hP hD hS rfl dX10_then_70
        · have hF := zf c_10 hF
          refine lv_aload_n hx hb dX10_then_54 rfl (lv_at hl 0 rfl) ?_
          refine va_get (D := D) (ci := 7) (v := .ref (ad_M 11)) (C := RX10) (T := TX10) (N := 58) hx hb hts hin10 hown hK hP 0 rfl rfl 25 (by decide) (hts _ zm_108) (fun _ h9 => h9) rfl dX10_then_55 ?_
          refine lv_bipush (v := 10) hx hb dX10_then_58 (by decide) ?_
          refine lv_iload_n hx hb dX10_then_60 rfl (lv_at hl 2 rfl) ?_
          refine lv_imul hx hb dX10_then_61 ?_
          refine lv_iload_n hx hb dX10_then_62 rfl (lv_at hl 3 rfl) ?_
          refine lv_iadd hx hb dX10_then_63 ?_
          obtain ⟨h_11, hF⟩ := zgi hF
          refine va_iald hx hb hK hP 11 0 rfl rfl h_11 dX10_then_64 ?_
          refine lv_goto (tgt := 70) hx hb dX10_then_65 (by decide) ?_
          obtain rfl := Option.some.inj hF
          exact hret _ _ _ _ hP hD hS rfl dX10_then_70
      · have hF := zf c_5 hF
        refine lv_iconst (v := (-1)) hx hb dX10_then_25 (by decide) ?_
        obtain rfl := Option.some.inj hF
        exact hret _ _ _ _ hP hD hS rfl dX10_then_26
abbrev roX10_order : Room := { frames := 4, cells := 0, slots := 0, locals := 87 }
set_option maxHeartbeats 4000000 in
set_option maxRecDepth 100000 in
theorem kX10_order (l : Launch) (D : va_G) (ca : Nat → ClassId) (t : Nat → Nat) (ad_M : Nat → Nat) (M_guests : Int32) (M_kind : Nat → Int32) (M_figure : Nat → Int32) (M_told : Nat → Int32) (M_heaps : Int32) (M_holds : Int32) (M_back : Int32) (M_mistakes : Int32) (M_hooks : Int32) (M_letters : Int32) (M_rule : Nat → Int32) (M_at : Int32) (M_well : Int32) (M_sort : Int32) (M_text : Int32) (M_row : Int32) (M_field : Nat → Int32) (M_fields : Int32) (M_begins : Nat → Int32) (M_ruleLetters : Nat → Int32) (M_coming : Nat → Int32) (M_comingMany : Int32) (M_going : Nat → Int32) (M_goingMany : Int32) (M_minute : Nat → Int32) (M_pile : Nat → Int32) (M_high : Nat → Int32) (M_where : Nat → Int32) (M_latest : Int32) (M_lifts : Nat → Int32) (M_begun : Nat → Int32) (M_left : Nat → Int32) (M_has : Nat → Int32) (M_lifted : Nat → Int32) (M_taken : Nat → Int32) (M_above : Nat → Int32) (M_allLifts : Int32) (M_busy : Int32) (M_longest : Nat → Int32) (M_onto : Nat → Int32) (M_worst : Int32) (M_best : Int32) (M_orders : Int32) (M_together : Int32) (M_ofOne : Nat → Int32) (M_ofOther : Nat → Int32) (M_seed : Int32) (M_then : Nat → Int32) (M_was : Nat → Int32) (M_kept : Int32) (M_held : Nat → Int32) (M_kindOn : Nat → Int32) (M_figureOn : Nat → Int32) (M_sorts : Nat → Int32) (M_size : Nat → Int32) (M_items : Nat → Int32) (M_moved : Nat → Int32) (M_thrown : Int32) (p1 : Int32) (fuel : Nat) (o : Int32 × (Nat → Int32) × Int32 × (Nat → Int32) × Int32 × (Nat → Int32)) (hF : fX10_order fuel M_guests M_kind M_figure M_told M_coming M_comingMany M_going M_goingMany M_minute p1 = some o) : zMi l D (zT ca) t yX10_order (.code yX10_order cX10_order 2 (some .int) :: zW) roX10_order [.ref (ad_M 0), .int p1] (wX10_M ca ad_M M_guests M_kind M_figure M_told M_heaps M_holds M_back M_mistakes M_hooks M_letters M_rule M_at M_well M_sort M_text M_row M_field M_fields M_begins M_ruleLetters M_coming M_comingMany M_going M_goingMany M_minute M_pile M_high M_where M_latest M_lifts M_begun M_left M_has M_lifted M_taken M_above M_allLifts M_busy M_longest M_onto M_worst M_best M_orders M_together M_ofOne M_ofOther M_seed M_then M_was M_kept M_held M_kindOn M_figureOn M_sorts M_size M_items M_moved M_thrown) (wX10_M ca ad_M M_guests M_kind M_figure M_told M_heaps M_holds M_back M_mistakes M_hooks M_letters M_rule M_at M_well M_sort M_text M_row M_field M_fields M_begins M_ruleLetters o.2.1 o.2.2.1 o.2.2.2.1 o.2.2.2.2.1 o.2.2.2.2.2 M_pile M_high M_where M_latest M_lifts M_begun M_left M_has M_lifted M_taken M_above M_allLifts M_busy M_longest M_onto M_worst M_best M_orders M_together M_ofOne M_ofOther M_seed M_then M_was M_kept M_held M_kindOn M_figureOn M_sorts M_size M_items M_moved M_thrown) o.1 := by
  refine zMi_of (cc := cX10_order) (maxL := 2) (by decide) rfl (Nat.le_of_ble_eq_true rfl) ?_
  intro p e s m args below meth c A Q ls ⟨hx, hb, hml, hown, hts, hA, hK, hZ, hS⟩ hret hP hD hl
  have hts := fun w h => hts w (List.mem_cons_of_mem _ h)
  have hown : s.vm.findClass RX10 = some m.cls := hown
  have hl : lv_has ls 2 [(0, .ref (ad_M 0)), (1, .int p1)] := hl
  have hin10 := zin_X10
  unfold fX10_order at hF
  refine lv_iload_n hx hb dX10_order_0 rfl (lv_at hl 1 rfl) ?_
  refine lv_if_ge (tgt := 6) hx hb dX10_order_1 (by decide) (fun c_1 => ?_) (fun c_1 => ?_)
  · have hF := zt c_1 hF
    refine lv_aload_n hx hb dX10_order_6 rfl (lv_at hl 0 rfl) ?_
    obtain ⟨o_2, hc_2, hF⟩ := zb hF
    refine zcVv (rest := []) (ws' := (wX10_M ca ad_M M_guests M_kind M_figure M_told M_heaps M_holds M_back M_mistakes M_hooks M_letters M_rule M_at M_well M_sort M_text M_row M_field M_fields M_begins M_ruleLetters o_2.1 o_2.2.1 o_2.2.2.1 o_2.2.2.2.1 o_2.2.2.2.2 M_pile M_high M_where M_latest M_lifts M_begun M_left M_has M_lifted M_taken M_above M_allLifts M_busy M_longest M_onto M_worst M_best M_orders M_together M_ofOne M_ofOther M_seed M_then M_was M_kept M_held M_kindOn M_figureOn M_sorts M_size M_items M_moved M_thrown)) (kX10_usual l D ca t ad_M M_guests M_kind M_figure M_told M_heaps M_holds M_back M_mistakes M_hooks M_letters M_rule M_at M_well M_sort M_text M_row M_field M_fields M_begins M_ruleLetters M_coming M_comingMany M_going M_goingMany M_minute M_pile M_high M_where M_latest M_lifts M_begun M_left M_has M_lifted M_taken M_above M_allLifts M_busy M_longest M_onto M_worst M_best M_orders M_together M_ofOne M_ofOther M_seed M_then M_was M_kept M_held M_kindOn M_figureOn M_sorts M_size M_items M_moved M_thrown fuel _ hc_2) ⟨hx, hb, hml, hown, hts⟩ (zcwV hts zm_186 zm_187 zm_188 zm_19 zm_185 rfl rfl zdv_X10_usual ⟨Nat.le_of_ble_eq_true rfl, Nat.le_of_ble_eq_true rfl⟩) hA hK hZ hP hD hS [0, 1, 2, 3, 4, 5, 6, 7, 8, 9, 10, 11, 12, 13, 14, 15, 16, 17, 18, 19, 20, 21, 22, 23, 24, 25, 26, 27, 28, 29, 30, 31, 32, 33] [] [0, 1, 2, 3, 4, 5, 6, 7, 8, 9, 10, 11, 12, 13, 14, 15, 16, 17, 18, 19, 20, 21, 22, 23, 24, 25, 26, 27, 28, 29, 30, 31, 32, 33] rfl rfl rfl rfl rfl rfl rfl 7 0 rfl rfl rfl hl.1 (Nat.le_of_ble_eq_true rfl) dX10_order_7 rfl (fun H locs hP hD hS => ?_)
    refine lv_iload_n hx hb dX10_order_10 rfl (lv_at hl 1 rfl) ?_
    refine lv_aload_n hx hb dX10_order_11 rfl (lv_at hl 0 rfl) ?_
    refine va_get (D := D) (ci := 7) (v := .int o_2.2.2.2.1) (C := RX10) (T := TX10) (N := 58) hx hb hts hin10 hown hK hP 0 rfl rfl 23 (by decide) (hts _ zm_86) (fun _ h9 => h9) rfl dX10_order_12 ?_
    refine lv_icmp_ge (tgt := 27) hx hb dX10_order_15 (by decide) (fun c_3 => ?_) (fun c_3 => ?_)
    · have hF := zt c_3 hF
      refine lv_bipush (v := (-4)) hx hb dX10_order_27 (by decide) ?_
      obtain rfl := Option.some.inj hF
      exact hret _ _ _ _ hP hD hS rfl dX10_order_29
    · have hF := zf c_3 hF
      refine lv_aload_n hx hb dX10_order_18 rfl (lv_at hl 0 rfl) ?_
      refine va_get (D := D) (ci := 7) (v := .ref (ad_M 9)) (C := RX10) (T := TX10) (N := 58) hx hb hts hin10 hown hK hP 0 rfl rfl 22 (by decide) (hts _ zm_87) (fun _ h9 => h9) rfl dX10_order_19 ?_
      refine lv_iload_n hx hb dX10_order_22 rfl (lv_at hl 1 rfl) ?_
      obtain ⟨h_4, hF⟩ := zgi hF
      refine va_iald hx hb hK hP 9 0 rfl rfl h_4 dX10_order_23 ?_
      refine lv_goto (tgt := 29) hx hb dX10_order_24 (by decide) ?_
      obtain rfl := Option.some.inj hF
      exact hret _ _ _ _ hP hD hS rfl dX10_order_29
  · have hF := zf c_1 hF
    refine lv_iconst (v := (-1)) hx hb dX10_order_4 (by decide) ?_
    obtain rfl := Option.some.inj hF
    exact hret _ _ _ _ hP hD hS rfl dX10_order_5
abbrev roX10_chains : Room := { frames := 3, cells := 0, slots := 0, locals := 67 }
set_option maxHeartbeats 4000000 in
set_option maxRecDepth 100000 in
theorem kX10_chains (l : Launch) (D : va_G) (ca : Nat → ClassId) (t : Nat → Nat) (ad_M : Nat → Nat) (M_guests : Int32) (M_kind : Nat → Int32) (M_figure : Nat → Int32) (M_told : Nat → Int32) (M_heaps : Int32) (M_holds : Int32) (M_back : Int32) (M_mistakes : Int32) (M_hooks : Int32) (M_letters : Int32) (M_rule : Nat → Int32) (M_at : Int32) (M_well : Int32) (M_sort : Int32) (M_text : Int32) (M_row : Int32) (M_field : Nat → Int32) (M_fields : Int32) (M_begins : Nat → Int32) (M_ruleLetters : Nat → Int32) (M_coming : Nat → Int32) (M_comingMany : Int32) (M_going : Nat → Int32) (M_goingMany : Int32) (M_minute : Nat → Int32) (M_pile : Nat → Int32) (M_high : Nat → Int32) (M_where : Nat → Int32) (M_latest : Int32) (M_lifts : Nat → Int32) (M_begun : Nat → Int32) (M_left : Nat → Int32) (M_has : Nat → Int32) (M_lifted : Nat → Int32) (M_taken : Nat → Int32) (M_above : Nat → Int32) (M_allLifts : Int32) (M_busy : Int32) (M_longest : Nat → Int32) (M_onto : Nat → Int32) (M_worst : Int32) (M_best : Int32) (M_orders : Int32) (M_together : Int32) (M_ofOne : Nat → Int32) (M_ofOther : Nat → Int32) (M_seed : Int32) (M_then : Nat → Int32) (M_was : Nat → Int32) (M_kept : Int32) (M_held : Nat → Int32) (M_kindOn : Nat → Int32) (M_figureOn : Nat → Int32) (M_sorts : Nat → Int32) (M_size : Nat → Int32) (M_items : Nat → Int32) (M_moved : Nat → Int32) (M_thrown : Int32) (fuel : Nat) (o : Int32 × (Nat → Int32) × (Nat → Int32)) (hF : fX10_chains fuel M_guests M_kind M_figure M_told M_minute M_longest = some o) : zMi l D (zT ca) t yX10_chains (.code yX10_chains cX10_chains 4 (some .int) :: zW) roX10_chains [.ref (ad_M 0)] (wX10_M ca ad_M M_guests M_kind M_figure M_told M_heaps M_holds M_back M_mistakes M_hooks M_letters M_rule M_at M_well M_sort M_text M_row M_field M_fields M_begins M_ruleLetters M_coming M_comingMany M_going M_goingMany M_minute M_pile M_high M_where M_latest M_lifts M_begun M_left M_has M_lifted M_taken M_above M_allLifts M_busy M_longest M_onto M_worst M_best M_orders M_together M_ofOne M_ofOther M_seed M_then M_was M_kept M_held M_kindOn M_figureOn M_sorts M_size M_items M_moved M_thrown) (wX10_M ca ad_M M_guests M_kind M_figure M_told M_heaps M_holds M_back M_mistakes M_hooks M_letters M_rule M_at M_well M_sort M_text M_row M_field M_fields M_begins M_ruleLetters M_coming M_comingMany M_going M_goingMany o.2.1 M_pile M_high M_where M_latest M_lifts M_begun M_left M_has M_lifted M_taken M_above M_allLifts M_busy o.2.2 M_onto M_worst M_best M_orders M_together M_ofOne M_ofOther M_seed M_then M_was M_kept M_held M_kindOn M_figureOn M_sorts M_size M_items M_moved M_thrown) o.1 := by
  refine zMi_of (cc := cX10_chains) (maxL := 4) (by decide) rfl (Nat.le_of_ble_eq_true rfl) ?_
  intro p e s m args below meth c A Q ls ⟨hx, hb, hml, hown, hts, hA, hK, hZ, hS⟩ hret hP hD hl
  have hts := fun w h => hts w (List.mem_cons_of_mem _ h)
  have hown : s.vm.findClass RX10 = some m.cls := hown
  have hl : lv_has ls 4 [(0, .ref (ad_M 0))] := hl
  have hin10 := zin_X10
  have l13 : ∀ (n13 : Nat) (v1 : Int32) (v2 : Int32) (M_minute : Nat → Int32) (M_longest : Nat → Int32) (H : Heap) (locs : List Loc), fX10_chains_L13 fuel M_guests n13 v1 v2 M_minute M_longest = some o → va_P D vwCl (wX10_M ca ad_M M_guests M_kind M_figure M_told M_heaps M_holds M_back M_mistakes M_hooks M_letters M_rule M_at M_well M_sort M_text M_row M_field M_fields M_begins M_ruleLetters M_coming M_comingMany M_going M_goingMany M_minute M_pile M_high M_where M_latest M_lifts M_begun M_left M_has M_lifted M_taken M_above M_allLifts M_busy M_longest M_onto M_worst M_best M_orders M_together M_ofOne M_ofOther M_seed M_then M_was M_kept M_held M_kindOn M_figureOn M_sorts M_size M_items M_moved M_thrown) H → va_D A (wX10_M ca ad_M M_guests M_kind M_figure M_told M_heaps M_holds M_back M_mistakes M_hooks M_letters M_rule M_at M_well M_sort M_text M_row M_field M_fields M_begins M_ruleLetters M_coming M_comingMany M_going M_goingMany M_minute M_pile M_high M_where M_latest M_lifts M_begun M_left M_has M_lifted M_taken M_above M_allLifts M_busy M_longest M_onto M_worst M_best M_orders M_together M_ofOne M_ofOther M_seed M_then M_was M_kept M_held M_kindOn M_figureOn M_sorts M_size M_items M_moved M_thrown) → va_S A s.heap H locs → ∀ ls : Array Slot, lv_has ls 4 [(0, .ref (ad_M 0)), (1, .int v1), (2, .int v2)] → W p l e roX10_chains s m args below meth c H locs 0 0 Q (F0 m 13 ls []) := by
    intro n13
    induction n13 with
    | zero =>
      intro v1 v2 M_minute M_longest H locs hF
      rw [fX10_chains_L13] at hF
      cases hF
    | succ n13 ih13 =>
      have j89 : ∀ (v1 : Int32) (v2 : Int32) (M_minute : Nat → Int32) (M_longest : Nat → Int32) (H : Heap) (locs : List Loc), fX10_chains_J89 (fX10_chains_L13 fuel M_guests n13) v1 v2 M_minute M_longest = some o → va_P D vwCl (wX10_M ca ad_M M_guests M_kind M_figure M_told M_heaps M_holds M_back M_mistakes M_hooks M_letters M_rule M_at M_well M_sort M_text M_row M_field M_fields M_begins M_ruleLetters M_coming M_comingMany M_going M_goingMany M_minute M_pile M_high M_where M_latest M_lifts M_begun M_left M_has M_lifted M_taken M_above M_allLifts M_busy M_longest M_onto M_worst M_best M_orders M_together M_ofOne M_ofOther M_seed M_then M_was M_kept M_held M_kindOn M_figureOn M_sorts M_size M_items M_moved M_thrown) H → va_D A (wX10_M ca ad_M M_guests M_kind M_figure M_told M_heaps M_holds M_back M_mistakes M_hooks M_letters M_rule M_at M_well M_sort M_text M_row M_field M_fields M_begins M_ruleLetters M_coming M_comingMany M_going M_goingMany M_minute M_pile M_high M_where M_latest M_lifts M_begun M_left M_has M_lifted M_taken M_above M_allLifts M_busy M_longest M_onto M_worst M_best M_orders M_together M_ofOne M_ofOther M_seed M_then M_was M_kept M_held M_kindOn M_figureOn M_sorts M_size M_items M_moved M_thrown) → va_S A s.heap H locs → ∀ ls : Array Slot, lv_has ls 4 [(0, .ref (ad_M 0)), (1, .int v1), (2, .int v2)] → W p l e roX10_chains s m args below meth c H locs 0 0 Q (F0 m 89 ls []) := by
        intro v1 v2 M_minute M_longest H locs hF hP hD hS ls hl
        unfold fX10_chains_J89 at hF
        refine lv_iload_n hx hb dX10_chains_89 rfl (lv_at hl 1 rfl) ?_
        refine lv_aload_n hx hb dX10_chains_90 rfl (lv_at hl 0 rfl) ?_
        refine va_get (D := D) (ci := 7) (v := .ref (ad_M 21)) (C := RX10) (T := TX10) (N := 58) hx hb hts hin10 hown hK hP 0 rfl rfl 38 (by decide) (hts _ zm_205) (fun _ h9 => h9) rfl dX10_chains_91 ?_
        refine lv_iload_n hx hb dX10_chains_94 rfl (lv_at hl 2 rfl) ?_
        obtain ⟨h_19, hF⟩ := zgi hF
        refine va_iald hx hb hK hP 21 0 rfl rfl h_19 dX10_chains_95 ?_
        refine va_mmax hx hb (hml.trans hl.1.symm) hown (hts _ zm_21) (hts _ zm_22) (hts _ zm_23) (hts _ zm_24) (Nat.le_of_ble_eq_true rfl) (Nat.le_of_ble_eq_true rfl) (Nat.zero_le _) (Nat.zero_le _) dX10_chains_96 ?_
        refine z_let hF (fun x_20 hF => ?_)
        refine lv_istore_n (lv' := [(1, .int x_20), (0, .ref (ad_M 0)), (2, .int v2)]) hx hb dX10_chains_99 rfl hl (by decide) rfl (fun ls hl => ?_)
        refine z_iinc (kv := (-1)) hx hb 2 dX10_chains_100 hl rfl (by decide) (by decide) (fun g => [(2, .int g), (1, .int x_20), (0, .ref (ad_M 0))]) (fun _ => rfl) hF (fun v2_21 ls hF hl => ?_)
        refine lv_goto (tgt := 13) hx hb dX10_chains_103 (by decide) ?_
        exact ih13 x_20 v2_21 M_minute M_longest _ _ hF hP hD hS ls (lv_sub hl [2, 1, 0] rfl)
      have l28 : ∀ (n28 : Nat) (v1 : Int32) (v2 : Int32) (v3 : Int32) (M_minute : Nat → Int32) (M_longest : Nat → Int32) (H : Heap) (locs : List Loc), fX10_chains_L28 M_guests (fX10_chains_L13 fuel M_guests n13) n28 v1 v2 v3 M_minute M_longest = some o → va_P D vwCl (wX10_M ca ad_M M_guests M_kind M_figure M_told M_heaps M_holds M_back M_mistakes M_hooks M_letters M_rule M_at M_well M_sort M_text M_row M_field M_fields M_begins M_ruleLetters M_coming M_comingMany M_going M_goingMany M_minute M_pile M_high M_where M_latest M_lifts M_begun M_left M_has M_lifted M_taken M_above M_allLifts M_busy M_longest M_onto M_worst M_best M_orders M_together M_ofOne M_ofOther M_seed M_then M_was M_kept M_held M_kindOn M_figureOn M_sorts M_size M_items M_moved M_thrown) H → va_D A (wX10_M ca ad_M M_guests M_kind M_figure M_told M_heaps M_holds M_back M_mistakes M_hooks M_letters M_rule M_at M_well M_sort M_text M_row M_field M_fields M_begins M_ruleLetters M_coming M_comingMany M_going M_goingMany M_minute M_pile M_high M_where M_latest M_lifts M_begun M_left M_has M_lifted M_taken M_above M_allLifts M_busy M_longest M_onto M_worst M_best M_orders M_together M_ofOne M_ofOther M_seed M_then M_was M_kept M_held M_kindOn M_figureOn M_sorts M_size M_items M_moved M_thrown) → va_S A s.heap H locs → ∀ ls : Array Slot, lv_has ls 4 [(0, .ref (ad_M 0)), (1, .int v1), (2, .int v2), (3, .int v3)] → W p l e roX10_chains s m args below meth c H locs 0 0 Q (F0 m 28 ls []) := by
        intro n28
        induction n28 with
        | zero =>
          intro v1 v2 v3 M_minute M_longest H locs hF
          rw [fX10_chains_L28] at hF
          cases hF
        | succ n28 ih28 =>
          intro v1 v2 v3 M_minute M_longest H locs hF hP hD hS ls hl
          rw [fX10_chains_L28] at hF
          refine lv_iload_n hx hb dX10_chains_28 rfl (lv_at hl 3 rfl) ?_
          refine lv_aload_n hx hb dX10_chains_29 rfl (lv_at hl 0 rfl) ?_
          refine va_get (D := D) (ci := 7) (v := .int M_guests) (C := RX10) (T := TX10) (N := 58) hx hb hts hin10 hown hK hP 0 rfl rfl 0 (by decide) (hts _ zm_16) (fun _ h9 => h9) rfl dX10_chains_30 ?_
          refine lv_icmp_ge (tgt := 89) hx hb dX10_chains_33 (by decide) (fun c_7 => ?_) (fun c_7 => ?_)
          · have hF := zt c_7 hF
            exact j89 v1 v2 M_minute M_longest _ _ hF hP hD hS ls (lv_sub hl [0, 1, 2] rfl)
          · have hF := zf c_7 hF
            refine lv_aload_n hx hb dX10_chains_36 rfl (lv_at hl 0 rfl) ?_
            refine va_get (D := D) (ci := 7) (v := .ref (ad_M 21)) (C := RX10) (T := TX10) (N := 58) hx hb hts hin10 hown hK hP 0 rfl rfl 38 (by decide) (hts _ zm_205) (fun _ h9 => h9) rfl dX10_chains_37 ?_
            refine lv_iload_n hx hb dX10_chains_40 rfl (lv_at hl 2 rfl) ?_
            refine lv_aload_n hx hb dX10_chains_41 rfl (lv_at hl 0 rfl) ?_
            refine va_get (D := D) (ci := 7) (v := .ref (ad_M 10)) (C := RX10) (T := TX10) (N := 58) hx hb hts hin10 hown hK hP 0 rfl rfl 24 (by decide) (hts _ zm_85) (fun _ h9 => h9) rfl dX10_chains_42 ?_
            refine lv_iload_n hx hb dX10_chains_45 rfl (lv_at hl 3 rfl) ?_
            obtain ⟨h_8, hF⟩ := zgi hF
            refine va_iald hx hb hK hP 10 0 rfl rfl h_8 dX10_chains_46 ?_
            refine lv_aload_n hx hb dX10_chains_47 rfl (lv_at hl 0 rfl) ?_
            refine va_get (D := D) (ci := 7) (v := .ref (ad_M 10)) (C := RX10) (T := TX10) (N := 58) hx hb hts hin10 hown hK hP 0 rfl rfl 24 (by decide) (hts _ zm_85) (fun _ h9 => h9) rfl dX10_chains_48 ?_
            refine lv_iload_n hx hb dX10_chains_51 rfl (lv_at hl 2 rfl) ?_
            obtain ⟨h_9, hF⟩ := zgi hF
            refine va_iald hx hb hK hP 10 0 rfl rfl h_9 dX10_chains_52 ?_
            refine lv_icmp_lt (tgt := 76) hx hb dX10_chains_53 (by decide) (fun c_10 => ?_) (fun c_10 => ?_)
            · have hF := zt c_10 hF
              refine lv_aload_n hx hb dX10_chains_76 rfl (lv_at hl 0 rfl) ?_
              refine va_get (D := D) (ci := 7) (v := .ref (ad_M 21)) (C := RX10) (T := TX10) (N := 58) hx hb hts hin10 hown hK hP 0 rfl rfl 38 (by decide) (hts _ zm_205) (fun _ h9 => h9) rfl dX10_chains_77 ?_
              refine lv_iload_n hx hb dX10_chains_80 rfl (lv_at hl 2 rfl) ?_
              obtain ⟨h_11, hF⟩ := zgi hF
              refine va_iald hx hb hK hP 21 0 rfl rfl h_11 dX10_chains_81 ?_
              refine z_iast hx hb hK hP hD hS 21 0 rfl rfl h_11 dX10_chains_82 (fun g => (wX10_M ca ad_M M_guests M_kind M_figure M_told M_heaps M_holds M_back M_mistakes M_hooks M_letters M_rule M_at M_well M_sort M_text M_row M_field M_fields M_begins M_ruleLetters M_coming M_comingMany M_going M_goingMany M_minute M_pile M_high M_where M_latest M_lifts M_begun M_left M_has M_lifted M_taken M_above M_allLifts M_busy g M_onto M_worst M_best M_orders M_together M_ofOne M_ofOther M_seed M_then M_was M_kept M_held M_kindOn M_figureOn M_sorts M_size M_items M_moved M_thrown)) (fun _ => rfl) hF (fun M_longest_12 H locs hF hP hD hS => ?_)
              refine z_iinc (kv := 1) hx hb 3 dX10_chains_83 hl rfl (by decide) (by decide) (fun g => [(3, .int g), (0, .ref (ad_M 0)), (1, .int v1), (2, .int v2)]) (fun _ => rfl) hF (fun v3_13 ls hF hl => ?_)
              refine lv_goto (tgt := 28) hx hb dX10_chains_86 (by decide) ?_
              exact ih28 v1 v2 v3_13 M_minute M_longest_12 _ _ hF hP hD hS ls (lv_sub hl [1, 2, 3, 0] rfl)
            · have hF := zf c_10 hF
              refine lv_aload_n hx hb dX10_chains_56 rfl (lv_at hl 0 rfl) ?_
              refine va_get (D := D) (ci := 7) (v := .ref (ad_M 21)) (C := RX10) (T := TX10) (N := 58) hx hb hts hin10 hown hK hP 0 rfl rfl 38 (by decide) (hts _ zm_205) (fun _ h9 => h9) rfl dX10_chains_57 ?_
              refine lv_iload_n hx hb dX10_chains_60 rfl (lv_at hl 2 rfl) ?_
              obtain ⟨h_14, hF⟩ := zgi hF
              refine va_iald hx hb hK hP 21 0 rfl rfl h_14 dX10_chains_61 ?_
              refine lv_aload_n hx hb dX10_chains_62 rfl (lv_at hl 0 rfl) ?_
              refine va_get (D := D) (ci := 7) (v := .ref (ad_M 21)) (C := RX10) (T := TX10) (N := 58) hx hb hts hin10 hown hK hP 0 rfl rfl 38 (by decide) (hts _ zm_205) (fun _ h9 => h9) rfl dX10_chains_63 ?_
              refine lv_iload_n hx hb dX10_chains_66 rfl (lv_at hl 3 rfl) ?_
              obtain ⟨h_15, hF⟩ := zgi hF
              refine va_iald hx hb hK hP 21 0 rfl rfl h_15 dX10_chains_67 ?_
              refine lv_iconst (v := 1) hx hb dX10_chains_68 (by decide) ?_
              refine lv_iadd hx hb dX10_chains_69 ?_
              refine va_mmax hx hb (hml.trans hl.1.symm) hown (hts _ zm_21) (hts _ zm_22) (hts _ zm_23) (hts _ zm_24) (Nat.le_of_ble_eq_true rfl) (Nat.le_of_ble_eq_true rfl) (Nat.zero_le _) (Nat.zero_le _) dX10_chains_70 ?_
              refine z_let hF (fun x_16 hF => ?_)
              refine lv_goto (tgt := 82) hx hb dX10_chains_73 (by decide) ?_
              refine z_iast hx hb hK hP hD hS 21 0 rfl rfl h_14 dX10_chains_82 (fun g => (wX10_M ca ad_M M_guests M_kind M_figure M_told M_heaps M_holds M_back M_mistakes M_hooks M_letters M_rule M_at M_well M_sort M_text M_row M_field M_fields M_begins M_ruleLetters M_coming M_comingMany M_going M_goingMany M_minute M_pile M_high M_where M_latest M_lifts M_begun M_left M_has M_lifted M_taken M_above M_allLifts M_busy g M_onto M_worst M_best M_orders M_together M_ofOne M_ofOther M_seed M_then M_was M_kept M_held M_kindOn M_figureOn M_sorts M_size M_items M_moved M_thrown)) (fun _ => rfl) hF (fun M_longest_17 H locs hF hP hD hS => ?_)
              refine z_iinc (kv := 1) hx hb 3 dX10_chains_83 hl rfl (by decide) (by decide) (fun g => [(3, .int g), (0, .ref (ad_M 0)), (1, .int v1), (2, .int v2)]) (fun _ => rfl) hF (fun v3_18 ls hF hl => ?_)
              refine lv_goto (tgt := 28) hx hb dX10_chains_86 (by decide) ?_
              exact ih28 v1 v2 v3_18 M_minute M_longest_17 _ _ hF hP hD hS ls (lv_sub hl [1, 2, 3, 0] rfl)
      intro v1 v2 M_minute M_longest H locs hF hP hD hS ls hl
      rw [fX10_chains_L13] at hF
      refine lv_iload_n hx hb dX10_chains_13 rfl (lv_at hl 2 rfl) ?_
      refine lv_if_lt (tgt := 106) hx hb dX10_chains_14 (by decide) (fun c_3 => ?_) (fun c_3 => ?_)
      · have hF := zt c_3 hF
        refine lv_iload_n hx hb dX10_chains_106 rfl (lv_at hl 1 rfl) ?_
        obtain rfl := Option.some.inj hF
        exact hret _ _ _ _ hP hD hS rfl dX10_chains_107
      · have hF := zf c_3 hF
        refine lv_aload_n hx hb dX10_chains_17 rfl (lv_at hl 0 rfl) ?_
        refine va_get (D := D) (ci := 7) (v := .ref (ad_M 21)) (C := RX10) (T := TX10) (N := 58) hx hb hts hin10 hown hK hP 0 rfl rfl 38 (by decide) (hts _ zm_205) (fun _ h9 => h9) rfl dX10_chains_18 ?_
        refine lv_iload_n hx hb dX10_chains_21 rfl (lv_at hl 2 rfl) ?_
        refine lv_iconst (v := 1) hx hb dX10_chains_22 (by decide) ?_
        obtain ⟨h_4, hF⟩ := zgi hF
        refine z_iast hx hb hK hP hD hS 21 0 rfl rfl h_4 dX10_chains_23 (fun g => (wX10_M ca ad_M M_guests M_kind M_figure M_told M_heaps M_holds M_back M_mistakes M_hooks M_letters M_rule M_at M_well M_sort M_text M_row M_field M_fields M_begins M_ruleLetters M_coming M_comingMany M_going M_goingMany M_minute M_pile M_high M_where M_latest M_lifts M_begun M_left M_has M_lifted M_taken M_above M_allLifts M_busy g M_onto M_worst M_best M_orders M_together M_ofOne M_ofOther M_seed M_then M_was M_kept M_held M_kindOn M_figureOn M_sorts M_size M_items M_moved M_thrown)) (fun _ => rfl) hF (fun M_longest_5 H locs hF hP hD hS => ?_)
        refine lv_iload_n hx hb dX10_chains_24 rfl (lv_at hl 2 rfl) ?_
        refine lv_iconst (v := 1) hx hb dX10_chains_25 (by decide) ?_
        refine lv_iadd hx hb dX10_chains_26 ?_
        refine z_let hF (fun v3_6 hF => ?_)
        refine lv_istore_n (lv' := [(3, .int v3_6), (0, .ref (ad_M 0)), (1, .int v1), (2, .int v2)]) hx hb dX10_chains_27 rfl hl (by decide) rfl (fun ls hl => ?_)
        exact l28 fuel v1 v2 v3_6 M_minute M_longest_5 _ _ hF hP hD hS ls (lv_sub hl [1, 2, 3, 0] rfl)
  unfold fX10_chains at hF
  refine lv_aload_n hx hb dX10_chains_0 rfl (lv_at hl 0 rfl) ?_
  obtain ⟨o_1, hc_1, hF⟩ := zb hF
  refine zcVv (rest := []) (ws' := (wX10_M ca ad_M M_guests M_kind M_figure M_told M_heaps M_holds M_back M_mistakes M_hooks M_letters M_rule M_at M_well M_sort M_text M_row M_field M_fields M_begins M_ruleLetters M_coming M_comingMany M_going M_goingMany o_1 M_pile M_high M_where M_latest M_lifts M_begun M_left M_has M_lifted M_taken M_above M_allLifts M_busy M_longest M_onto M_worst M_best M_orders M_together M_ofOne M_ofOther M_seed M_then M_was M_kept M_held M_kindOn M_figureOn M_sorts M_size M_items M_moved M_thrown)) (kX10_minutesAsTold l D ca t ad_M M_guests M_kind M_figure M_told M_heaps M_holds M_back M_mistakes M_hooks M_letters M_rule M_at M_well M_sort M_text M_row M_field M_fields M_begins M_ruleLetters M_coming M_comingMany M_going M_goingMany M_minute M_pile M_high M_where M_latest M_lifts M_begun M_left M_has M_lifted M_taken M_above M_allLifts M_busy M_longest M_onto M_worst M_best M_orders M_together M_ofOne M_ofOther M_seed M_then M_was M_kept M_held M_kindOn M_figureOn M_sorts M_size M_items M_moved M_thrown fuel _ hc_1) ⟨hx, hb, hml, hown, hts⟩ (zcwV hts zm_96 zm_97 zm_98 zm_19 zm_95 rfl rfl zdv_X10_minutesAsTold ⟨Nat.le_of_ble_eq_true rfl, Nat.le_of_ble_eq_true rfl⟩) hA hK hZ hP hD hS [0, 1, 2, 3, 4, 5, 6, 7, 8, 9, 10, 11, 12, 13, 14, 15, 16, 17, 18, 19, 20, 21, 22, 23, 24, 25, 26, 27, 28, 29, 30, 31, 32, 33] [] [0, 1, 2, 3, 4, 5, 6, 7, 8, 9, 10, 11, 12, 13, 14, 15, 16, 17, 18, 19, 20, 21, 22, 23, 24, 25, 26, 27, 28, 29, 30, 31, 32, 33] rfl rfl rfl rfl rfl rfl rfl 7 0 rfl rfl rfl hl.1 (Nat.le_of_ble_eq_true rfl) dX10_chains_1 rfl (fun H locs hP hD hS => ?_)
  refine lv_iconst (v := 0) hx hb dX10_chains_4 (by decide) ?_
  refine lv_istore_n (lv' := [(1, .int 0), (0, .ref (ad_M 0))]) hx hb dX10_chains_5 rfl hl (by decide) rfl (fun ls hl => ?_)
  refine lv_aload_n hx hb dX10_chains_6 rfl (lv_at hl 1 rfl) ?_
  refine va_get (D := D) (ci := 7) (v := .int M_guests) (C := RX10) (T := TX10) (N := 58) hx hb hts hin10 hown hK hP 0 rfl rfl 0 (by decide) (hts _ zm_16) (fun _ h9 => h9) rfl dX10_chains_7 ?_
  refine lv_iconst (v := 1) hx hb dX10_chains_10 (by decide) ?_
  refine lv_isub hx hb dX10_chains_11 ?_
  refine z_let hF (fun v2_2 hF => ?_)
  refine lv_istore_n (lv' := [(2, .int v2_2), (1, .int 0), (0, .ref (ad_M 0))]) hx hb dX10_chains_12 rfl hl (by decide) rfl (fun ls hl => ?_)
  exact l13 fuel 0 v2_2 o_1 M_longest _ _ hF hP hD hS ls (lv_sub hl [2, 1, 0] rfl)
