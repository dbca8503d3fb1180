abbrev roX10_nextOrder_coming : Room := { frames := 1, cells := 0, slots := 0, locals := 24 }
set_option maxHeartbeats 4000000 in
set_option maxRecDepth 100000 in
theorem kX10_nextOrder_coming (l : Launch) (D : va_G) (ca : Nat → ClassId) (t : Nat → Nat) (ad_M : Nat → Nat) (M_guests : Int32) (M_kind : Nat → Int32) (M_figure : Nat → Int32) (M_told : Nat → Int32) (M_heaps : Int32) (M_holds : Int32) (M_back : Int32) (M_mistakes : Int32) (M_hooks : Int32) (M_letters : Int32) (M_rule : Nat → Int32) (M_at : Int32) (M_well : Int32) (M_sort : Int32) (M_text : Int32) (M_row : Int32) (M_field : Nat → Int32) (M_fields : Int32) (M_begins : Nat → Int32) (M_ruleLetters : Nat → Int32) (M_coming : Nat → Int32) (M_comingMany : Int32) (M_going : Nat → Int32) (M_goingMany : Int32) (M_minute : Nat → Int32) (M_pile : Nat → Int32) (M_high : Nat → Int32) (M_where : Nat → Int32) (M_latest : Int32) (M_lifts : Nat → Int32) (M_begun : Nat → Int32) (M_left : Nat → Int32) (M_has : Nat → Int32) (M_lifted : Nat → Int32) (M_taken : Nat → Int32) (M_above : Nat → Int32) (M_allLifts : Int32) (M_busy : Int32) (M_longest : Nat → Int32) (M_onto : Nat → Int32) (M_worst : Int32) (M_best : Int32) (M_orders : Int32) (M_together : Int32) (M_ofOne : Nat → Int32) (M_ofOther : Nat → Int32) (M_seed : Int32) (M_then : Nat → Int32) (M_was : Nat → Int32) (M_kept : Int32) (M_held : Nat → Int32) (M_kindOn : Nat → Int32) (M_figureOn : Nat → Int32) (M_sorts : Nat → Int32) (M_size : Nat → Int32) (M_items : Nat → Int32) (M_moved : Nat → Int32) (M_thrown : Int32) (p2 : Int32) (fuel : Nat) (o : Int32 × (Nat → Int32)) (hF : fX10_nextOrder_coming fuel M_coming p2 = some o) : zMi l D (zT ca) t yX10_nextOrder (.code yX10_nextOrder cX10_nextOrder 7 (some .boolean) :: zW) roX10_nextOrder_coming [.ref (ad_M 0), .ref (ad_M 8), .int p2] (wX10_M ca ad_M M_guests M_kind M_figure M_told M_heaps M_holds M_back M_mistakes M_hooks M_letters M_rule M_at M_well M_sort M_text M_row M_field M_fields M_begins M_ruleLetters M_coming M_comingMany M_going M_goingMany M_minute M_pile M_high M_where M_latest M_lifts M_begun M_left M_has M_lifted M_taken M_above M_allLifts M_busy M_longest M_onto M_worst M_best M_orders M_together M_ofOne M_ofOther M_seed M_then M_was M_kept M_held M_kindOn M_figureOn M_sorts M_size M_items M_moved M_thrown) (wX10_M ca ad_M M_guests M_kind M_figure M_told M_heaps M_holds M_back M_mistakes M_hooks M_letters M_rule M_at M_well M_sort M_text M_row M_field M_fields M_begins M_ruleLetters o.2 M_comingMany M_going M_goingMany M_minute M_pile M_high M_where M_latest M_lifts M_begun M_left M_has M_lifted M_taken M_above M_allLifts M_busy M_longest M_onto M_worst M_best M_orders M_together M_ofOne M_ofOther M_seed M_then M_was M_kept M_held M_kindOn M_figureOn M_sorts M_size M_items M_moved M_thrown) o.1 := by
  refine zMi_of (cc := cX10_nextOrder) (maxL := 7) (by decide) rfl (Nat.le_of_ble_eq_true rfl) ?_
  intro p e s m args below meth c A Q ls ⟨hx, hb, hml, hown, hts, hA, hK, hZ, hS⟩ hret hP hD hl
  have hts := fun w h => hts w (List.mem_cons_of_mem _ h)
  have hown : s.vm.findClass RX10 = some m.cls := hown
  have hl : lv_has ls 7 [(0, .ref (ad_M 0)), (1, .ref (ad_M 8)), (2, .int p2)] := hl
  have l70 : ∀ (n70 : Nat) (v5 : Int32) (v6 : Int32) (M_coming : Nat → Int32) (H : Heap) (locs : List Loc), fX10_nextOrder_coming_L70 fuel n70 v5 v6 M_coming = some o → va_P D vwCl (wX10_M ca ad_M M_guests M_kind M_figure M_told M_heaps M_holds M_back M_mistakes M_hooks M_letters M_rule M_at M_well M_sort M_text M_row M_field M_fields M_begins M_ruleLetters M_coming M_comingMany M_going M_goingMany M_minute M_pile M_high M_where M_latest M_lifts M_begun M_left M_has M_lifted M_taken M_above M_allLifts M_busy M_longest M_onto M_worst M_best M_orders M_together M_ofOne M_ofOther M_seed M_then M_was M_kept M_held M_kindOn M_figureOn M_sorts M_size M_items M_moved M_thrown) H → va_D A (wX10_M ca ad_M M_guests M_kind M_figure M_told M_heaps M_holds M_back M_mistakes M_hooks M_letters M_rule M_at M_well M_sort M_text M_row M_field M_fields M_begins M_ruleLetters M_coming M_comingMany M_going M_goingMany M_minute M_pile M_high M_where M_latest M_lifts M_begun M_left M_has M_lifted M_taken M_above M_allLifts M_busy M_longest M_onto M_worst M_best M_orders M_together M_ofOne M_ofOther M_seed M_then M_was M_kept M_held M_kindOn M_figureOn M_sorts M_size M_items M_moved M_thrown) → va_S A s.heap H locs → ∀ ls : Array Slot, lv_has ls 7 [(0, .ref (ad_M 0)), (1, .ref (ad_M 8)), (5, .int v5), (6, .int v6)] → W p l e roX10_nextOrder_coming s m args below meth c H locs 0 0 Q (F0 m 70 ls []) := by
    intro n70
    induction n70 with
    | zero =>
      intro v5 v6 M_coming H locs hF
      rw [fX10_nextOrder_coming_L70] at hF
      cases hF
    | succ n70 ih70 =>
      intro v5 v6 M_coming H locs hF hP hD hS ls hl
      rw [fX10_nextOrder_coming_L70] at hF
      refine lv_iload hx hb dX10_nextOrder_70 (lv_at hl 2 rfl) ?_
      refine lv_iload hx hb dX10_nextOrder_72 (lv_at hl 3 rfl) ?_
      refine lv_icmp_ge (tgt := 95) hx hb dX10_nextOrder_74 (by decide) (fun c_16 => ?_) (fun c_16 => ?_)
      · have hF := zt c_16 hF
        refine lv_iconst (v := 1) hx hb dX10_nextOrder_95 (by decide) ?_
        obtain rfl := Option.some.inj hF
        exact hret _ _ _ _ hP hD hS (zbool (Or.inr rfl)) dX10_nextOrder_96
      · have hF := zf c_16 hF
        refine lv_aload_n hx hb dX10_nextOrder_77 rfl (lv_at hl 0 rfl) ?_
        refine lv_aload_n hx hb dX10_nextOrder_78 rfl (lv_at hl 1 rfl) ?_
        refine lv_iload hx hb dX10_nextOrder_79 (lv_at hl 2 rfl) ?_
        refine lv_iload hx hb dX10_nextOrder_81 (lv_at hl 3 rfl) ?_
        obtain ⟨o_17, hc_17, hF⟩ := zb hF
        refine zcVv (rest := []) (ws' := (wX10_M ca ad_M M_guests M_kind M_figure M_told M_heaps M_holds M_back M_mistakes M_hooks M_letters M_rule M_at M_well M_sort M_text M_row M_field M_fields M_begins M_ruleLetters o_17 M_comingMany M_going M_goingMany M_minute M_pile M_high M_where M_latest M_lifts M_begun M_left M_has M_lifted M_taken M_above M_allLifts M_busy M_longest M_onto M_worst M_best M_orders M_together M_ofOne M_ofOther M_seed M_then M_was M_kept M_held M_kindOn M_figureOn M_sorts M_size M_items M_moved M_thrown)) (kX10_swap_coming l D ca t ad_M M_guests M_kind M_figure M_told M_heaps M_holds M_back M_mistakes M_hooks M_letters M_rule M_at M_well M_sort M_text M_row M_field M_fields M_begins M_ruleLetters M_coming M_comingMany M_going M_goingMany M_minute M_pile M_high M_where M_latest M_lifts M_begun M_left M_has M_lifted M_taken M_above M_allLifts M_busy M_longest M_onto M_worst M_best M_orders M_together M_ofOne M_ofOther M_seed M_then M_was M_kept M_held M_kindOn M_figureOn M_sorts M_size M_items M_moved M_thrown v5 v6 fuel _ hc_17) ⟨hx, hb, hml, hown, hts⟩ (zcwV hts zm_247 zm_248 zm_249 zm_19 zm_246 rfl rfl zdv_X10_swap ⟨Nat.le_of_ble_eq_true rfl, Nat.le_of_ble_eq_true rfl⟩) hA hK hZ hP hD hS [0, 1, 2, 3, 4, 5, 6, 7, 8, 9, 10, 11, 12, 13, 14, 15, 16, 17, 18, 19, 20, 21, 22, 23, 24, 25, 26, 27, 28, 29, 30, 31, 32, 33] [] [0, 1, 2, 3, 4, 5, 6, 7, 8, 9, 10, 11, 12, 13, 14, 15, 16, 17, 18, 19, 20, 21, 22, 23, 24, 25, 26, 27, 28, 29, 30, 31, 32, 33] rfl rfl rfl rfl rfl rfl rfl 7 0 rfl rfl rfl hl.1 (Nat.le_of_ble_eq_true rfl) dX10_nextOrder_83 rfl (fun H locs hP hD hS => ?_)
        refine z_iinc (kv := 1) hx hb 2 dX10_nextOrder_86 hl rfl (by decide) (by decide) (fun g => [(5, .int g), (0, .ref (ad_M 0)), (1, .ref (ad_M 8)), (6, .int v6)]) (fun _ => rfl) hF (fun v5_18 ls hF hl => ?_)
        refine z_iinc (kv := (-1)) hx hb 3 dX10_nextOrder_89 hl rfl (by decide) (by decide) (fun g => [(6, .int g), (5, .int v5_18), (0, .ref (ad_M 0)), (1, .ref (ad_M 8))]) (fun _ => rfl) hF (fun v6_19 ls hF hl => ?_)
        refine lv_goto (tgt := 70) hx hb dX10_nextOrder_92 (by decide) ?_
        exact ih70 v5_18 v6_19 o_17 _ _ hF hP hD hS ls (lv_sub hl [2, 3, 1, 0] rfl)
  have j52 : ∀ (v3 : Int32) (v4 : Int32) (M_coming : Nat → Int32) (H : Heap) (locs : List Loc), fX10_nextOrder_coming_J52 fuel p2 v3 v4 M_coming = some o → va_P D vwCl (wX10_M ca ad_M M_guests M_kind M_figure M_told M_heaps M_holds M_back M_mistakes M_hooks M_letters M_rule M_at M_well M_sort M_text M_row M_field M_fields M_begins M_ruleLetters M_coming M_comingMany M_going M_goingMany M_minute M_pile M_high M_where M_latest M_lifts M_begun M_left M_has M_lifted M_taken M_above M_allLifts M_busy M_longest M_onto M_worst M_best M_orders M_together M_ofOne M_ofOther M_seed M_then M_was M_kept M_held M_kindOn M_figureOn M_sorts M_size M_items M_moved M_thrown) H → va_D A (wX10_M ca ad_M M_guests M_kind M_figure M_told M_heaps M_holds M_back M_mistakes M_hooks M_letters M_rule M_at M_well M_sort M_text M_row M_field M_fields M_begins M_ruleLetters M_coming M_comingMany M_going M_goingMany M_minute M_pile M_high M_where M_latest M_lifts M_begun M_left M_has M_lifted M_taken M_above M_allLifts M_busy M_longest M_onto M_worst M_best M_orders M_together M_ofOne M_ofOther M_seed M_then M_was M_kept M_held M_kindOn M_figureOn M_sorts M_size M_items M_moved M_thrown) → va_S A s.heap H locs → ∀ ls : Array Slot, lv_has ls 7 [(0, .ref (ad_M 0)), (1, .ref (ad_M 8)), (2, .int p2), (3, .int v3), (4, .int v4)] → W p l e roX10_nextOrder_coming s m args below meth c H locs 0 0 Q (F0 m 52 ls []) := by
    intro v3 v4 M_coming H locs hF hP hD hS ls hl
    unfold fX10_nextOrder_coming_J52 at hF
    refine lv_aload_n hx hb dX10_nextOrder_52 rfl (lv_at hl 0 rfl) ?_
    refine lv_aload_n hx hb dX10_nextOrder_53 rfl (lv_at hl 1 rfl) ?_
    refine lv_iload_n hx hb dX10_nextOrder_54 rfl (lv_at hl 3 rfl) ?_
    refine lv_iload hx hb dX10_nextOrder_55 (lv_at hl 4 rfl) ?_
    obtain ⟨o_13, hc_13, hF⟩ := zb hF
    refine zcVv (rest := []) (ws' := (wX10_M ca ad_M M_guests M_kind M_figure M_told M_heaps M_holds M_back M_mistakes M_hooks M_letters M_rule M_at M_well M_sort M_text M_row M_field M_fields M_begins M_ruleLetters o_13 M_comingMany M_going M_goingMany M_minute M_pile M_high M_where M_latest M_lifts M_begun M_left M_has M_lifted M_taken M_above M_allLifts M_busy M_longest M_onto M_worst M_best M_orders M_together M_ofOne M_ofOther M_seed M_then M_was M_kept M_held M_kindOn M_figureOn M_sorts M_size M_items M_moved M_thrown)) (kX10_swap_coming l D ca t ad_M M_guests M_kind M_figure M_told M_heaps M_holds M_back M_mistakes M_hooks M_letters M_rule M_at M_well M_sort M_text M_row M_field M_fields M_begins M_ruleLetters M_coming M_comingMany M_going M_goingMany M_minute M_pile M_high M_where M_latest M_lifts M_begun M_left M_has M_lifted M_taken M_above M_allLifts M_busy M_longest M_onto M_worst M_best M_orders M_together M_ofOne M_ofOther M_seed M_then M_was M_kept M_held M_kindOn M_figureOn M_sorts M_size M_items M_moved M_thrown v3 v4 fuel _ hc_13) ⟨hx, hb, hml, hown, hts⟩ (zcwV hts zm_247 zm_248 zm_249 zm_19 zm_246 rfl rfl zdv_X10_swap ⟨Nat.le_of_ble_eq_true rfl, Nat.le_of_ble_eq_true rfl⟩) hA hK hZ hP hD hS [0, 1, 2, 3, 4, 5, 6, 7, 8, 9, 10, 11, 12, 13, 14, 15, 16, 17, 18, 19, 20, 21, 22, 23, 24, 25, 26, 27, 28, 29, 30, 31, 32, 33] [] [0, 1, 2, 3, 4, 5, 6, 7, 8, 9, 10, 11, 12, 13, 14, 15, 16, 17, 18, 19, 20, 21, 22, 23, 24, 25, 26, 27, 28, 29, 30, 31, 32, 33] rfl rfl rfl rfl rfl rfl rfl 7 0 rfl rfl rfl hl.1 (Nat.le_of_ble_eq_true rfl) dX10_nextOrder_57 rfl (fun H locs hP hD hS => ?_)
    refine lv_iload_n hx hb dX10_nextOrder_60 rfl (lv_at hl 3 rfl) ?_
    refine lv_iconst (v := 1) hx hb dX10_nextOrder_61 (by decide) ?_
    refine lv_iadd hx hb dX10_nextOrder_62 ?_
    refine z_let hF (fun v5_14 hF => ?_)
    refine lv_istore (lv' := [(5, .int v5_14), (0, .ref (ad_M 0)), (1, .ref (ad_M 8)), (2, .int p2), (3, .int v3), (4, .int v4)]) hx hb dX10_nextOrder_63 hl (by decide) rfl (fun ls hl => ?_)
    refine lv_iload_n hx hb dX10_nextOrder_65 rfl (lv_at hl 3 rfl) ?_
    refine lv_iconst (v := 1) hx hb dX10_nextOrder_66 (by decide) ?_
    refine lv_isub hx hb dX10_nextOrder_67 ?_
    refine z_let hF (fun v6_15 hF => ?_)
    refine lv_istore (lv' := [(6, .int v6_15), (5, .int v5_14), (0, .ref (ad_M 0)), (1, .ref (ad_M 8)), (2, .int p2), (3, .int v3), (4, .int v4)]) hx hb dX10_nextOrder_68 hl (by decide) rfl (fun ls hl => ?_)
    exact l70 fuel v5_14 v6_15 o_13 _ _ hF hP hD hS ls (lv_sub hl [2, 3, 1, 0] rfl)
  have l36 : ∀ (n36 : Nat) (v3 : Int32) (v4 : Int32) (M_coming : Nat → Int32) (H : Heap) (locs : List Loc), fX10_nextOrder_coming_L36 fuel p2 n36 v3 v4 M_coming = some o → va_P D vwCl (wX10_M ca ad_M M_guests M_kind M_figure M_told M_heaps M_holds M_back M_mistakes M_hooks M_letters M_rule M_at M_well M_sort M_text M_row M_field M_fields M_begins M_ruleLetters M_coming M_comingMany M_going M_goingMany M_minute M_pile M_high M_where M_latest M_lifts M_begun M_left M_has M_lifted M_taken M_above M_allLifts M_busy M_longest M_onto M_worst M_best M_orders M_together M_ofOne M_ofOther M_seed M_then M_was M_kept M_held M_kindOn M_figureOn M_sorts M_size M_items M_moved M_thrown) H → va_D A (wX10_M ca ad_M M_guests M_kind M_figure M_told M_heaps M_holds M_back M_mistakes M_hooks M_letters M_rule M_at M_well M_sort M_text M_row M_field M_fields M_begins M_ruleLetters M_coming M_comingMany M_going M_goingMany M_minute M_pile M_high M_where M_latest M_lifts M_begun M_left M_has M_lifted M_taken M_above M_allLifts M_busy M_longest M_onto M_worst M_best M_orders M_together M_ofOne M_ofOther M_seed M_then M_was M_kept M_held M_kindOn M_figureOn M_sorts M_size M_items M_moved M_thrown) → va_S A s.heap H locs → ∀ ls : Array Slot, lv_has ls 7 [(0, .ref (ad_M 0)), (1, .ref (ad_M 8)), (2, .int p2), (3, .int v3), (4, .int v4)] → W p l e roX10_nextOrder_coming s m args below meth c H locs 0 0 Q (F0 m 36 ls []) := by
    intro n36
    induction n36 with
    | zero =>
      intro v3 v4 M_coming H locs hF
      rw [fX10_nextOrder_coming_L36] at hF
      cases hF
    | succ n36 ih36 =>
      intro v3 v4 M_coming H locs hF hP hD hS ls hl
      rw [fX10_nextOrder_coming_L36] at hF
      refine lv_aload_n hx hb dX10_nextOrder_36 rfl (lv_at hl 1 rfl) ?_
      refine lv_iload hx hb dX10_nextOrder_37 (lv_at hl 4 rfl) ?_
      obtain ⟨h_9, hF⟩ := zgi hF
      refine va_iald hx hb hK hP 8 0 rfl rfl h_9 dX10_nextOrder_39 ?_
      refine lv_aload_n hx hb dX10_nextOrder_40 rfl (lv_at hl 1 rfl) ?_
      refine lv_iload_n hx hb dX10_nextOrder_41 rfl (lv_at hl 3 rfl) ?_
      obtain ⟨h_10, hF⟩ := zgi hF
      refine va_iald hx hb hK hP 8 0 rfl rfl h_10 dX10_nextOrder_42 ?_
      refine lv_icmp_ge (tgt := 52) hx hb dX10_nextOrder_43 (by decide) (fun c_11 => ?_) (fun c_11 => ?_)
      · have hF := zt c_11 hF
        exact j52 v3 v4 M_coming _ _ hF hP hD hS ls (lv_sub hl [0, 1, 2, 3, 4] rfl)
      · have hF := zf c_11 hF
        refine z_iinc (kv := (-1)) hx hb 4 dX10_nextOrder_46 hl rfl (by decide) (by decide) (fun g => [(4, .int g), (0, .ref (ad_M 0)), (1, .ref (ad_M 8)), (2, .int p2), (3, .int v3)]) (fun _ => rfl) hF (fun v4_12 ls hF hl => ?_)
        refine lv_goto (tgt := 36) hx hb dX10_nextOrder_49 (by decide) ?_
        exact ih36 v3 v4_12 M_coming _ _ hF hP hD hS ls (lv_sub hl [1, 2, 3, 4, 0] rfl)
  have j25 : ∀ (v3 : Int32) (M_coming : Nat → Int32) (H : Heap) (locs : List Loc), fX10_nextOrder_coming_J25 fuel p2 v3 M_coming = some o → va_P D vwCl (wX10_M ca ad_M M_guests M_kind M_figure M_told M_heaps M_holds M_back M_mistakes M_hooks M_letters M_rule M_at M_well M_sort M_text M_row M_field M_fields M_begins M_ruleLetters M_coming M_comingMany M_going M_goingMany M_minute M_pile M_high M_where M_latest M_lifts M_begun M_left M_has M_lifted M_taken M_above M_allLifts M_busy M_longest M_onto M_worst M_best M_orders M_together M_ofOne M_ofOther M_seed M_then M_was M_kept M_held M_kindOn M_figureOn M_sorts M_size M_items M_moved M_thrown) H → va_D A (wX10_M ca ad_M M_guests M_kind M_figure M_told M_heaps M_holds M_back M_mistakes M_hooks M_letters M_rule M_at M_well M_sort M_text M_row M_field M_fields M_begins M_ruleLetters M_coming M_comingMany M_going M_goingMany M_minute M_pile M_high M_where M_latest M_lifts M_begun M_left M_has M_lifted M_taken M_above M_allLifts M_busy M_longest M_onto M_worst M_best M_orders M_together M_ofOne M_ofOther M_seed M_then M_was M_kept M_held M_kindOn M_figureOn M_sorts M_size M_items M_moved M_thrown) → va_S A s.heap H locs → ∀ ls : Array Slot, lv_has ls 7 [(0, .ref (ad_M 0)), (1, .ref (ad_M 8)), (2, .int p2), (3, .int v3)] → W p l e roX10_nextOrder_coming s m args below meth c H locs 0 0 Q (F0 m 25 ls []) := by
    intro v3 M_coming H locs hF hP hD hS ls hl
    unfold fX10_nextOrder_coming_J25 at hF
    refine lv_iload_n hx hb dX10_nextOrder_25 rfl (lv_at hl 3 rfl) ?_
    refine lv_if_ge (tgt := 31) hx hb dX10_nextOrder_26 (by decide) (fun c_7 => ?_) (fun c_7 => ?_)
    · have hF := zt c_7 hF
      refine lv_iload_n hx hb dX10_nextOrder_31 rfl (lv_at hl 2 rfl) ?_
      refine lv_iconst (v := 1) hx hb dX10_nextOrder_32 (by decide) ?_
      refine lv_isub hx hb dX10_nextOrder_33 ?_
      refine z_let hF (fun v4_8 hF => ?_)
      refine lv_istore (lv' := [(4, .int v4_8), (0, .ref (ad_M 0)), (1, .ref (ad_M 8)), (2, .int p2), (3, .int v3)]) hx hb dX10_nextOrder_34 hl (by decide) rfl (fun ls hl => ?_)
      exact l36 fuel v3 v4_8 M_coming _ _ hF hP hD hS ls (lv_sub hl [1, 2, 3, 4, 0] rfl)
    · have hF := zf c_7 hF
      refine lv_iconst (v := 0) hx hb dX10_nextOrder_29 (by decide) ?_
      obtain rfl := Option.some.inj hF
      exact hret _ _ _ _ hP hD hS (zbool (Or.inl rfl)) dX10_nextOrder_30
  have l4 : ∀ (n4 : Nat) (v3 : Int32) (M_coming : Nat → Int32) (H : Heap) (locs : List Loc), fX10_nextOrder_coming_L4 fuel p2 n4 v3 M_coming = some o → va_P D vwCl (wX10_M ca ad_M M_guests M_kind M_figure M_told M_heaps M_holds M_back M_mistakes M_hooks M_letters M_rule M_at M_well M_sort M_text M_row M_field M_fields M_begins M_ruleLetters M_coming M_comingMany M_going M_goingMany M_minute M_pile M_high M_where M_latest M_lifts M_begun M_left M_has M_lifted M_taken M_above M_allLifts M_busy M_longest M_onto M_worst M_best M_orders M_together M_ofOne M_ofOther M_seed M_then M_was M_kept M_held M_kindOn M_figureOn M_sorts M_size M_items M_moved M_thrown) H → va_D A (wX10_M ca ad_M M_guests M_kind M_figure M_told M_heaps M_holds M_back M_mistakes M_hooks M_letters M_rule M_at M_well M_sort M_text M_row M_field M_fields M_begins M_ruleLetters M_coming M_comingMany M_going M_goingMany M_minute M_pile M_high M_where M_latest M_lifts M_begun M_left M_has M_lifted M_taken M_above M_allLifts M_busy M_longest M_onto M_worst M_best M_orders M_together M_ofOne M_ofOther M_seed M_then M_was M_kept M_held M_kindOn M_figureOn M_sorts M_size M_items M_moved M_thrown) → va_S A s.heap H locs → ∀ ls : Array Slot, lv_has ls 7 [(0, .ref (ad_M 0)), (1, .ref (ad_M 8)), (2, .int p2), (3, .int v3)] → W p l e roX10_nextOrder_coming s m args below meth c H locs 0 0 Q (F0 m 4 ls []) := by
    intro n4
    induction n4 with
    | zero =>
      intro v3 M_coming H locs hF
      rw [fX10_nextOrder_coming_L4] at hF
      cases hF
    | succ n4 ih4 =>
      intro v3 M_coming H locs hF hP hD hS ls hl
      rw [fX10_nextOrder_coming_L4] at hF
      refine lv_iload_n hx hb dX10_nextOrder_4 rfl (lv_at hl 3 rfl) ?_
      refine lv_if_lt (tgt := 25) hx hb dX10_nextOrder_5 (by decide) (fun c_2 => ?_) (fun c_2 => ?_)
      · have hF := zt c_2 hF
        exact j25 v3 M_coming _ _ hF hP hD hS ls (lv_sub hl [0, 1, 2, 3] rfl)
      · have hF := zf c_2 hF
        refine lv_aload_n hx hb dX10_nextOrder_8 rfl (lv_at hl 1 rfl) ?_
        refine lv_iload_n hx hb dX10_nextOrder_9 rfl (lv_at hl 3 rfl) ?_
        obtain ⟨h_3, hF⟩ := zgi hF
        refine va_iald hx hb hK hP 8 0 rfl rfl h_3 dX10_nextOrder_10 ?_
        refine lv_aload_n hx hb dX10_nextOrder_11 rfl (lv_at hl 1 rfl) ?_
        refine lv_iload_n hx hb dX10_nextOrder_12 rfl (lv_at hl 3 rfl) ?_
        refine lv_iconst (v := 1) hx hb dX10_nextOrder_13 (by decide) ?_
        refine lv_iadd hx hb dX10_nextOrder_14 ?_
        obtain ⟨h_4, hF⟩ := zgi hF
        refine va_iald hx hb hK hP 8 0 rfl rfl h_4 dX10_nextOrder_15 ?_
        refine lv_icmp_le (tgt := 25) hx hb dX10_nextOrder_16 (by decide) (fun c_5 => ?_) (fun c_5 => ?_)
        · have hF := zt c_5 hF
          exact j25 v3 M_coming _ _ hF hP hD hS ls (lv_sub hl [0, 1, 2, 3] rfl)
        · have hF := zf c_5 hF
          refine z_iinc (kv := (-1)) hx hb 3 dX10_nextOrder_19 hl rfl (by decide) (by decide) (fun g => [(3, .int g), (0, .ref (ad_M 0)), (1, .ref (ad_M 8)), (2, .int p2)]) (fun _ => rfl) hF (fun v3_6 ls hF hl => ?_)
          refine lv_goto (tgt := 4) hx hb dX10_nextOrder_22 (by decide) ?_
          exact ih4 v3_6 M_coming _ _ hF hP hD hS ls (lv_sub hl [1, 2, 3, 0] rfl)
  unfold fX10_nextOrder_coming at hF
  refine lv_iload_n hx hb dX10_nextOrder_0 rfl (lv_at hl 2 rfl) ?_
  refine lv_iconst (v := 2) hx hb dX10_nextOrder_1 (by decide) ?_
  refine lv_isub hx hb dX10_nextOrder_2 ?_
  refine z_let hF (fun v3_1 hF => ?_)
  refine lv_istore_n (lv' := [(3, .int v3_1), (0, .ref (ad_M 0)), (1, .ref (ad_M 8)), (2, .int p2)]) hx hb dX10_nextOrder_3 rfl hl (by decide) rfl (fun ls hl => ?_)
  exact l4 fuel v3_1 M_coming _ _ hF hP hD hS ls (lv_sub hl [1, 2, 3, 0] rfl)
theorem zdv_X10_nextOrder : yX10_nextOrder.cls = RX10 ∧ yX10_nextOrder.cls ≠ "java/lang/invoke/MethodHandle" ∧ yX10_nextOrder.cls ≠ "java/lang/invoke/VarHandle" ∧ (parseMethodDescriptor yX10_nextOrder.desc).map (fun d => d.parameters.length) = some 2 := by decide +kernel
abbrev roX10_allOrders : Room := { frames := 7, cells := 0, slots := 0, locals := 158 }
set_option maxHeartbeats 4000000 in
set_option maxRecDepth 100000 in
theorem kX10_allOrders (l : Launch) (D : va_G) (ca : Nat → ClassId) (t : Nat → Nat) (ad_M : Nat → Nat) (M_guests : Int32) (M_kind : Nat → Int32) (M_figure : Nat → Int32) (M_told : Nat → Int32) (M_heaps : Int32) (M_holds : Int32) (M_back : Int32) (M_mistakes : Int32) (M_hooks : Int32) (M_letters : Int32) (M_rule : Nat → Int32) (M_at : Int32) (M_well : Int32) (M_sort : Int32) (M_text : Int32) (M_row : Int32) (M_field : Nat → Int32) (M_fields : Int32) (M_begins : Nat → Int32) (M_ruleLetters : Nat → Int32) (M_coming : Nat → Int32) (M_comingMany : Int32) (M_going : Nat → Int32) (M_goingMany : Int32) (M_minute : Nat → Int32) (M_pile : Nat → Int32) (M_high : Nat → Int32) (M_where : Nat → Int32) (M_latest : Int32) (M_lifts : Nat → Int32) (M_begun : Nat → Int32) (M_left : Nat → Int32) (M_has : Nat → Int32) (M_lifted : Nat → Int32) (M_taken : Nat → Int32) (M_above : Nat → Int32) (M_allLifts : Int32) (M_busy : Int32) (M_longest : Nat → Int32) (M_onto : Nat → Int32) (M_worst : Int32) (M_best : Int32) (M_orders : Int32) (M_together : Int32) (M_ofOne : Nat → Int32) (M_ofOther : Nat → Int32) (M_seed : Int32) (M_then : Nat → Int32) (M_was : Nat → Int32) (M_kept : Int32) (M_held : Nat → Int32) (M_kindOn : Nat → Int32) (M_figureOn : Nat → Int32) (M_sorts : Nat → Int32) (M_size : Nat → Int32) (M_items : Nat → Int32) (M_moved : Nat → Int32) (M_thrown : Int32) (fuel : Nat) (o : (Nat → Int32) × Int32 × (Nat → Int32) × Int32 × (Nat → Int32) × (Nat → Int32) × (Nat → Int32) × (Nat → Int32) × Int32 × (Nat → Int32) × (Nat → Int32) × (Nat → Int32) × (Nat → Int32) × (Nat → Int32) × (Nat → Int32) × (Nat → Int32) × Int32 × Int32 × Int32 × Int32 × Int32 × Int32) (hF : fX10_allOrders fuel M_guests M_kind M_figure M_told M_heaps M_holds M_back M_mistakes M_hooks M_letters M_rule M_coming M_comingMany M_going M_goingMany M_minute M_pile M_high M_where M_latest M_lifts M_begun M_left M_has M_lifted M_taken M_above M_allLifts M_busy M_worst M_best M_orders M_together = some o) : zMv l D (zT ca) t yX10_allOrders (.code yX10_allOrders cX10_allOrders 3 none :: zW) roX10_allOrders [.ref (ad_M 0)] (wX10_M ca ad_M M_guests M_kind M_figure M_told M_heaps M_holds M_back M_mistakes M_hooks M_letters M_rule M_at M_well M_sort M_text M_row M_field M_fields M_begins M_ruleLetters M_coming M_comingMany M_going M_goingMany M_minute M_pile M_high M_where M_latest M_lifts M_begun M_left M_has M_lifted M_taken M_above M_allLifts M_busy M_longest M_onto M_worst M_best M_orders M_together M_ofOne M_ofOther M_seed M_then M_was M_kept M_held M_kindOn M_figureOn M_sorts M_size M_items M_moved M_thrown) (wX10_M ca ad_M M_guests M_kind M_figure M_told M_heaps M_holds M_back M_mistakes M_hooks M_letters M_rule M_at M_well M_sort M_text M_row M_field M_fields M_begins M_ruleLetters o.1 o.2.1 o.2.2.1 o.2.2.2.1 o.2.2.2.2.1 o.2.2.2.2.2.1 o.2.2.2.2.2.2.1 o.2.2.2.2.2.2.2.1 o.2.2.2.2.2.2.2.2.1 o.2.2.2.2.2.2.2.2.2.1 o.2.2.2.2.2.2.2.2.2.2.1 o.2.2.2.2.2.2.2.2.2.2.2.1 o.2.2.2.2.2.2.2.2.2.2.2.2.1 o.2.2.2.2.2.2.2.2.2.2.2.2.2.1 o.2.2.2.2.2.2.2.2.2.2.2.2.2.2.1 o.2.2.2.2.2.2.2.2.2.2.2.2.2.2.2.1 o.2.2.2.2.2.2.2.2.2.2.2.2.2.2.2.2.1 o.2.2.2.2.2.2.2.2.2.2.2.2.2.2.2.2.2.1 M_longest M_onto o.2.2.2.2.2.2.2.2.2.2.2.2.2.2.2.2.2.2.1 o.2.2.2.2.2.2.2.2.2.2.2.2.2.2.2.2.2.2.2.1 o.2.2.2.2.2.2.2.2.2.2.2.2.2.2.2.2.2.2.2.2.1 o.2.2.2.2.2.2.2.2.2.2.2.2.2.2.2.2.2.2.2.2.2 M_ofOne M_ofOther M_seed M_then M_was M_kept M_held M_kindOn M_figureOn M_sorts M_size M_items M_moved M_thrown) := by
  refine zMv_of (cc := cX10_allOrders) (maxL := 3) (by decide) rfl (Nat.le_of_ble_eq_true rfl) ?_
  intro p e s m args below meth c A Q ls ⟨hx, hb, hml, hown, hts, hA, hK, hZ, hS⟩ hret hP hD hl
  have hts := fun w h => hts w (List.mem_cons_of_mem _ h)
  have hown : s.vm.findClass RX10 = some m.cls := hown
  have hl : lv_has ls 3 [(0, .ref (ad_M 0))] := hl
  have hin10 := zin_X10
  have l51 : ∀ (n51 : Nat) (v1 : Int32) (M_coming : Nat → Int32) (M_comingMany : Int32) (M_going : Nat → Int32) (M_goingMany : Int32) (M_minute : Nat → Int32) (M_pile : Nat → Int32) (M_high : Nat → Int32) (M_where : Nat → Int32) (M_latest : Int32) (M_lifts : Nat → Int32) (M_begun : Nat → Int32) (M_left : Nat → Int32) (M_has : Nat → Int32) (M_lifted : Nat → Int32) (M_taken : Nat → Int32) (M_above : Nat → Int32) (M_allLifts : Int32) (M_busy : Int32) (M_worst : Int32) (M_best : Int32) (M_orders : Int32) (M_together : Int32) (H : Heap) (locs : List Loc), fX10_allOrders_L51 fuel M_guests M_kind M_figure M_heaps M_holds M_back M_mistakes M_hooks M_letters M_rule n51 v1 M_coming M_comingMany M_going M_goingMany M_minute M_pile M_high M_where M_latest M_lifts M_begun M_left M_has M_lifted M_taken M_above M_allLifts M_busy M_worst M_best M_orders M_together = some o → va_P D vwCl (wX10_M ca ad_M M_guests M_kind M_figure M_told M_heaps M_holds M_back M_mistakes M_hooks M_letters M_rule M_at M_well M_sort M_text M_row M_field M_fields M_begins M_ruleLetters M_coming M_comingMany M_going M_goingMany M_minute M_pile M_high M_where M_latest M_lifts M_begun M_left M_has M_lifted M_taken M_above M_allLifts M_busy M_longest M_onto M_worst M_best M_orders M_together M_ofOne M_ofOther M_seed M_then M_was M_kept M_held M_kindOn M_figureOn M_sorts M_size M_items M_moved M_thrown) H → va_D A (wX10_M ca ad_M M_guests M_kind M_figure M_told M_heaps M_holds M_back M_mistakes M_hooks M_letters M_rule M_at M_well M_sort M_text M_row M_field M_fields M_begins M_ruleLetters M_coming M_comingMany M_going M_goingMany M_minute M_pile M_high M_where M_latest M_lifts M_begun M_left M_has M_lifted M_taken M_above M_allLifts M_busy M_longest M_onto M_worst M_best M_orders M_together M_ofOne M_ofOther M_seed M_then M_was M_kept M_held M_kindOn M_figureOn M_sorts M_size M_items M_moved M_thrown) → va_S A s.heap H locs → ∀ ls : Array Slot, lv_has ls 3 [(0, .ref (ad_M 0)), (1, .int v1)] → W p l e roX10_allOrders s m args below meth c H locs 0 0 Q (F0 m 51 ls []) := by
    intro n51
    induction n51 with
    | zero =>
      intro v1 M_coming M_comingMany M_going M_goingMany M_minute M_pile M_high M_where M_latest M_lifts M_begun M_left M_has M_lifted M_taken M_above M_allLifts M_busy M_worst M_best M_orders M_together H locs hF
      rw [fX10_allOrders_L51] at hF
      cases hF
    | succ n51 ih51 =>
      intro v1 M_coming M_comingMany M_going M_goingMany M_minute M_pile M_high M_where M_latest M_lifts M_begun M_left M_has M_lifted M_taken M_above M_allLifts M_busy M_worst M_best M_orders M_together H locs hF hP hD hS ls hl
      rw [fX10_allOrders_L51] at hF
      refine lv_iload_n hx hb dX10_allOrders_51 rfl (lv_at hl 1 rfl) ?_
      refine lv_if_eq (tgt := 120) hx hb dX10_allOrders_52 (by decide) (fun c_6 => ?_) (fun c_6 => ?_)
      · have hF := zt c_6 hF
        obtain rfl := Option.some.inj hF
        exact hret _ _ _ _ hP hD hS dX10_allOrders_120
      · have hF := zf c_6 hF
        refine lv_aload_n hx hb dX10_allOrders_55 rfl (lv_at hl 0 rfl) ?_
        obtain ⟨o_7, hc_7, hF⟩ := zb hF
        refine zcVi (rest := []) (ws' := (wX10_M ca ad_M M_guests M_kind M_figure M_told M_heaps M_holds M_back M_mistakes M_hooks M_letters M_rule M_at M_well M_sort M_text M_row M_field M_fields M_begins M_ruleLetters M_coming M_comingMany M_going M_goingMany M_minute o_7.2.1 o_7.2.2.1 o_7.2.2.2.1 o_7.2.2.2.2.1 o_7.2.2.2.2.2.1 o_7.2.2.2.2.2.2.1 o_7.2.2.2.2.2.2.2.1 o_7.2.2.2.2.2.2.2.2.1 o_7.2.2.2.2.2.2.2.2.2.1 o_7.2.2.2.2.2.2.2.2.2.2.1 o_7.2.2.2.2.2.2.2.2.2.2.2.1 o_7.2.2.2.2.2.2.2.2.2.2.2.2.1 o_7.2.2.2.2.2.2.2.2.2.2.2.2.2 M_longest M_onto M_worst M_best M_orders M_together M_ofOne M_ofOther M_seed M_then M_was M_kept M_held M_kindOn M_figureOn M_sorts M_size M_items M_moved M_thrown)) (kX10_layAndGo l D ca t ad_M M_guests M_kind M_figure M_told M_heaps M_holds M_back M_mistakes M_hooks M_letters M_rule M_at M_well M_sort M_text M_row M_field M_fields M_begins M_ruleLetters M_coming M_comingMany M_going M_goingMany M_minute M_pile M_high M_where M_latest M_lifts M_begun M_left M_has M_lifted M_taken M_above M_allLifts M_busy M_longest M_onto M_worst M_best M_orders M_together M_ofOne M_ofOther M_seed M_then M_was M_kept M_held M_kindOn M_figureOn M_sorts M_size M_items M_moved M_thrown fuel _ hc_7) ⟨hx, hb, hml, hown, hts⟩ (zcwV hts zm_190 zm_191 zm_192 zm_19 zm_189 rfl rfl zdv_X10_layAndGo ⟨Nat.le_of_ble_eq_true rfl, Nat.le_of_ble_eq_true rfl⟩) hA hK hZ hP hD hS [0, 1, 2, 3, 4, 5, 6, 7, 8, 9, 10, 11, 12, 13, 14, 15, 16, 17, 18, 19, 20, 21, 22, 23, 24, 25, 26, 27, 28, 29, 30, 31, 32, 33] [] [0, 1, 2, 3, 4, 5, 6, 7, 8, 9, 10, 11, 12, 13, 14, 15, 16, 17, 18, 19, 20, 21, 22, 23, 24, 25, 26, 27, 28, 29, 30, 31, 32, 33] rfl rfl rfl rfl rfl rfl rfl 7 0 rfl rfl rfl hl.1 (Nat.le_of_ble_eq_true rfl) dX10_allOrders_56 rfl (fun H locs hP hD hS => ?_)
        refine lv_istore_n (lv' := [(2, .int o_7.1), (0, .ref (ad_M 0)), (1, .int v1)]) hx hb dX10_allOrders_59 rfl hl (by decide) rfl (fun ls hl => ?_)
        refine lv_aload_n hx hb dX10_allOrders_60 rfl (lv_at hl 1 rfl) ?_
        refine lv_aload_n hx hb dX10_allOrders_61 rfl (lv_at hl 1 rfl) ?_
        refine va_get (D := D) (ci := 7) (v := .int M_worst) (C := RX10) (T := TX10) (N := 58) hx hb hts hin10 hown hK hP 0 rfl rfl 40 (by decide) (hts _ zm_250) (fun _ h9 => h9) rfl dX10_allOrders_62 ?_
        refine lv_iload_n hx hb dX10_allOrders_65 rfl (lv_at hl 0 rfl) ?_
        refine va_mmax hx hb (hml.trans hl.1.symm) hown (hts _ zm_21) (hts _ zm_22) (hts _ zm_23) (hts _ zm_24) (Nat.le_of_ble_eq_true rfl) (Nat.le_of_ble_eq_true rfl) (Nat.zero_le _) (Nat.zero_le _) dX10_allOrders_66 ?_
        refine z_let hF (fun x_8 hF => ?_)
        refine va_put (D := D) (ci := 7) (v := .int x_8) (C := RX10) (T := TX10) (N := 58) hx hb hts hin10 tyX10 tyX10_ok nmX10 hown hK hP hD hS 0 rfl rfl 40 (by decide) (hts _ zm_250) (fun _ h9 => h9) rfl (tyX10_ok 40 (by decide)) rfl rfl (Nat.le_of_ble_eq_true rfl) dX10_allOrders_69 (fun H locs hP hD hS => ?_)
        have hP : va_P D vwCl (wX10_M ca ad_M M_guests M_kind M_figure M_told M_heaps M_holds M_back M_mistakes M_hooks M_letters M_rule M_at M_well M_sort M_text M_row M_field M_fields M_begins M_ruleLetters M_coming M_comingMany M_going M_goingMany M_minute o_7.2.1 o_7.2.2.1 o_7.2.2.2.1 o_7.2.2.2.2.1 o_7.2.2.2.2.2.1 o_7.2.2.2.2.2.2.1 o_7.2.2.2.2.2.2.2.1 o_7.2.2.2.2.2.2.2.2.1 o_7.2.2.2.2.2.2.2.2.2.1 o_7.2.2.2.2.2.2.2.2.2.2.1 o_7.2.2.2.2.2.2.2.2.2.2.2.1 o_7.2.2.2.2.2.2.2.2.2.2.2.2.1 o_7.2.2.2.2.2.2.2.2.2.2.2.2.2 M_longest M_onto x_8 M_best M_orders M_together M_ofOne M_ofOther M_seed M_then M_was M_kept M_held M_kindOn M_figureOn M_sorts M_size M_items M_moved M_thrown) H := hP
        have hD : va_D A (wX10_M ca ad_M M_guests M_kind M_figure M_told M_heaps M_holds M_back M_mistakes M_hooks M_letters M_rule M_at M_well M_sort M_text M_row M_field M_fields M_begins M_ruleLetters M_coming M_comingMany M_going M_goingMany M_minute o_7.2.1 o_7.2.2.1 o_7.2.2.2.1 o_7.2.2.2.2.1 o_7.2.2.2.2.2.1 o_7.2.2.2.2.2.2.1 o_7.2.2.2.2.2.2.2.1 o_7.2.2.2.2.2.2.2.2.1 o_7.2.2.2.2.2.2.2.2.2.1 o_7.2.2.2.2.2.2.2.2.2.2.1 o_7.2.2.2.2.2.2.2.2.2.2.2.1 o_7.2.2.2.2.2.2.2.2.2.2.2.2.1 o_7.2.2.2.2.2.2.2.2.2.2.2.2.2 M_longest M_onto x_8 M_best M_orders M_together M_ofOne M_ofOther M_seed M_then M_was M_kept M_held M_kindOn M_figureOn M_sorts M_size M_items M_moved M_thrown) := hD
        refine lv_aload_n hx hb dX10_allOrders_72 rfl (lv_at hl 1 rfl) ?_
        refine lv_aload_n hx hb dX10_allOrders_73 rfl (lv_at hl 1 rfl) ?_
        refine va_get (D := D) (ci := 7) (v := .int M_best) (C := RX10) (T := TX10) (N := 58) hx hb hts hin10 hown hK hP 0 rfl rfl 41 (by decide) (hts _ zm_251) (fun _ h9 => h9) rfl dX10_allOrders_74 ?_
        refine lv_iload_n hx hb dX10_allOrders_77 rfl (lv_at hl 0 rfl) ?_
        refine va_mmin hx hb (hml.trans hl.1.symm) hown (hts _ zm_227) (hts _ zm_228) (hts _ zm_23) (hts _ zm_229) (Nat.le_of_ble_eq_true rfl) (Nat.le_of_ble_eq_true rfl) (Nat.zero_le _) (Nat.zero_le _) dX10_allOrders_78 ?_
        refine z_let hF (fun x_9 hF => ?_)
        refine va_put (D := D) (ci := 7) (v := .int x_9) (C := RX10) (T := TX10) (N := 58) hx hb hts hin10 tyX10 tyX10_ok nmX10 hown hK hP hD hS 0 rfl rfl 41 (by decide) (hts _ zm_251) (fun _ h9 => h9) rfl (tyX10_ok 41 (by decide)) rfl rfl (Nat.le_of_ble_eq_true rfl) dX10_allOrders_81 (fun H locs hP hD hS => ?_)
        have hP : va_P D vwCl (wX10_M ca ad_M M_guests M_kind M_figure M_told M_heaps M_holds M_back M_mistakes M_hooks M_letters M_rule M_at M_well M_sort M_text M_row M_field M_fields M_begins M_ruleLetters M_coming M_comingMany M_going M_goingMany M_minute o_7.2.1 o_7.2.2.1 o_7.2.2.2.1 o_7.2.2.2.2.1 o_7.2.2.2.2.2.1 o_7.2.2.2.2.2.2.1 o_7.2.2.2.2.2.2.2.1 o_7.2.2.2.2.2.2.2.2.1 o_7.2.2.2.2.2.2.2.2.2.1 o_7.2.2.2.2.2.2.2.2.2.2.1 o_7.2.2.2.2.2.2.2.2.2.2.2.1 o_7.2.2.2.2.2.2.2.2.2.2.2.2.1 o_7.2.2.2.2.2.2.2.2.2.2.2.2.2 M_longest M_onto x_8 x_9 M_orders M_together M_ofOne M_ofOther M_seed M_then M_was M_kept M_held M_kindOn M_figureOn M_sorts M_size M_items M_moved M_thrown) H := hP
        have hD : va_D A (wX10_M ca ad_M M_guests M_kind M_figure M_told M_heaps M_holds M_back M_mistakes M_hooks M_letters M_rule M_at M_well M_sort M_text M_row M_field M_fields M_begins M_ruleLetters M_coming M_comingMany M_going M_goingMany M_minute o_7.2.1 o_7.2.2.1 o_7.2.2.2.1 o_7.2.2.2.2.1 o_7.2.2.2.2.2.1 o_7.2.2.2.2.2.2.1 o_7.2.2.2.2.2.2.2.1 o_7.2.2.2.2.2.2.2.2.1 o_7.2.2.2.2.2.2.2.2.2.1 o_7.2.2.2.2.2.2.2.2.2.2.1 o_7.2.2.2.2.2.2.2.2.2.2.2.1 o_7.2.2.2.2.2.2.2.2.2.2.2.2.1 o_7.2.2.2.2.2.2.2.2.2.2.2.2.2 M_longest M_onto x_8 x_9 M_orders M_together M_ofOne M_ofOther M_seed M_then M_was M_kept M_held M_kindOn M_figureOn M_sorts M_size M_items M_moved M_thrown) := hD
        refine lv_aload_n hx hb dX10_allOrders_84 rfl (lv_at hl 1 rfl) ?_
        refine lv_dup hx hb dX10_allOrders_85 rfl ?_
        refine va_get (D := D) (ci := 7) (v := .int M_together) (C := RX10) (T := TX10) (N := 58) hx hb hts hin10 hown hK hP 0 rfl rfl 43 (by decide) (hts _ zm_253) (fun _ h9 => h9) rfl dX10_allOrders_86 ?_
        refine lv_iload_n hx hb dX10_allOrders_89 rfl (lv_at hl 0 rfl) ?_
        refine lv_iadd hx hb dX10_allOrders_90 ?_
        refine z_let hF (fun together_10 hF => ?_)
        refine va_put (D := D) (ci := 7) (v := .int together_10) (C := RX10) (T := TX10) (N := 58) hx hb hts hin10 tyX10 tyX10_ok nmX10 hown hK hP hD hS 0 rfl rfl 43 (by decide) (hts _ zm_253) (fun _ h9 => h9) rfl (tyX10_ok 43 (by decide)) rfl rfl (Nat.le_of_ble_eq_true rfl) dX10_allOrders_91 (fun H locs hP hD hS => ?_)
        have hP : va_P D vwCl (wX10_M ca ad_M M_guests M_kind M_figure M_told M_heaps M_holds M_back M_mistakes M_hooks M_letters M_rule M_at M_well M_sort M_text M_row M_field M_fields M_begins M_ruleLetters M_coming M_comingMany M_going M_goingMany M_minute o_7.2.1 o_7.2.2.1 o_7.2.2.2.1 o_7.2.2.2.2.1 o_7.2.2.2.2.2.1 o_7.2.2.2.2.2.2.1 o_7.2.2.2.2.2.2.2.1 o_7.2.2.2.2.2.2.2.2.1 o_7.2.2.2.2.2.2.2.2.2.1 o_7.2.2.2.2.2.2.2.2.2.2.1 o_7.2.2.2.2.2.2.2.2.2.2.2.1 o_7.2.2.2.2.2.2.2.2.2.2.2.2.1 o_7.2.2.2.2.2.2.2.2.2.2.2.2.2 M_longest M_onto x_8 x_9 M_orders together_10 M_ofOne M_ofOther M_seed M_then M_was M_kept M_held M_kindOn M_figureOn M_sorts M_size M_items M_moved M_thrown) H := hP
        have hD : va_D A (wX10_M ca ad_M M_guests M_kind M_figure M_told M_heaps M_holds M_back M_mistakes M_hooks M_letters M_rule M_at M_well M_sort M_text M_row M_field M_fields M_begins M_ruleLetters M_coming M_comingMany M_going M_goingMany M_minute o_7.2.1 o_7.2.2.1 o_7.2.2.2.1 o_7.2.2.2.2.1 o_7.2.2.2.2.2.1 o_7.2.2.2.2.2.2.1 o_7.2.2.2.2.2.2.2.1 o_7.2.2.2.2.2.2.2.2.1 o_7.2.2.2.2.2.2.2.2.2.1 o_7.2.2.2.2.2.2.2.2.2.2.1 o_7.2.2.2.2.2.2.2.2.2.2.2.1 o_7.2.2.2.2.2.2.2.2.2.2.2.2.1 o_7.2.2.2.2.2.2.2.2.2.2.2.2.2 M_longest M_onto x_8 x_9 M_orders together_10 M_ofOne M_ofOther M_seed M_then M_was M_kept M_held M_kindOn M_figureOn M_sorts M_size M_items M_moved M_thrown) := hD
        refine lv_aload_n hx hb dX10_allOrders_94 rfl (lv_at hl 1 rfl) ?_
        refine lv_dup hx hb dX10_allOrders_95 rfl ?_
        refine va_get (D := D) (ci := 7) (v := .int M_orders) (C := RX10) (T := TX10) (N := 58) hx hb hts hin10 hown hK hP 0 rfl rfl 42 (by decide) (hts _ zm_252) (fun _ h9 => h9) rfl dX10_allOrders_96 ?_
        refine lv_iconst (v := 1) hx hb dX10_allOrders_99 (by decide) ?_
        refine lv_iadd hx hb dX10_allOrders_100 ?_
        refine z_let hF (fun orders_11 hF => ?_)
        refine va_put (D := D) (ci := 7) (v := .int orders_11) (C := RX10) (T := TX10) (N := 58) hx hb hts hin10 tyX10 tyX10_ok nmX10 hown hK hP hD hS 0 rfl rfl 42 (by decide) (hts _ zm_252) (fun _ h9 => h9) rfl (tyX10_ok 42 (by decide)) rfl rfl (Nat.le_of_ble_eq_true rfl) dX10_allOrders_101 (fun H locs hP hD hS => ?_)
        have hP : va_P D vwCl (wX10_M ca ad_M M_guests M_kind M_figure M_told M_heaps M_holds M_back M_mistakes M_hooks M_letters M_rule M_at M_well M_sort M_text M_row M_field M_fields M_begins M_ruleLetters M_coming M_comingMany M_going M_goingMany M_minute o_7.2.1 o_7.2.2.1 o_7.2.2.2.1 o_7.2.2.2.2.1 o_7.2.2.2.2.2.1 o_7.2.2.2.2.2.2.1 o_7.2.2.2.2.2.2.2.1 o_7.2.2.2.2.2.2.2.2.1 o_7.2.2.2.2.2.2.2.2.2.1 o_7.2.2.2.2.2.2.2.2.2.2.1 o_7.2.2.2.2.2.2.2.2.2.2.2.1 o_7.2.2.2.2.2.2.2.2.2.2.2.2.1 o_7.2.2.2.2.2.2.2.2.2.2.2.2.2 M_longest M_onto x_8 x_9 orders_11 together_10 M_ofOne M_ofOther M_seed M_then M_was M_kept M_held M_kindOn M_figureOn M_sorts M_size M_items M_moved M_thrown) H := hP
        have hD : va_D A (wX10_M ca ad_M M_guests M_kind M_figure M_told M_heaps M_holds M_back M_mistakes M_hooks M_letters M_rule M_at M_well M_sort M_text M_row M_field M_fields M_begins M_ruleLetters M_coming M_comingMany M_going M_goingMany M_minute o_7.2.1 o_7.2.2.1 o_7.2.2.2.1 o_7.2.2.2.2.1 o_7.2.2.2.2.2.1 o_7.2.2.2.2.2.2.1 o_7.2.2.2.2.2.2.2.1 o_7.2.2.2.2.2.2.2.2.1 o_7.2.2.2.2.2.2.2.2.2.1 o_7.2.2.2.2.2.2.2.2.2.2.1 o_7.2.2.2.2.2.2.2.2.2.2.2.1 o_7.2.2.2.2.2.2.2.2.2.2.2.2.1 o_7.2.2.2.2.2.2.2.2.2.2.2.2.2 M_longest M_onto x_8 x_9 orders_11 together_10 M_ofOne M_ofOther M_seed M_then M_was M_kept M_held M_kindOn M_figureOn M_sorts M_size M_items M_moved M_thrown) := hD
        refine lv_aload_n hx hb dX10_allOrders_104 rfl (lv_at hl 1 rfl) ?_
        refine lv_aload_n hx hb dX10_allOrders_105 rfl (lv_at hl 1 rfl) ?_
        refine va_get (D := D) (ci := 7) (v := .ref (ad_M 9)) (C := RX10) (T := TX10) (N := 58) hx hb hts hin10 hown hK hP 0 rfl rfl 22 (by decide) (hts _ zm_87) (fun _ h9 => h9) rfl dX10_allOrders_106 ?_
        refine lv_aload_n hx hb dX10_allOrders_109 rfl (lv_at hl 1 rfl) ?_
        refine va_get (D := D) (ci := 7) (v := .int M_guests) (C := RX10) (T := TX10) (N := 58) hx hb hts hin10 hown hK hP 0 rfl rfl 0 (by decide) (hts _ zm_16) (fun _ h9 => h9) rfl dX10_allOrders_110 ?_
        obtain ⟨o_12, hc_12, hF⟩ := zb hF
        refine zcVi (rest := []) (ws' := (wX10_M ca ad_M M_guests M_kind M_figure M_told M_heaps M_holds M_back M_mistakes M_hooks M_letters M_rule M_at M_well M_sort M_text M_row M_field M_fields M_begins M_ruleLetters M_coming M_comingMany o_12.2 M_goingMany M_minute o_7.2.1 o_7.2.2.1 o_7.2.2.2.1 o_7.2.2.2.2.1 o_7.2.2.2.2.2.1 o_7.2.2.2.2.2.2.1 o_7.2.2.2.2.2.2.2.1 o_7.2.2.2.2.2.2.2.2.1 o_7.2.2.2.2.2.2.2.2.2.1 o_7.2.2.2.2.2.2.2.2.2.2.1 o_7.2.2.2.2.2.2.2.2.2.2.2.1 o_7.2.2.2.2.2.2.2.2.2.2.2.2.1 o_7.2.2.2.2.2.2.2.2.2.2.2.2.2 M_longest M_onto x_8 x_9 orders_11 together_10 M_ofOne M_ofOther M_seed M_then M_was M_kept M_held M_kindOn M_figureOn M_sorts M_size M_items M_moved M_thrown)) (kX10_nextOrder_going l D ca t ad_M M_guests M_kind M_figure M_told M_heaps M_holds M_back M_mistakes M_hooks M_letters M_rule M_at M_well M_sort M_text M_row M_field M_fields M_begins M_ruleLetters M_coming M_comingMany M_going M_goingMany M_minute o_7.2.1 o_7.2.2.1 o_7.2.2.2.1 o_7.2.2.2.2.1 o_7.2.2.2.2.2.1 o_7.2.2.2.2.2.2.1 o_7.2.2.2.2.2.2.2.1 o_7.2.2.2.2.2.2.2.2.1 o_7.2.2.2.2.2.2.2.2.2.1 o_7.2.2.2.2.2.2.2.2.2.2.1 o_7.2.2.2.2.2.2.2.2.2.2.2.1 o_7.2.2.2.2.2.2.2.2.2.2.2.2.1 o_7.2.2.2.2.2.2.2.2.2.2.2.2.2 M_longest M_onto x_8 x_9 orders_11 together_10 M_ofOne M_ofOther M_seed M_then M_was M_kept M_held M_kindOn M_figureOn M_sorts M_size M_items M_moved M_thrown M_guests fuel _ hc_12) ⟨hx, hb, hml, hown, hts⟩ (zcwV hts zm_255 zm_256 zm_257 zm_19 zm_254 rfl rfl zdv_X10_nextOrder ⟨Nat.le_of_ble_eq_true rfl, Nat.le_of_ble_eq_true rfl⟩) hA hK hZ hP hD hS [0, 1, 2, 3, 4, 5, 6, 7, 8, 9, 10, 11, 12, 13, 14, 15, 16, 17, 18, 19, 20, 21, 22, 23, 24, 25, 26, 27, 28, 29, 30, 31, 32, 33] [] [0, 1, 2, 3, 4, 5, 6, 7, 8, 9, 10, 11, 12, 13, 14, 15, 16, 17, 18, 19, 20, 21, 22, 23, 24, 25, 26, 27, 28, 29, 30, 31, 32, 33] rfl rfl rfl rfl rfl rfl rfl 7 0 rfl rfl rfl hl.1 (Nat.le_of_ble_eq_true rfl) dX10_allOrders_113 rfl (fun H locs hP hD hS => ?_)
        refine lv_istore_n (lv' := [(1, .int o_12.1), (2, .int o_7.1), (0, .ref (ad_M 0))]) hx hb dX10_allOrders_116 rfl hl (by decide) rfl (fun ls hl => ?_)
        refine lv_goto (tgt := 51) hx hb dX10_allOrders_117 (by decide) ?_
        exact ih51 o_12.1 M_coming M_comingMany o_12.2 M_goingMany M_minute o_7.2.1 o_7.2.2.1 o_7.2.2.2.1 o_7.2.2.2.2.1 o_7.2.2.2.2.2.1 o_7.2.2.2.2.2.2.1 o_7.2.2.2.2.2.2.2.1 o_7.2.2.2.2.2.2.2.2.1 o_7.2.2.2.2.2.2.2.2.2.1 o_7.2.2.2.2.2.2.2.2.2.2.1 o_7.2.2.2.2.2.2.2.2.2.2.2.1 o_7.2.2.2.2.2.2.2.2.2.2.2.2.1 o_7.2.2.2.2.2.2.2.2.2.2.2.2.2 x_8 x_9 orders_11 together_10 _ _ hF hP hD hS ls (lv_sub hl [2, 0] rfl)
  have j49 : ∀ (M_coming : Nat → Int32) (M_comingMany : Int32) (M_going : Nat → Int32) (M_goingMany : Int32) (M_minute : Nat → Int32) (M_pile : Nat → Int32) (M_high : Nat → Int32) (M_where : Nat → Int32) (M_latest : Int32) (M_lifts : Nat → Int32) (M_begun : Nat → Int32) (M_left : Nat → Int32) (M_has : Nat → Int32) (M_lifted : Nat → Int32) (M_taken : Nat → Int32) (M_above : Nat → Int32) (M_allLifts : Int32) (M_busy : Int32) (M_worst : Int32) (M_best : Int32) (M_orders : Int32) (M_together : Int32) (H : Heap) (locs : List Loc), fX10_allOrders_J49 fuel M_guests M_kind M_figure M_heaps M_holds M_back M_mistakes M_hooks M_letters M_rule M_coming M_comingMany M_going M_goingMany M_minute M_pile M_high M_where M_latest M_lifts M_begun M_left M_has M_lifted M_taken M_above M_allLifts M_busy M_worst M_best M_orders M_together = some o → va_P D vwCl (wX10_M ca ad_M M_guests M_kind M_figure M_told M_heaps M_holds M_back M_mistakes M_hooks M_letters M_rule M_at M_well M_sort M_text M_row M_field M_fields M_begins M_ruleLetters M_coming M_comingMany M_going M_goingMany M_minute M_pile M_high M_where M_latest M_lifts M_begun M_left M_has M_lifted M_taken M_above M_allLifts M_busy M_longest M_onto M_worst M_best M_orders M_together M_ofOne M_ofOther M_seed M_then M_was M_kept M_held M_kindOn M_figureOn M_sorts M_size M_items M_moved M_thrown) H → va_D A (wX10_M ca ad_M M_guests M_kind M_figure M_told M_heaps M_holds M_back M_mistakes M_hooks M_letters M_rule M_at M_well M_sort M_text M_row M_field M_fields M_begins M_ruleLetters M_coming M_comingMany M_going M_goingMany M_minute M_pile M_high M_where M_latest M_lifts M_begun M_left M_has M_lifted M_taken M_above M_allLifts M_busy M_longest M_onto M_worst M_best M_orders M_together M_ofOne M_ofOther M_seed M_then M_was M_kept M_held M_kindOn M_figureOn M_sorts M_size M_items M_moved M_thrown) → va_S A s.heap H locs → ∀ ls : Array Slot, lv_has ls 3 [(0, .ref (ad_M 0))] → W p l e roX10_allOrders s m args below meth c H locs 0 0 Q (F0 m 49 ls []) := by
    intro M_coming M_comingMany M_going M_goingMany M_minute M_pile M_high M_where M_latest M_lifts M_begun M_left M_has M_lifted M_taken M_above M_allLifts M_busy M_worst M_best M_orders M_together H locs hF hP hD hS ls hl
    unfold fX10_allOrders_J49 at hF
    refine lv_iconst (v := 1) hx hb dX10_allOrders_49 (by decide) ?_
    refine lv_istore_n (lv' := [(1, .int 1), (0, .ref (ad_M 0))]) hx hb dX10_allOrders_50 rfl hl (by decide) rfl (fun ls hl => ?_)
    exact l51 fuel 1 M_coming M_comingMany M_going M_goingMany M_minute M_pile M_high M_where M_latest M_lifts M_begun M_left M_has M_lifted M_taken M_above M_allLifts M_busy M_worst M_best M_orders M_together _ _ hF hP hD hS ls (lv_sub hl [1, 0] rfl)
  have l28 : ∀ (n28 : Nat) (v1 : Int32) (M_coming : Nat → Int32) (M_comingMany : Int32) (M_going : Nat → Int32) (M_goingMany : Int32) (M_minute : Nat → Int32) (M_pile : Nat → Int32) (M_high : Nat → Int32) (M_where : Nat → Int32) (M_latest : Int32) (M_lifts : Nat → Int32) (M_begun : Nat → Int32) (M_left : Nat → Int32) (M_has : Nat → Int32) (M_lifted : Nat → Int32) (M_taken : Nat → Int32) (M_above : Nat → Int32) (M_allLifts : Int32) (M_busy : Int32) (M_worst : Int32) (M_best : Int32) (M_orders : Int32) (M_together : Int32) (H : Heap) (locs : List Loc), fX10_allOrders_L28 fuel M_guests M_kind M_figure M_heaps M_holds M_back M_mistakes M_hooks M_letters M_rule n28 v1 M_coming M_comingMany M_going M_goingMany M_minute M_pile M_high M_where M_latest M_lifts M_begun M_left M_has M_lifted M_taken M_above M_allLifts M_busy M_worst M_best M_orders M_together = some o → va_P D vwCl (wX10_M ca ad_M M_guests M_kind M_figure M_told M_heaps M_holds M_back M_mistakes M_hooks M_letters M_rule M_at M_well M_sort M_text M_row M_field M_fields M_begins M_ruleLetters M_coming M_comingMany M_going M_goingMany M_minute M_pile M_high M_where M_latest M_lifts M_begun M_left M_has M_lifted M_taken M_above M_allLifts M_busy M_longest M_onto M_worst M_best M_orders M_together M_ofOne M_ofOther M_seed M_then M_was M_kept M_held M_kindOn M_figureOn M_sorts M_size M_items M_moved M_thrown) H → va_D A (wX10_M ca ad_M M_guests M_kind M_figure M_told M_heaps M_holds M_back M_mistakes M_hooks M_letters M_rule M_at M_well M_sort M_text M_row M_field M_fields M_begins M_ruleLetters M_coming M_comingMany M_going M_goingMany M_minute M_pile M_high M_where M_latest M_lifts M_begun M_left M_has M_lifted M_taken M_above M_allLifts M_busy M_longest M_onto M_worst M_best M_orders M_together M_ofOne M_ofOther M_seed M_then M_was M_kept M_held M_kindOn M_figureOn M_sorts M_size M_items M_moved M_thrown) → va_S A s.heap H locs → ∀ ls : Array Slot, lv_has ls 3 [(0, .ref (ad_M 0)), (1, .int v1)] → W p l e roX10_allOrders s m args below meth c H locs 0 0 Q (F0 m 28 ls []) := by
    intro n28
    induction n28 with
    | zero =>
      intro v1 M_coming M_comingMany M_going M_goingMany M_minute M_pile M_high M_where M_latest M_lifts M_begun M_left M_has M_lifted M_taken M_above M_allLifts M_busy M_worst M_best M_orders M_together H locs hF
      rw [fX10_allOrders_L28] at hF
      cases hF
    | succ n28 ih28 =>
      intro v1 M_coming M_comingMany M_going M_goingMany M_minute M_pile M_high M_where M_latest M_lifts M_begun M_left M_has M_lifted M_taken M_above M_allLifts M_busy M_worst M_best M_orders M_together H locs hF hP hD hS ls hl
      rw [fX10_allOrders_L28] at hF
      refine lv_iload_n hx hb dX10_allOrders_28 rfl (lv_at hl 1 rfl) ?_
      refine lv_aload_n hx hb dX10_allOrders_29 rfl (lv_at hl 0 rfl) ?_
      refine va_get (D := D) (ci := 7) (v := .int M_guests) (C := RX10) (T := TX10) (N := 58) hx hb hts hin10 hown hK hP 0 rfl rfl 0 (by decide) (hts _ zm_16) (fun _ h9 => h9) rfl dX10_allOrders_30 ?_
      refine lv_icmp_ge (tgt := 49) hx hb dX10_allOrders_33 (by decide) (fun c_2 => ?_) (fun c_2 => ?_)
      · have hF := zt c_2 hF
        exact j49 M_coming M_comingMany M_going M_goingMany M_minute M_pile M_high M_where M_latest M_lifts M_begun M_left M_has M_lifted M_taken M_above M_allLifts M_busy M_worst M_best M_orders M_together _ _ hF hP hD hS ls (lv_sub hl [0] rfl)
      · have hF := zf c_2 hF
        refine lv_aload_n hx hb dX10_allOrders_36 rfl (lv_at hl 0 rfl) ?_
        refine va_get (D := D) (ci := 7) (v := .ref (ad_M 9)) (C := RX10) (T := TX10) (N := 58) hx hb hts hin10 hown hK hP 0 rfl rfl 22 (by decide) (hts _ zm_87) (fun _ h9 => h9) rfl dX10_allOrders_37 ?_
        refine lv_iload_n hx hb dX10_allOrders_40 rfl (lv_at hl 1 rfl) ?_
        refine lv_iload_n hx hb dX10_allOrders_41 rfl (lv_at hl 1 rfl) ?_
        obtain ⟨h_3, hF⟩ := zgi hF
        refine z_iast hx hb hK hP hD hS 9 0 rfl rfl h_3 dX10_allOrders_42 (fun g => (wX10_M ca ad_M M_guests M_kind M_figure M_told M_heaps M_holds M_back M_mistakes M_hooks M_letters M_rule M_at M_well M_sort M_text M_row M_field M_fields M_begins M_ruleLetters M_coming M_comingMany g M_goingMany M_minute M_pile M_high M_where M_latest M_lifts M_begun M_left M_has M_lifted M_taken M_above M_allLifts M_busy M_longest M_onto M_worst M_best M_orders M_together M_ofOne M_ofOther M_seed M_then M_was M_kept M_held M_kindOn M_figureOn M_sorts M_size M_items M_moved M_thrown)) (fun _ => rfl) hF (fun M_going_4 H locs hF hP hD hS => ?_)
        refine z_iinc (kv := 1) hx hb 1 dX10_allOrders_43 hl rfl (by decide) (by decide) (fun g => [(1, .int g), (0, .ref (ad_M 0))]) (fun _ => rfl) hF (fun v1_5 ls hF hl => ?_)
        refine lv_goto (tgt := 28) hx hb dX10_allOrders_46 (by decide) ?_
        exact ih28 v1_5 M_coming M_comingMany M_going_4 M_goingMany M_minute M_pile M_high M_where M_latest M_lifts M_begun M_left M_has M_lifted M_taken M_above M_allLifts M_busy M_worst M_best M_orders M_together _ _ hF hP hD hS ls (lv_sub hl [1, 0] rfl)
  unfold fX10_allOrders at hF
  refine lv_aload_n hx hb dX10_allOrders_0 rfl (lv_at hl 0 rfl) ?_
  obtain ⟨o_1, hc_1, hF⟩ := zb hF
  refine zcVv (rest := []) (ws' := (wX10_M ca ad_M M_guests M_kind M_figure M_told M_heaps M_holds M_back M_mistakes M_hooks M_letters M_rule M_at M_well M_sort M_text M_row M_field M_fields M_begins M_ruleLetters o_1.1 o_1.2.1 o_1.2.2.1 o_1.2.2.2.1 o_1.2.2.2.2 M_pile M_high M_where M_latest M_lifts M_begun M_left M_has M_lifted M_taken M_above M_allLifts M_busy M_longest M_onto M_worst M_best M_orders M_together M_ofOne M_ofOther M_seed M_then M_was M_kept M_held M_kindOn M_figureOn M_sorts M_size M_items M_moved M_thrown)) (kX10_usual l D ca t ad_M M_guests M_kind M_figure M_told M_heaps M_holds M_back M_mistakes M_hooks M_letters M_rule M_at M_well M_sort M_text M_row M_field M_fields M_begins M_ruleLetters M_coming M_comingMany M_going M_goingMany M_minute M_pile M_high M_where M_latest M_lifts M_begun M_left M_has M_lifted M_taken M_above M_allLifts M_busy M_longest M_onto M_worst M_best M_orders M_together M_ofOne M_ofOther M_seed M_then M_was M_kept M_held M_kindOn M_figureOn M_sorts M_size M_items M_moved M_thrown fuel _ hc_1) ⟨hx, hb, hml, hown, hts⟩ (zcwV hts zm_186 zm_187 zm_188 zm_19 zm_185 rfl rfl zdv_X10_usual ⟨Nat.le_of_ble_eq_true rfl, Nat.le_of_ble_eq_true rfl⟩) hA hK hZ hP hD hS [0, 1, 2, 3, 4, 5, 6, 7, 8, 9, 10, 11, 12, 13, 14, 15, 16, 17, 18, 19, 20, 21, 22, 23, 24, 25, 26, 27, 28, 29, 30, 31, 32, 33] [] [0, 1, 2, 3, 4, 5, 6, 7, 8, 9, 10, 11, 12, 13, 14, 15, 16, 17, 18, 19, 20, 21, 22, 23, 24, 25, 26, 27, 28, 29, 30, 31, 32, 33] rfl rfl rfl rfl rfl rfl rfl 7 0 rfl rfl rfl hl.1 (Nat.le_of_ble_eq_true rfl) dX10_allOrders_1 rfl (fun H locs hP hD hS => ?_)
  refine lv_aload_n hx hb dX10_allOrders_4 rfl (lv_at hl 0 rfl) ?_
  refine lv_iconst (v := 0) hx hb dX10_allOrders_5 (by decide) ?_
  refine va_put (D := D) (ci := 7) (v := .int 0) (C := RX10) (T := TX10) (N := 58) hx hb hts hin10 tyX10 tyX10_ok nmX10 hown hK hP hD hS 0 rfl rfl 40 (by decide) (hts _ zm_250) (fun _ h9 => h9) rfl (tyX10_ok 40 (by decide)) rfl rfl (Nat.le_of_ble_eq_true rfl) dX10_allOrders_6 (fun H locs hP hD hS => ?_)
  have hP : va_P D vwCl (wX10_M ca ad_M M_guests M_kind M_figure M_told M_heaps M_holds M_back M_mistakes M_hooks M_letters M_rule M_at M_well M_sort M_text M_row M_field M_fields M_begins M_ruleLetters o_1.1 o_1.2.1 o_1.2.2.1 o_1.2.2.2.1 o_1.2.2.2.2 M_pile M_high M_where M_latest M_lifts M_begun M_left M_has M_lifted M_taken M_above M_allLifts M_busy M_longest M_onto 0 M_best M_orders M_together M_ofOne M_ofOther M_seed M_then M_was M_kept M_held M_kindOn M_figureOn M_sorts M_size M_items M_moved M_thrown) H := hP
  have hD : va_D A (wX10_M ca ad_M M_guests M_kind M_figure M_told M_heaps M_holds M_back M_mistakes M_hooks M_letters M_rule M_at M_well M_sort M_text M_row M_field M_fields M_begins M_ruleLetters o_1.1 o_1.2.1 o_1.2.2.1 o_1.2.2.2.1 o_1.2.2.2.2 M_pile M_high M_where M_latest M_lifts M_begun M_left M_has M_lifted M_taken M_above M_allLifts M_busy M_longest M_onto 0 M_best M_orders M_together M_ofOne M_ofOther M_seed M_then M_was M_kept M_held M_kindOn M_figureOn M_sorts M_size M_items M_moved M_thrown) := hD
  refine lv_aload_n hx hb dX10_allOrders_9 rfl (lv_at hl 0 rfl) ?_
  refine lv_ldcw hx hb hown (hts _ zm_180) dX10_allOrders_10 ?_
  refine va_put (D := D) (ci := 7) (v := .int 1000000) (C := RX10) (T := TX10) (N := 58) hx hb hts hin10 tyX10 tyX10_ok nmX10 hown hK hP hD hS 0 rfl rfl 41 (by decide) (hts _ zm_251) (fun _ h9 => h9) rfl (tyX10_ok 41 (by decide)) rfl rfl (Nat.le_of_ble_eq_true rfl) dX10_allOrders_13 (fun H locs hP hD hS => ?_)
  have hP : va_P D vwCl (wX10_M ca ad_M M_guests M_kind M_figure M_told M_heaps M_holds M_back M_mistakes M_hooks M_letters M_rule M_at M_well M_sort M_text M_row M_field M_fields M_begins M_ruleLetters o_1.1 o_1.2.1 o_1.2.2.1 o_1.2.2.2.1 o_1.2.2.2.2 M_pile M_high M_where M_latest M_lifts M_begun M_left M_has M_lifted M_taken M_above M_allLifts M_busy M_longest M_onto 0 1000000 M_orders M_together M_ofOne M_ofOther M_seed M_then M_was M_kept M_held M_kindOn M_figureOn M_sorts M_size M_items M_moved M_thrown) H := hP
  have hD : va_D A (wX10_M ca ad_M M_guests M_kind M_figure M_told M_heaps M_holds M_back M_mistakes M_hooks M_letters M_rule M_at M_well M_sort M_text M_row M_field M_fields M_begins M_ruleLetters o_1.1 o_1.2.1 o_1.2.2.1 o_1.2.2.2.1 o_1.2.2.2.2 M_pile M_high M_where M_latest M_lifts M_begun M_left M_has M_lifted M_taken M_above M_allLifts M_busy M_longest M_onto 0 1000000 M_orders M_together M_ofOne M_ofOther M_seed M_then M_was M_kept M_held M_kindOn M_figureOn M_sorts M_size M_items M_moved M_thrown) := hD
  refine lv_aload_n hx hb dX10_allOrders_16 rfl (lv_at hl 0 rfl) ?_
  refine lv_iconst (v := 0) hx hb dX10_allOrders_17 (by decide) ?_
  refine va_put (D := D) (ci := 7) (v := .int 0) (C := RX10) (T := TX10) (N := 58) hx hb hts hin10 tyX10 tyX10_ok nmX10 hown hK hP hD hS 0 rfl rfl 42 (by decide) (hts _ zm_252) (fun _ h9 => h9) rfl (tyX10_ok 42 (by decide)) rfl rfl (Nat.le_of_ble_eq_true rfl) dX10_allOrders_18 (fun H locs hP hD hS => ?_)
  have hP : va_P D vwCl (wX10_M ca ad_M M_guests M_kind M_figure M_told M_heaps M_holds M_back M_mistakes M_hooks M_letters M_rule M_at M_well M_sort M_text M_row M_field M_fields M_begins M_ruleLetters o_1.1 o_1.2.1 o_1.2.2.1 o_1.2.2.2.1 o_1.2.2.2.2 M_pile M_high M_where M_latest M_lifts M_begun M_left M_has M_lifted M_taken M_above M_allLifts M_busy M_longest M_onto 0 1000000 0 M_together M_ofOne M_ofOther M_seed M_then M_was M_kept M_held M_kindOn M_figureOn M_sorts M_size M_items M_moved M_thrown) H := hP
  have hD : va_D A (wX10_M ca ad_M M_guests M_kind M_figure M_told M_heaps M_holds M_back M_mistakes M_hooks M_letters M_rule M_at M_well M_sort M_text M_row M_field M_fields M_begins M_ruleLetters o_1.1 o_1.2.1 o_1.2.2.1 o_1.2.2.2.1 o_1.2.2.2.2 M_pile M_high M_where M_latest M_lifts M_begun M_left M_has M_lifted M_taken M_above M_allLifts M_busy M_longest M_onto 0 1000000 0 M_together M_ofOne M_ofOther M_seed M_then M_was M_kept M_held M_kindOn M_figureOn M_sorts M_size M_items M_moved M_thrown) := hD
  refine lv_aload_n hx hb dX10_allOrders_21 rfl (lv_at hl 0 rfl) ?_
  refine lv_iconst (v := 0) hx hb dX10_allOrders_22 (by decide) ?_
  refine va_put (D := D) (ci := 7) (v := .int 0) (C := RX10) (T := TX10) (N := 58) hx hb hts hin10 tyX10 tyX10_ok nmX10 hown hK hP hD hS 0 rfl rfl 43 (by decide) (hts _ zm_253) (fun _ h9 => h9) rfl (tyX10_ok 43 (by decide)) rfl rfl (Nat.le_of_ble_eq_true rfl) dX10_allOrders_23 (fun H locs hP hD hS => ?_)
  have hP : va_P D vwCl (wX10_M ca ad_M M_guests M_kind M_figure M_told M_heaps M_holds M_back M_mistakes M_hooks M_letters M_rule M_at M_well M_sort M_text M_row M_field M_fields M_begins M_ruleLetters o_1.1 o_1.2.1 o_1.2.2.1 o_1.2.2.2.1 o_1.2.2.2.2 M_pile M_high M_where M_latest M_lifts M_begun M_left M_has M_lifted M_taken M_above M_allLifts M_busy M_longest M_onto 0 1000000 0 0 M_ofOne M_ofOther M_seed M_then M_was M_kept M_held M_kindOn M_figureOn M_sorts M_size M_items M_moved M_thrown) H := hP
  have hD : va_D A (wX10_M ca ad_M M_guests M_kind M_figure M_told M_heaps M_holds M_back M_mistakes M_hooks M_letters M_rule M_at M_well M_sort M_text M_row M_field M_fields M_begins M_ruleLetters o_1.1 o_1.2.1 o_1.2.2.1 o_1.2.2.2.1 o_1.2.2.2.2 M_pile M_high M_where M_latest M_lifts M_begun M_left M_has M_lifted M_taken M_above M_allLifts M_busy M_longest M_onto 0 1000000 0 0 M_ofOne M_ofOther M_seed M_then M_was M_kept M_held M_kindOn M_figureOn M_sorts M_size M_items M_moved M_thrown) := hD
  refine lv_iconst (v := 0) hx hb dX10_allOrders_26 (by decide) ?_
  refine lv_istore_n (lv' := [(1, .int 0), (0, .ref (ad_M 0))]) hx hb dX10_allOrders_27 rfl hl (by decide) rfl (fun ls hl => ?_)
  exact l28 fuel 0 o_1.1 o_1.2.1 o_1.2.2.1 o_1.2.2.2.1 o_1.2.2.2.2 M_pile M_high M_where M_latest M_lifts M_begun M_left M_has M_lifted M_taken M_above M_allLifts M_busy 0 1000000 0 0 _ _ hF hP hD hS ls (lv_sub hl [1, 0] rfl)
theorem zdv_X10_allOrders : yX10_allOrders.cls = RX10 ∧ yX10_allOrders.cls ≠ "java/lang/invoke/MethodHandle" ∧ yX10_allOrders.cls ≠ "java/lang/invoke/VarHandle" ∧ (parseMethodDescriptor yX10_allOrders.desc).map (fun d => d.parameters.length) = some 0 := by decide +kernel
abbrev roX10_mean : Room := { frames := 8, cells := 0, slots := 0, locals := 180 }
set_option maxHeartbeats 4000000 in
set_option maxRecDepth 100000 in
theorem kX10_mean (l : Launch) (D : va_G) (ca : Nat → ClassId) (t : Nat → Nat) (ad_M : Nat → Nat) (M_guests : Int32) (M_kind : Nat → Int32) (M_figure : Nat → Int32) (M_told : Nat → Int32) (M_heaps : Int32) (M_holds : Int32) (M_back : Int32) (M_mistakes : Int32) (M_hooks : Int32) (M_letters : Int32) (M_rule : Nat → Int32) (M_at : Int32) (M_well : Int32) (M_sort : Int32) (M_text : Int32) (M_row : Int32) (M_field : Nat → Int32) (M_fields : Int32) (M_begins : Nat → Int32) (M_ruleLetters : Nat → Int32) (M_coming : Nat → Int32) (M_comingMany : Int32) (M_going : Nat → Int32) (M_goingMany : Int32) (M_minute : Nat → Int32) (M_pile : Nat → Int32) (M_high : Nat → Int32) (M_where : Nat → Int32) (M_latest : Int32) (M_lifts : Nat → Int32) (M_begun : Nat → Int32) (M_left : Nat → Int32) (M_has : Nat → Int32) (M_lifted : Nat → Int32) (M_taken : Nat → Int32) (M_above : Nat → Int32) (M_allLifts : Int32) (M_busy : Int32) (M_longest : Nat → Int32) (M_onto : Nat → Int32) (M_worst : Int32) (M_best : Int32) (M_orders : Int32) (M_together : Int32) (M_ofOne : Nat → Int32) (M_ofOther : Nat → Int32) (M_seed : Int32) (M_then : Nat → Int32) (M_was : Nat → Int32) (M_kept : Int32) (M_held : Nat → Int32) (M_kindOn : Nat → Int32) (M_figureOn : Nat → Int32) (M_sorts : Nat → Int32) (M_size : Nat → Int32) (M_items : Nat → Int32) (M_moved : Nat → Int32) (M_thrown : Int32) (p1 : Int32) (fuel : Nat) (o : Int64 × (Nat → Int32) × Int32 × (Nat → Int32) × Int32 × (Nat → Int32) × (Nat → Int32) × (Nat → Int32) × (Nat → Int32) × Int32 × (Nat → Int32) × (Nat → Int32) × (Nat → Int32) × (Nat → Int32) × (Nat → Int32) × (Nat → Int32) × (Nat → Int32) × Int32 × Int32 × Int32 × Int32 × Int32 × Int32) (hF : fX10_mean fuel M_guests M_kind M_figure M_told M_heaps M_holds M_back M_mistakes M_hooks M_letters M_rule M_coming M_comingMany M_going M_goingMany M_minute M_pile M_high M_where M_latest M_lifts M_begun M_left M_has M_lifted M_taken M_above M_allLifts M_busy M_worst M_best M_orders M_together p1 = some o) : zMl l D (zT ca) t yX10_mean (.code yX10_mean cX10_mean 5 (some .long) :: zW) roX10_mean [.ref (ad_M 0), .int p1] (wX10_M ca ad_M M_guests M_kind M_figure M_told M_heaps M_holds M_back M_mistakes M_hooks M_letters M_rule M_at M_well M_sort M_text M_row M_field M_fields M_begins M_ruleLetters M_coming M_comingMany M_going M_goingMany M_minute M_pile M_high M_where M_latest M_lifts M_begun M_left M_has M_lifted M_taken M_above M_allLifts M_busy M_longest M_onto M_worst M_best M_orders M_together M_ofOne M_ofOther M_seed M_then M_was M_kept M_held M_kindOn M_figureOn M_sorts M_size M_items M_moved M_thrown) (wX10_M ca ad_M M_guests M_kind M_figure M_told M_heaps M_holds M_back M_mistakes M_hooks M_letters M_rule M_at M_well M_sort M_text M_row M_field M_fields M_begins M_ruleLetters o.2.1 o.2.2.1 o.2.2.2.1 o.2.2.2.2.1 o.2.2.2.2.2.1 o.2.2.2.2.2.2.1 o.2.2.2.2.2.2.2.1 o.2.2.2.2.2.2.2.2.1 o.2.2.2.2.2.2.2.2.2.1 o.2.2.2.2.2.2.2.2.2.2.1 o.2.2.2.2.2.2.2.2.2.2.2.1 o.2.2.2.2.2.2.2.2.2.2.2.2.1 o.2.2.2.2.2.2.2.2.2.2.2.2.2.1 o.2.2.2.2.2.2.2.2.2.2.2.2.2.2.1 o.2.2.2.2.2.2.2.2.2.2.2.2.2.2.2.1 o.2.2.2.2.2.2.2.2.2.2.2.2.2.2.2.2.1 o.2.2.2.2.2.2.2.2.2.2.2.2.2.2.2.2.2.1 o.2.2.2.2.2.2.2.2.2.2.2.2.2.2.2.2.2.2.1 M_longest M_onto o.2.2.2.2.2.2.2.2.2.2.2.2.2.2.2.2.2.2.2.1 o.2.2.2.2.2.2.2.2.2.2.2.2.2.2.2.2.2.2.2.2.1 o.2.2.2.2.2.2.2.2.2.2.2.2.2.2.2.2.2.2.2.2.2.1 o.2.2.2.2.2.2.2.2.2.2.2.2.2.2.2.2.2.2.2.2.2.2 M_ofOne M_ofOther M_seed M_then M_was M_kept M_held M_kindOn M_figureOn M_sorts M_size M_items M_moved M_thrown) o.1 := by
  refine zMl_of (cc := cX10_mean) (maxL := 5) (by decide) rfl (Nat.le_of_ble_eq_true rfl) ?_
  intro p e s m args below meth c A Q ls ⟨hx, hb, hml, hown, hts, hA, hK, hZ, hS⟩ hret hP hD hl
  have hts := fun w h => hts w (List.mem_cons_of_mem _ h)
  have hown : s.vm.findClass RX10 = some m.cls := hown
  have hl : lv_has ls 5 [(0, .ref (ad_M 0)), (1, .int p1)] := hl
  have hin10 := zin_X10
  have j56 : ∀ (v2 : Int32) (M_coming : Nat → Int32) (M_comingMany : Int32) (M_going : Nat → Int32) (M_goingMany : Int32) (M_minute : Nat → Int32) (M_pile : Nat → Int32) (M_high : Nat → Int32) (M_where : Nat → Int32) (M_latest : Int32) (M_lifts : Nat → Int32) (M_begun : Nat → Int32) (M_left : Nat → Int32) (M_has : Nat → Int32) (M_lifted : Nat → Int32) (M_taken : Nat → Int32) (M_above : Nat → Int32) (M_allLifts : Int32) (M_busy : Int32) (M_worst : Int32) (M_best : Int32) (M_orders : Int32) (M_together : Int32) (H : Heap) (locs : List Loc), fX10_mean_J56 p1 v2 M_coming M_comingMany M_going M_goingMany M_minute M_pile M_high M_where M_latest M_lifts M_begun M_left M_has M_lifted M_taken M_above M_allLifts M_busy M_worst M_best M_orders M_together = some o → va_P D vwCl (wX10_M ca ad_M M_guests M_kind M_figure M_told M_heaps M_holds M_back M_mistakes M_hooks M_letters M_rule M_at M_well M_sort M_text M_row M_field M_fields M_begins M_ruleLetters M_coming M_comingMany M_going M_goingMany M_minute M_pile M_high M_where M_latest M_lifts M_begun M_left M_has M_lifted M_taken M_above M_allLifts M_busy M_longest M_onto M_worst M_best M_orders M_together M_ofOne M_ofOther M_seed M_then M_was M_kept M_held M_kindOn M_figureOn M_sorts M_size M_items M_moved M_thrown) H → va_D A (wX10_M ca ad_M M_guests M_kind M_figure M_told M_heaps M_holds M_back M_mistakes M_hooks M_letters M_rule M_at M_well M_sort M_text M_row M_field M_fields M_begins M_ruleLetters M_coming M_comingMany M_going M_goingMany M_minute M_pile M_high M_where M_latest M_lifts M_begun M_left M_has M_lifted M_taken M_above M_allLifts M_busy M_longest M_onto M_worst M_best M_orders M_together M_ofOne M_ofOther M_seed M_then M_was M_kept M_held M_kindOn M_figureOn M_sorts M_size M_items M_moved M_thrown) → va_S A s.heap H locs → ∀ ls : Array Slot, lv_has ls 5 [(0, .ref (ad_M 0)), (1, .int p1), (2, .int v2)] → W p l e roX10_mean s m args below meth c H locs 0 0 Q (F0 m 56 ls []) := by
    intro v2 M_coming M_comingMany M_going M_goingMany M_minute M_pile M_high M_where M_latest M_lifts M_begun M_left M_has M_lifted M_taken M_above M_allLifts M_busy M_worst M_best M_orders M_together H locs hF hP hD hS ls hl
    unfold fX10_mean_J56 at hF
    refine lv_iload_n hx hb dX10_mean_56 rfl (lv_at hl 1 rfl) ?_
    refine lv_if_ne (tgt := 70) hx hb dX10_mean_57 (by decide) (fun c_8 => ?_) (fun c_8 => ?_)
    · have hF := zf c_8 hF
      refine lv_aload_n hx hb dX10_mean_70 rfl (lv_at hl 0 rfl) ?_
      refine va_get (D := D) (ci := 7) (v := .int M_orders) (C := RX10) (T := TX10) (N := 58) hx hb hts hin10 hown hK hP 0 rfl rfl 42 (by decide) (hts _ zm_252) (fun _ h9 => h9) rfl dX10_mean_71 ?_
      refine lv_iload_n hx hb dX10_mean_74 rfl (lv_at hl 2 rfl) ?_
      obtain ⟨h_9, hF⟩ := zgd hF
      refine lv_idiv hx hb dX10_mean_75 h_9 ?_
      refine lv_i2l hx hb dX10_mean_76 rfl ?_
      obtain rfl := Option.some.inj hF
      exact hret _ _ _ _ hP hD hS dX10_mean_77
    · have hF := zt c_8 hF
      refine lv_aload_n hx hb dX10_mean_60 rfl (lv_at hl 0 rfl) ?_
      refine va_get (D := D) (ci := 7) (v := .int M_together) (C := RX10) (T := TX10) (N := 58) hx hb hts hin10 hown hK hP 0 rfl rfl 43 (by decide) (hts _ zm_253) (fun _ h9 => h9) rfl dX10_mean_61 ?_
      refine lv_iload_n hx hb dX10_mean_64 rfl (lv_at hl 2 rfl) ?_
      obtain ⟨h_10, hF⟩ := zgd hF
      refine lv_idiv hx hb dX10_mean_65 h_10 ?_
      refine lv_i2l hx hb dX10_mean_66 rfl ?_
      refine lv_goto (tgt := 77) hx hb dX10_mean_67 (by decide) ?_
      obtain rfl := Option.some.inj hF
      exact hret _ _ _ _ hP hD hS dX10_mean_77
  have l39 : ∀ (n39 : Nat) (v2 : Int32) (v3 : Int32) (M_coming : Nat → Int32) (M_comingMany : Int32) (M_going : Nat → Int32) (M_goingMany : Int32) (M_minute : Nat → Int32) (M_pile : Nat → Int32) (M_high : Nat → Int32) (M_where : Nat → Int32) (M_latest : Int32) (M_lifts : Nat → Int32) (M_begun : Nat → Int32) (M_left : Nat → Int32) (M_has : Nat → Int32) (M_lifted : Nat → Int32) (M_taken : Nat → Int32) (M_above : Nat → Int32) (M_allLifts : Int32) (M_busy : Int32) (M_worst : Int32) (M_best : Int32) (M_orders : Int32) (M_together : Int32) (H : Heap) (locs : List Loc), fX10_mean_L39 p1 n39 v2 v3 M_coming M_comingMany M_going M_goingMany M_minute M_pile M_high M_where M_latest M_lifts M_begun M_left M_has M_lifted M_taken M_above M_allLifts M_busy M_worst M_best M_orders M_together = some o → va_P D vwCl (wX10_M ca ad_M M_guests M_kind M_figure M_told M_heaps M_holds M_back M_mistakes M_hooks M_letters M_rule M_at M_well M_sort M_text M_row M_field M_fields M_begins M_ruleLetters M_coming M_comingMany M_going M_goingMany M_minute M_pile M_high M_where M_latest M_lifts M_begun M_left M_has M_lifted M_taken M_above M_allLifts M_busy M_longest M_onto M_worst M_best M_orders M_together M_ofOne M_ofOther M_seed M_then M_was M_kept M_held M_kindOn M_figureOn M_sorts M_size M_items M_moved M_thrown) H → va_D A (wX10_M ca ad_M M_guests M_kind M_figure M_told M_heaps M_holds M_back M_mistakes M_hooks M_letters M_rule M_at M_well M_sort M_text M_row M_field M_fields M_begins M_ruleLetters M_coming M_comingMany M_going M_goingMany M_minute M_pile M_high M_where M_latest M_lifts M_begun M_left M_has M_lifted M_taken M_above M_allLifts M_busy M_longest M_onto M_worst M_best M_orders M_together M_ofOne M_ofOther M_seed M_then M_was M_kept M_held M_kindOn M_figureOn M_sorts M_size M_items M_moved M_thrown) → va_S A s.heap H locs → ∀ ls : Array Slot, lv_has ls 5 [(0, .ref (ad_M 0)), (1, .int p1), (2, .int v2), (3, .int v3)] → W p l e roX10_mean s m args below meth c H locs 0 0 Q (F0 m 39 ls []) := by
    intro n39
    induction n39 with
    | zero =>
      intro v2 v3 M_coming M_comingMany M_going M_goingMany M_minute M_pile M_high M_where M_latest M_lifts M_begun M_left M_has M_lifted M_taken M_above M_allLifts M_busy M_worst M_best M_orders M_together H locs hF
      rw [fX10_mean_L39] at hF
      cases hF
    | succ n39 ih39 =>
      intro v2 v3 M_coming M_comingMany M_going M_goingMany M_minute M_pile M_high M_where M_latest M_lifts M_begun M_left M_has M_lifted M_taken M_above M_allLifts M_busy M_worst M_best M_orders M_together H locs hF hP hD hS ls hl
      rw [fX10_mean_L39] at hF
      refine lv_iload_n hx hb dX10_mean_39 rfl (lv_at hl 3 rfl) ?_
      refine lv_if_eq (tgt := 56) hx hb dX10_mean_40 (by decide) (fun c_5 => ?_) (fun c_5 => ?_)
      · have hF := zt c_5 hF
        exact j56 v2 M_coming M_comingMany M_going M_goingMany M_minute M_pile M_high M_where M_latest M_lifts M_begun M_left M_has M_lifted M_taken M_above M_allLifts M_busy M_worst M_best M_orders M_together _ _ hF hP hD hS ls (lv_sub hl [0, 1, 2] rfl)
      · have hF := zf c_5 hF
        refine lv_iload_n hx hb dX10_mean_43 rfl (lv_at hl 2 rfl) ?_
        refine lv_iload_n hx hb dX10_mean_44 rfl (lv_at hl 3 rfl) ?_
        obtain ⟨h_6, hF⟩ := zgd hF
        refine lv_irem hx hb dX10_mean_45 h_6 ?_
        refine z_let hF (fun v4_7 hF => ?_)
        refine lv_istore (lv' := [(4, .int v4_7), (0, .ref (ad_M 0)), (1, .int p1), (2, .int v2), (3, .int v3)]) hx hb dX10_mean_46 hl (by decide) rfl (fun ls hl => ?_)
        refine lv_iload_n hx hb dX10_mean_48 rfl (lv_at hl 4 rfl) ?_
        refine lv_istore_n (lv' := [(2, .int v3), (4, .int v4_7), (0, .ref (ad_M 0)), (1, .int p1), (3, .int v3)]) hx hb dX10_mean_49 rfl hl (by decide) rfl (fun ls hl => ?_)
        refine lv_iload hx hb dX10_mean_50 (lv_at hl 1 rfl) ?_
        refine lv_istore_n (lv' := [(3, .int v4_7), (2, .int v3), (4, .int v4_7), (0, .ref (ad_M 0)), (1, .int p1)]) hx hb dX10_mean_52 rfl hl (by decide) rfl (fun ls hl => ?_)
        refine lv_goto (tgt := 39) hx hb dX10_mean_53 (by decide) ?_
        exact ih39 v3 v4_7 M_coming M_comingMany M_going M_goingMany M_minute M_pile M_high M_where M_latest M_lifts M_begun M_left M_has M_lifted M_taken M_above M_allLifts M_busy M_worst M_best M_orders M_together _ _ hF hP hD hS ls (lv_sub hl [3, 4, 1, 0] rfl)
  unfold fX10_mean at hF
  refine lv_iload_n hx hb dX10_mean_0 rfl (lv_at hl 1 rfl) ?_
  refine lv_iconst (v := 0) hx hb dX10_mean_1 (by decide) ?_
  refine lv_iconst (v := 1) hx hb dX10_mean_2 (by decide) ?_
  obtain ⟨o_1, hc_1, hF⟩ := zb hF
  refine zcSR (rest := []) (kX10_isIn l D ca t p1 0 1 fuel _ hc_1) ⟨hx, hb, hml, hown, hts⟩ (zcwS hts zm_20 zm_18 zm_19 zm_17 rfl rfl zds_X10_isIn ⟨Nat.le_of_ble_eq_true rfl, Nat.le_of_ble_eq_true rfl⟩) hA hK hZ hP hD hS [] rfl rfl rfl hl.1 (Nat.le_of_ble_eq_true rfl) dX10_mean_3 rfl ?_
  refine lv_if_ne (tgt := 13) hx hb dX10_mean_6 (by decide) (fun c_2 => ?_) (fun c_2 => ?_)
  · have hF := zf c_2 hF
    refine lv_aload_n hx hb dX10_mean_13 rfl (lv_at hl 0 rfl) ?_
    refine va_get (D := D) (ci := 7) (v := .int M_guests) (C := RX10) (T := TX10) (N := 58) hx hb hts hin10 hown hK hP 0 rfl rfl 0 (by decide) (hts _ zm_16) (fun _ h9 => h9) rfl dX10_mean_14 ?_
    refine lv_iconst (v := 5) hx hb dX10_mean_17 (by decide) ?_
    refine lv_icmp_le (tgt := 25) hx hb dX10_mean_18 (by decide) (fun c_3 => ?_) (fun c_3 => ?_)
    · have hF := zt c_3 hF
      refine lv_aload_n hx hb dX10_mean_25 rfl (lv_at hl 0 rfl) ?_
      obtain ⟨o_4, hc_4, hF⟩ := zb hF
      refine zcVv (rest := []) (ws' := (wX10_M ca ad_M M_guests M_kind M_figure M_told M_heaps M_holds M_back M_mistakes M_hooks M_letters M_rule M_at M_well M_sort M_text M_row M_field M_fields M_begins M_ruleLetters o_4.1 o_4.2.1 o_4.2.2.1 o_4.2.2.2.1 o_4.2.2.2.2.1 o_4.2.2.2.2.2.1 o_4.2.2.2.2.2.2.1 o_4.2.2.2.2.2.2.2.1 o_4.2.2.2.2.2.2.2.2.1 o_4.2.2.2.2.2.2.2.2.2.1 o_4.2.2.2.2.2.2.2.2.2.2.1 o_4.2.2.2.2.2.2.2.2.2.2.2.1 o_4.2.2.2.2.2.2.2.2.2.2.2.2.1 o_4.2.2.2.2.2.2.2.2.2.2.2.2.2.1 o_4.2.2.2.2.2.2.2.2.2.2.2.2.2.2.1 o_4.2.2.2.2.2.2.2.2.2.2.2.2.2.2.2.1 o_4.2.2.2.2.2.2.2.2.2.2.2.2.2.2.2.2.1 o_4.2.2.2.2.2.2.2.2.2.2.2.2.2.2.2.2.2.1 M_longest M_onto o_4.2.2.2.2.2.2.2.2.2.2.2.2.2.2.2.2.2.2.1 o_4.2.2.2.2.2.2.2.2.2.2.2.2.2.2.2.2.2.2.2.1 o_4.2.2.2.2.2.2.2.2.2.2.2.2.2.2.2.2.2.2.2.2.1 o_4.2.2.2.2.2.2.2.2.2.2.2.2.2.2.2.2.2.2.2.2.2 M_ofOne M_ofOther M_seed M_then M_was M_kept M_held M_kindOn M_figureOn M_sorts M_size M_items M_moved M_thrown)) (kX10_allOrders l D ca t ad_M M_guests M_kind M_figure M_told M_heaps M_holds M_back M_mistakes M_hooks M_letters M_rule M_at M_well M_sort M_text M_row M_field M_fields M_begins M_ruleLetters M_coming M_comingMany M_going M_goingMany M_minute M_pile M_high M_where M_latest M_lifts M_begun M_left M_has M_lifted M_taken M_above M_allLifts M_busy M_longest M_onto M_worst M_best M_orders M_together M_ofOne M_ofOther M_seed M_then M_was M_kept M_held M_kindOn M_figureOn M_sorts M_size M_items M_moved M_thrown fuel _ hc_4) ⟨hx, hb, hml, hown, hts⟩ (zcwV hts zm_259 zm_260 zm_261 zm_19 zm_258 rfl rfl zdv_X10_allOrders ⟨Nat.le_of_ble_eq_true rfl, Nat.le_of_ble_eq_true rfl⟩) hA hK hZ hP hD hS [0, 1, 2, 3, 4, 5, 6, 7, 8, 9, 10, 11, 12, 13, 14, 15, 16, 17, 18, 19, 20, 21, 22, 23, 24, 25, 26, 27, 28, 29, 30, 31, 32, 33] [] [0, 1, 2, 3, 4, 5, 6, 7, 8, 9, 10, 11, 12, 13, 14, 15, 16, 17, 18, 19, 20, 21, 22, 23, 24, 25, 26, 27, 28, 29, 30, 31, 32, 33] rfl rfl rfl rfl rfl rfl rfl 7 0 rfl rfl rfl hl.1 (Nat.le_of_ble_eq_true rfl) dX10_mean_26 rfl (fun H locs hP hD hS => ?_)
      refine lv_aload_n hx hb dX10_mean_29 rfl (lv_at hl 0 rfl) ?_
      refine va_get (D := D) (ci := 7) (v := .int o_4.2.2.2.2.2.2.2.2.2.2.2.2.2.2.2.2.2.2.2.2.2) (C := RX10) (T := TX10) (N := 58) hx hb hts hin10 hown hK hP 0 rfl rfl 43 (by decide) (hts _ zm_253) (fun _ h9 => h9) rfl dX10_mean_30 ?_
      refine lv_istore_n (lv' := [(2, .int o_4.2.2.2.2.2.2.2.2.2.2.2.2.2.2.2.2.2.2.2.2.2), (0, .ref (ad_M 0)), (1, .int p1)]) hx hb dX10_mean_33 rfl hl (by decide) rfl (fun ls hl => ?_)
      refine lv_aload_n hx hb dX10_mean_34 rfl (lv_at hl 1 rfl) ?_
      refine va_get (D := D) (ci := 7) (v := .int o_4.2.2.2.2.2.2.2.2.2.2.2.2.2.2.2.2.2.2.2.2.1) (C := RX10) (T := TX10) (N := 58) hx hb hts hin10 hown hK hP 0 rfl rfl 42 (by decide) (hts _ zm_252) (fun _ h9 => h9) rfl dX10_mean_35 ?_
      refine lv_istore_n (lv' := [(3, .int o_4.2.2.2.2.2.2.2.2.2.2.2.2.2.2.2.2.2.2.2.2.1), (2, .int o_4.2.2.2.2.2.2.2.2.2.2.2.2.2.2.2.2.2.2.2.2.2), (0, .ref (ad_M 0)), (1, .int p1)]) hx hb dX10_mean_38 rfl hl (by decide) rfl (fun ls hl => ?_)
      exact l39 fuel o_4.2.2.2.2.2.2.2.2.2.2.2.2.2.2.2.2.2.2.2.2.2 o_4.2.2.2.2.2.2.2.2.2.2.2.2.2.2.2.2.2.2.2.2.1 o_4.1 o_4.2.1 o_4.2.2.1 o_4.2.2.2.1 o_4.2.2.2.2.1 o_4.2.2.2.2.2.1 o_4.2.2.2.2.2.2.1 o_4.2.2.2.2.2.2.2.1 o_4.2.2.2.2.2.2.2.2.1 o_4.2.2.2.2.2.2.2.2.2.1 o_4.2.2.2.2.2.2.2.2.2.2.1 o_4.2.2.2.2.2.2.2.2.2.2.2.1 o_4.2.2.2.2.2.2.2.2.2.2.2.2.1 o_4.2.2.2.2.2.2.2.2.2.2.2.2.2.1 o_4.2.2.2.2.2.2.2.2.2.2.2.2.2.2.1 o_4.2.2.2.2.2.2.2.2.2.2.2.2.2.2.2.1 o_4.2.2.2.2.2.2.2.2.2.2.2.2.2.2.2.2.1 o_4.2.2.2.2.2.2.2.2.2.2.2.2.2.2.2.2.2.1 o_4.2.2.2.2.2.2.2.2.2.2.2.2.2.2.2.2.2.2.1 o_4.2.2.2.2.2.2.2.2.2.2.2.2.2.2.2.2.2.2.2.1 o_4.2.2.2.2.2.2.2.2.2.2.2.2.2.2.2.2.2.2.2.2.1 o_4.2.2.2.2.2.2.2.2.2.2.2.2.2.2.2.2.2.2.2.2.2 _ _ hF hP hD hS ls (lv_sub hl [2, 3, 1, 0] rfl)
    · have hF := zf c_3 hF
      refine lv_ldc2 hx hb hown (hts _ zm_262) dX10_mean_21 ?_
      obtain rfl := Option.some.inj hF
      exact hret _ _ _ _ hP hD hS dX10_mean_24
  · have hF := zt c_2 hF
    refine lv_ldc2 hx hb hown (hts _ zm_263) dX10_mean_9 ?_
    obtain rfl := Option.some.inj hF
    exact hret _ _ _ _ hP hD hS dX10_mean_12
abbrev roX10_orders : Room := { frames := 8, cells := 0, slots := 0, locals := 180 }
set_option maxHeartbeats 4000000 in
set_option maxRecDepth 100000 in
theorem kX10_orders (l : Launch) (D : va_G) (ca : Nat → ClassId) (t : Nat → Nat) (ad_M : Nat → Nat) (M_guests : Int32) (M_kind : Nat → Int32) (M_figure : Nat → Int32) (M_told : Nat → Int32) (M_heaps : Int32) (M_holds : Int32) (M_back : Int32) (M_mistakes : Int32) (M_hooks : Int32) (M_letters : Int32) (M_rule : Nat → Int32) (M_at : Int32) (M_well : Int32) (M_sort : Int32) (M_text : Int32) (M_row : Int32) (M_field : Nat → Int32) (M_fields : Int32) (M_begins : Nat → Int32) (M_ruleLetters : Nat → Int32) (M_coming : Nat → Int32) (M_comingMany : Int32) (M_going : Nat → Int32) (M_goingMany : Int32) (M_minute : Nat → Int32) (M_pile : Nat → Int32) (M_high : Nat → Int32) (M_where : Nat → Int32) (M_latest : Int32) (M_lifts : Nat → Int32) (M_begun : Nat → Int32) (M_left : Nat → Int32) (M_has : Nat → Int32) (M_lifted : Nat → Int32) (M_taken : Nat → Int32) (M_above : Nat → Int32) (M_allLifts : Int32) (M_busy : Int32) (M_longest : Nat → Int32) (M_onto : Nat → Int32) (M_worst : Int32) (M_best : Int32) (M_orders : Int32) (M_together : Int32) (M_ofOne : Nat → Int32) (M_ofOther : Nat → Int32) (M_seed : Int32) (M_then : Nat → Int32) (M_was : Nat → Int32) (M_kept : Int32) (M_held : Nat → Int32) (M_kindOn : Nat → Int32) (M_figureOn : Nat → Int32) (M_sorts : Nat → Int32) (M_size : Nat → Int32) (M_items : Nat → Int32) (M_moved : Nat → Int32) (M_thrown : Int32) (p1 : Int32) (fuel : Nat) (o : Int32 × (Nat → Int32) × Int32 × (Nat → Int32) × Int32 × (Nat → Int32) × (Nat → Int32) × (Nat → Int32) × (Nat → Int32) × Int32 × (Nat → Int32) × (Nat → Int32) × (Nat → Int32) × (Nat → Int32) × (Nat → Int32) × (Nat → Int32) × (Nat → Int32) × Int32 × Int32 × Int32 × Int32 × Int32 × Int32) (hF : fX10_orders fuel M_guests M_kind M_figure M_told M_heaps M_holds M_back M_mistakes M_hooks M_letters M_rule M_coming M_comingMany M_going M_goingMany M_minute M_pile M_high M_where M_latest M_lifts M_begun M_left M_has M_lifted M_taken M_above M_allLifts M_busy M_worst M_best M_orders M_together p1 = some o) : zMi l D (zT ca) t yX10_orders (.code yX10_orders cX10_orders 2 (some .int) :: zW) roX10_orders [.ref (ad_M 0), .int p1] (wX10_M ca ad_M M_guests M_kind M_figure M_told M_heaps M_holds M_back M_mistakes M_hooks M_letters M_rule M_at M_well M_sort M_text M_row M_field M_fields M_begins M_ruleLetters M_coming M_comingMany M_going M_goingMany M_minute M_pile M_high M_where M_latest M_lifts M_begun M_left M_has M_lifted M_taken M_above M_allLifts M_busy M_longest M_onto M_worst M_best M_orders M_together M_ofOne M_ofOther M_seed M_then M_was M_kept M_held M_kindOn M_figureOn M_sorts M_size M_items M_moved M_thrown) (wX10_M ca ad_M M_guests M_kind M_figure M_told M_heaps M_holds M_back M_mistakes M_hooks M_letters M_rule M_at M_well M_sort M_text M_row M_field M_fields M_begins M_ruleLetters o.2.1 o.2.2.1 o.2.2.2.1 o.2.2.2.2.1 o.2.2.2.2.2.1 o.2.2.2.2.2.2.1 o.2.2.2.2.2.2.2.1 o.2.2.2.2.2.2.2.2.1 o.2.2.2.2.2.2.2.2.2.1 o.2.2.2.2.2.2.2.2.2.2.1 o.2.2.2.2.2.2.2.2.2.2.2.1 o.2.2.2.2.2.2.2.2.2.2.2.2.1 o.2.2.2.2.2.2.2.2.2.2.2.2.2.1 o.2.2.2.2.2.2.2.2.2.2.2.2.2.2.1 o.2.2.2.2.2.2.2.2.2.2.2.2.2.2.2.1 o.2.2.2.2.2.2.2.2.2.2.2.2.2.2.2.2.1 o.2.2.2.2.2.2.2.2.2.2.2.2.2.2.2.2.2.1 o.2.2.2.2.2.2.2.2.2.2.2.2.2.2.2.2.2.2.1 M_longest M_onto o.2.2.2.2.2.2.2.2.2.2.2.2.2.2.2.2.2.2.2.1 o.2.2.2.2.2.2.2.2.2.2.2.2.2.2.2.2.2.2.2.2.1 o.2.2.2.2.2.2.2.2.2.2.2.2.2.2.2.2.2.2.2.2.2.1 o.2.2.2.2.2.2.2.2.2.2.2.2.2.2.2.2.2.2.2.2.2.2 M_ofOne M_ofOther M_seed M_then M_was M_kept M_held M_kindOn M_figureOn M_sorts M_size M_items M_moved M_thrown) o.1 := by
  refine zMi_of (cc := cX10_orders) (maxL := 2) (by decide) rfl (Nat.le_of_ble_eq_true rfl) ?_
  intro p e s m args below meth c A Q ls ⟨hx, hb, hml, hown, hts, hA, hK, hZ, hS⟩ hret hP hD hl
  have hts := fun w h => hts w (List.mem_cons_of_mem _ h)
  have hown : s.vm.findClass RX10 = some m.cls := hown
  have hl : lv_has ls 2 [(0, .ref (ad_M 0)), (1, .int p1)] := hl
  have hin10 := zin_X10
  unfold fX10_orders at hF
  refine lv_iload_n hx hb dX10_orders_0 rfl (lv_at hl 1 rfl) ?_
  refine lv_iconst (v := 0) hx hb dX10_orders_1 (by decide) ?_
  refine lv_iconst (v := 1) hx hb dX10_orders_2 (by decide) ?_
  obtain ⟨o_1, hc_1, hF⟩ := zb hF
  refine zcSR (rest := []) (kX10_isIn l D ca t p1 0 1 fuel _ hc_1) ⟨hx, hb, hml, hown, hts⟩ (zcwS hts zm_20 zm_18 zm_19 zm_17 rfl rfl zds_X10_isIn ⟨Nat.le_of_ble_eq_true rfl, Nat.le_of_ble_eq_true rfl⟩) hA hK hZ hP hD hS [] rfl rfl rfl hl.1 (Nat.le_of_ble_eq_true rfl) dX10_orders_3 rfl ?_
  refine lv_if_ne (tgt := 11) hx hb dX10_orders_6 (by decide) (fun c_2 => ?_) (fun c_2 => ?_)
  · have hF := zf c_2 hF
    refine lv_aload_n hx hb dX10_orders_11 rfl (lv_at hl 0 rfl) ?_
    refine va_get (D := D) (ci := 7) (v := .int M_guests) (C := RX10) (T := TX10) (N := 58) hx hb hts hin10 hown hK hP 0 rfl rfl 0 (by decide) (hts _ zm_16) (fun _ h9 => h9) rfl dX10_orders_12 ?_
    refine lv_iconst (v := 5) hx hb dX10_orders_15 (by decide) ?_
    refine lv_icmp_le (tgt := 22) hx hb dX10_orders_16 (by decide) (fun c_3 => ?_) (fun c_3 => ?_)
    · have hF := zt c_3 hF
      refine lv_aload_n hx hb dX10_orders_22 rfl (lv_at hl 0 rfl) ?_
      obtain ⟨o_4, hc_4, hF⟩ := zb hF
      refine zcVv (rest := []) (ws' := (wX10_M ca ad_M M_guests M_kind M_figure M_told M_heaps M_holds M_back M_mistakes M_hooks M_letters M_rule M_at M_well M_sort M_text M_row M_field M_fields M_begins M_ruleLetters o_4.1 o_4.2.1 o_4.2.2.1 o_4.2.2.2.1 o_4.2.2.2.2.1 o_4.2.2.2.2.2.1 o_4.2.2.2.2.2.2.1 o_4.2.2.2.2.2.2.2.1 o_4.2.2.2.2.2.2.2.2.1 o_4.2.2.2.2.2.2.2.2.2.1 o_4.2.2.2.2.2.2.2.2.2.2.1 o_4.2.2.2.2.2.2.2.2.2.2.2.1 o_4.2.2.2.2.2.2.2.2.2.2.2.2.1 o_4.2.2.2.2.2.2.2.2.2.2.2.2.2.1 o_4.2.2.2.2.2.2.2.2.2.2.2.2.2.2.1 o_4.2.2.2.2.2.2.2.2.2.2.2.2.2.2.2.1 o_4.2.2.2.2.2.2.2.2.2.2.2.2.2.2.2.2.1 o_4.2.2.2.2.2.2.2.2.2.2.2.2.2.2.2.2.2.1 M_longest M_onto o_4.2.2.2.2.2.2.2.2.2.2.2.2.2.2.2.2.2.2.1 o_4.2.2.2.2.2.2.2.2.2.2.2.2.2.2.2.2.2.2.2.1 o_4.2.2.2.2.2.2.2.2.2.2.2.2.2.2.2.2.2.2.2.2.1 o_4.2.2.2.2.2.2.2.2.2.2.2.2.2.2.2.2.2.2.2.2.2 M_ofOne M_ofOther M_seed M_then M_was M_kept M_held M_kindOn M_figureOn M_sorts M_size M_items M_moved M_thrown)) (kX10_allOrders l D ca t ad_M M_guests M_kind M_figure M_told M_heaps M_holds M_back M_mistakes M_hooks M_letters M_rule M_at M_well M_sort M_text M_row M_field M_fields M_begins M_ruleLetters M_coming M_comingMany M_going M_goingMany M_minute M_pile M_high M_where M_latest M_lifts M_begun M_left M_has M_lifted M_taken M_above M_allLifts M_busy M_longest M_onto M_worst M_best M_orders M_together M_ofOne M_ofOther M_seed M_then M_was M_kept M_held M_kindOn M_figureOn M_sorts M_size M_items M_moved M_thrown fuel _ hc_4) ⟨hx, hb, hml, hown, hts⟩ (zcwV hts zm_259 zm_260 zm_261 zm_19 zm_258 rfl rfl zdv_X10_allOrders ⟨Nat.le_of_ble_eq_true rfl, Nat.le_of_ble_eq_true rfl⟩) hA hK hZ hP hD hS [0, 1, 2, 3, 4, 5, 6, 7, 8, 9, 10, 11, 12, 13, 14, 15, 16, 17, 18, 19, 20, 21, 22, 23, 24, 25, 26, 27, 28, 29, 30, 31, 32, 33] [] [0, 1, 2, 3, 4, 5, 6, 7, 8, 9, 10, 11, 12, 13, 14, 15, 16, 17, 18, 19, 20, 21, 22, 23, 24, 25, 26, 27, 28, 29, 30, 31, 32, 33] rfl rfl rfl rfl rfl rfl rfl 7 0 rfl rfl rfl hl.1 (Nat.le_of_ble_eq_true rfl) dX10_orders_23 rfl (fun H locs hP hD hS => ?_)
      refine lv_iload_n hx hb dX10_orders_26 rfl (lv_at hl 1 rfl) ?_
      refine lv_if_ne (tgt := 37) hx hb dX10_orders_27 (by decide) (fun c_5 => ?_) (fun c_5 => ?_)
      · have hF := zf c_5 hF
        refine lv_aload_n hx hb dX10_orders_37 rfl (lv_at hl 0 rfl) ?_
        refine va_get (D := D) (ci := 7) (v := .int o_4.2.2.2.2.2.2.2.2.2.2.2.2.2.2.2.2.2.2.2.1) (C := RX10) (T := TX10) (N := 58) hx hb hts hin10 hown hK hP 0 rfl rfl 41 (by decide) (hts _ zm_251) (fun _ h9 => h9) rfl dX10_orders_38 ?_
        obtain rfl := Option.some.inj hF
        exact hret _ _ _ _ hP hD hS rfl dX10_orders_41
      · have hF := zt c_5 hF
        refine lv_aload_n hx hb dX10_orders_30 rfl (lv_at hl 0 rfl) ?_
        refine va_get (D := D) (ci := 7) (v := .int o_4.2.2.2.2.2.2.2.2.2.2.2.2.2.2.2.2.2.2.1) (C := RX10) (T := TX10) (N := 58) hx hb hts hin10 hown hK hP 0 rfl rfl 40 (by decide) (hts _ zm_250) (fun _ h9 => h9) rfl dX10_orders_31 ?_
        refine lv_goto (tgt := 41) hx hb dX10_orders_34 (by decide) ?_
        obtain rfl := Option.some.inj hF
        exact hret _ _ _ _ hP hD hS rfl dX10_orders_41
    · have hF := zf c_3 hF
      refine lv_bipush (v := (-3)) hx hb dX10_orders_19 (by decide) ?_
      obtain rfl := Option.some.inj hF
      exact hret _ _ _ _ hP hD hS rfl dX10_orders_21
  · have hF := zt c_2 hF
    refine lv_iconst (v := (-1)) hx hb dX10_orders_9 (by decide) ?_
    obtain rfl := Option.some.inj hF
    exact hret _ _ _ _ hP hD hS rfl dX10_orders_10
abbrev roX10_byLetter : Room := { frames := 8, cells := 0, slots := 0, locals := 178 }
set_option maxHeartbeats 4000000 in
set_option maxRecDepth 100000 in
theorem kX10_byLetter (l : Launch) (D : va_G) (ca : Nat → ClassId) (t : Nat → Nat) (ad_M : Nat → Nat) (M_guests : Int32) (M_kind : Nat → Int32) (M_figure : Nat → Int32) (M_told : Nat → Int32) (M_heaps : Int32) (M_holds : Int32) (M_back : Int32) (M_mistakes : Int32) (M_hooks : Int32) (M_letters : Int32) (M_rule : Nat → Int32) (M_at : Int32) (M_well : Int32) (M_sort : Int32) (M_text : Int32) (M_row : Int32) (M_field : Nat → Int32) (M_fields : Int32) (M_begins : Nat → Int32) (M_ruleLetters : Nat → Int32) (M_coming : Nat → Int32) (M_comingMany : Int32) (M_going : Nat → Int32) (M_goingMany : Int32) (M_minute : Nat → Int32) (M_pile : Nat → Int32) (M_high : Nat → Int32) (M_where : Nat → Int32) (M_latest : Int32) (M_lifts : Nat → Int32) (M_begun : Nat → Int32) (M_left : Nat → Int32) (M_has : Nat → Int32) (M_lifted : Nat → Int32) (M_taken : Nat → Int32) (M_above : Nat → Int32) (M_allLifts : Int32) (M_busy : Int32) (M_longest : Nat → Int32) (M_onto : Nat → Int32) (M_worst : Int32) (M_best : Int32) (M_orders : Int32) (M_together : Int32) (M_ofOne : Nat → Int32) (M_ofOther : Nat → Int32) (M_seed : Int32) (M_then : Nat → Int32) (M_was : Nat → Int32) (M_kept : Int32) (M_held : Nat → Int32) (M_kindOn : Nat → Int32) (M_figureOn : Nat → Int32) (M_sorts : Nat → Int32) (M_size : Nat → Int32) (M_items : Nat → Int32) (M_moved : Nat → Int32) (M_thrown : Int32) (p1 : Int32) (fuel : Nat) (o : Int32 × Int32 × (Nat → Int32) × (Nat → Int32) × Int32 × (Nat → Int32) × Int32 × (Nat → Int32) × (Nat → Int32) × (Nat → Int32) × (Nat → Int32) × Int32 × (Nat → Int32) × (Nat → Int32) × (Nat → Int32) × (Nat → Int32) × (Nat → Int32) × (Nat → Int32) × (Nat → Int32) × Int32 × Int32) (hF : fX10_byLetter fuel M_guests M_kind M_figure M_told M_heaps M_holds M_back M_mistakes M_hooks M_letters M_rule M_coming M_comingMany M_going M_goingMany M_minute M_pile M_high M_where M_latest M_lifts M_begun M_left M_has M_lifted M_taken M_above M_allLifts M_busy p1 = some o) : zMi l D (zT ca) t yX10_byLetter (.code yX10_byLetter cX10_byLetter 5 (some .int) :: zW) roX10_byLetter [.ref (ad_M 0), .int p1] (wX10_M ca ad_M M_guests M_kind M_figure M_told M_heaps M_holds M_back M_mistakes M_hooks M_letters M_rule M_at M_well M_sort M_text M_row M_field M_fields M_begins M_ruleLetters M_coming M_comingMany M_going M_goingMany M_minute M_pile M_high M_where M_latest M_lifts M_begun M_left M_has M_lifted M_taken M_above M_allLifts M_busy M_longest M_onto M_worst M_best M_orders M_together M_ofOne M_ofOther M_seed M_then M_was M_kept M_held M_kindOn M_figureOn M_sorts M_size M_items M_moved M_thrown) (wX10_M ca ad_M M_guests M_kind M_figure M_told M_heaps M_holds M_back M_mistakes M_hooks o.2.1 o.2.2.1 M_at M_well M_sort M_text M_row M_field M_fields M_begins M_ruleLetters o.2.2.2.1 o.2.2.2.2.1 o.2.2.2.2.2.1 o.2.2.2.2.2.2.1 o.2.2.2.2.2.2.2.1 o.2.2.2.2.2.2.2.2.1 o.2.2.2.2.2.2.2.2.2.1 o.2.2.2.2.2.2.2.2.2.2.1 o.2.2.2.2.2.2.2.2.2.2.2.1 o.2.2.2.2.2.2.2.2.2.2.2.2.1 o.2.2.2.2.2.2.2.2.2.2.2.2.2.1 o.2.2.2.2.2.2.2.2.2.2.2.2.2.2.1 o.2.2.2.2.2.2.2.2.2.2.2.2.2.2.2.1 o.2.2.2.2.2.2.2.2.2.2.2.2.2.2.2.2.1 o.2.2.2.2.2.2.2.2.2.2.2.2.2.2.2.2.2.1 o.2.2.2.2.2.2.2.2.2.2.2.2.2.2.2.2.2.2.1 o.2.2.2.2.2.2.2.2.2.2.2.2.2.2.2.2.2.2.2.1 o.2.2.2.2.2.2.2.2.2.2.2.2.2.2.2.2.2.2.2.2 M_longest M_onto M_worst M_best M_orders M_together M_ofOne M_ofOther M_seed M_then M_was M_kept M_held M_kindOn M_figureOn M_sorts M_size M_items M_moved M_thrown) o.1 := by
  refine zMi_of (cc := cX10_byLetter) (maxL := 5) (by decide) rfl (Nat.le_of_ble_eq_true rfl) ?_
  intro p e s m args below meth c A Q ls ⟨hx, hb, hml, hown, hts, hA, hK, hZ, hS⟩ hret hP hD hl
  have hts := fun w h => hts w (List.mem_cons_of_mem _ h)
  have hown : s.vm.findClass RX10 = some m.cls := hown
  have hl : lv_has ls 5 [(0, .ref (ad_M 0)), (1, .int p1)] := hl
  have hin10 := zin_X10
  unfold fX10_byLetter at hF
  refine lv_aload_n hx hb dX10_byLetter_0 rfl (lv_at hl 0 rfl) ?_
  refine va_get (D := D) (ci := 7) (v := .int M_letters) (C := RX10) (T := TX10) (N := 58) hx hb hts hin10 hown hK hP 0 rfl rfl 9 (by decide) (hts _ zm_73) (fun _ h9 => h9) rfl dX10_byLetter_1 ?_
  refine lv_istore_n (lv' := [(2, .int M_letters), (0, .ref (ad_M 0)), (1, .int p1)]) hx hb dX10_byLetter_4 rfl hl (by decide) rfl (fun ls hl => ?_)
  refine lv_aload_n hx hb dX10_byLetter_5 rfl (lv_at hl 1 rfl) ?_
  refine va_get (D := D) (ci := 7) (v := .ref (ad_M 4)) (C := RX10) (T := TX10) (N := 58) hx hb hts hin10 hown hK hP 0 rfl rfl 10 (by decide) (hts _ zm_78) (fun _ h9 => h9) rfl dX10_byLetter_6 ?_
  refine lv_iconst (v := 0) hx hb dX10_byLetter_9 (by decide) ?_
  refine z_ialdK 0 hx hb hK hP 4 0 rfl rfl (zin_ok (by decide)) (by decide) dX10_byLetter_10 ?_
  refine z_let hF (fun v3_1 hF => ?_)
  refine lv_istore_n (lv' := [(3, .int v3_1), (2, .int M_letters), (0, .ref (ad_M 0)), (1, .int p1)]) hx hb dX10_byLetter_11 rfl hl (by decide) rfl (fun ls hl => ?_)
  refine lv_aload_n hx hb dX10_byLetter_12 rfl (lv_at hl 2 rfl) ?_
  refine lv_iconst (v := 1) hx hb dX10_byLetter_13 (by decide) ?_
  refine va_put (D := D) (ci := 7) (v := .int 1) (C := RX10) (T := TX10) (N := 58) hx hb hts hin10 tyX10 tyX10_ok nmX10 hown hK hP hD hS 0 rfl rfl 9 (by decide) (hts _ zm_73) (fun _ h9 => h9) rfl (tyX10_ok 9 (by decide)) rfl rfl (Nat.le_of_ble_eq_true rfl) dX10_byLetter_14 (fun H locs hP hD hS => ?_)
  have hP : va_P D vwCl (wX10_M ca ad_M M_guests M_kind M_figure M_told M_heaps M_holds M_back M_mistakes M_hooks 1 M_rule M_at M_well M_sort M_text M_row M_field M_fields M_begins M_ruleLetters M_coming M_comingMany M_going M_goingMany M_minute M_pile M_high M_where M_latest M_lifts M_begun M_left M_has M_lifted M_taken M_above M_allLifts M_busy M_longest M_onto M_worst M_best M_orders M_together M_ofOne M_ofOther M_seed M_then M_was M_kept M_held M_kindOn M_figureOn M_sorts M_size M_items M_moved M_thrown) H := hP
  have hD : va_D A (wX10_M ca ad_M M_guests M_kind M_figure M_told M_heaps M_holds M_back M_mistakes M_hooks 1 M_rule M_at M_well M_sort M_text M_row M_field M_fields M_begins M_ruleLetters M_coming M_comingMany M_going M_goingMany M_minute M_pile M_high M_where M_latest M_lifts M_begun M_left M_has M_lifted M_taken M_above M_allLifts M_busy M_longest M_onto M_worst M_best M_orders M_together M_ofOne M_ofOther M_seed M_then M_was M_kept M_held M_kindOn M_figureOn M_sorts M_size M_items M_moved M_thrown) := hD
  refine lv_aload_n hx hb dX10_byLetter_17 rfl (lv_at hl 2 rfl) ?_
  refine va_get (D := D) (ci := 7) (v := .ref (ad_M 4)) (C := RX10) (T := TX10) (N := 58) hx hb hts hin10 hown hK hP 0 rfl rfl 10 (by decide) (hts _ zm_78) (fun _ h9 => h9) rfl dX10_byLetter_18 ?_
  refine lv_iconst (v := 0) hx hb dX10_byLetter_21 (by decide) ?_
  refine lv_iload_n hx hb dX10_byLetter_22 rfl (lv_at hl 3 rfl) ?_
  refine z_iastK 0 hx hb hK hP hD hS 4 0 rfl rfl (zin_ok (by decide)) (by decide) dX10_byLetter_23 (fun g => (wX10_M ca ad_M M_guests M_kind M_figure M_told M_heaps M_holds M_back M_mistakes M_hooks 1 g M_at M_well M_sort M_text M_row M_field M_fields M_begins M_ruleLetters M_coming M_comingMany M_going M_goingMany M_minute M_pile M_high M_where M_latest M_lifts M_begun M_left M_has M_lifted M_taken M_above M_allLifts M_busy M_longest M_onto M_worst M_best M_orders M_together M_ofOne M_ofOther M_seed M_then M_was M_kept M_held M_kindOn M_figureOn M_sorts M_size M_items M_moved M_thrown)) (fun _ => rfl) hF (fun M_rule_2 H locs hF hP hD hS => ?_)
  refine lv_aload_n hx hb dX10_byLetter_24 rfl (lv_at hl 2 rfl) ?_
  obtain ⟨o_3, hc_3, hF⟩ := zb hF
  refine zcVi (rest := []) (ws' := (wX10_M ca ad_M M_guests M_kind M_figure M_told M_heaps M_holds M_back M_mistakes M_hooks 1 M_rule_2 M_at M_well M_sort M_text M_row M_field M_fields M_begins M_ruleLetters o_3.2.1 o_3.2.2.1 o_3.2.2.2.1 o_3.2.2.2.2.1 o_3.2.2.2.2.2.1 o_3.2.2.2.2.2.2.1 o_3.2.2.2.2.2.2.2.1 o_3.2.2.2.2.2.2.2.2.1 o_3.2.2.2.2.2.2.2.2.2.1 o_3.2.2.2.2.2.2.2.2.2.2.1 o_3.2.2.2.2.2.2.2.2.2.2.2.1 o_3.2.2.2.2.2.2.2.2.2.2.2.2.1 o_3.2.2.2.2.2.2.2.2.2.2.2.2.2.1 o_3.2.2.2.2.2.2.2.2.2.2.2.2.2.2.1 o_3.2.2.2.2.2.2.2.2.2.2.2.2.2.2.2.1 o_3.2.2.2.2.2.2.2.2.2.2.2.2.2.2.2.2.1 o_3.2.2.2.2.2.2.2.2.2.2.2.2.2.2.2.2.2.1 o_3.2.2.2.2.2.2.2.2.2.2.2.2.2.2.2.2.2.2 M_longest M_onto M_worst M_best M_orders M_together M_ofOne M_ofOther M_seed M_then M_was M_kept M_held M_kindOn M_figureOn M_sorts M_size M_items M_moved M_thrown)) (kX10_night l D ca t ad_M M_guests M_kind M_figure M_told M_heaps M_holds M_back M_mistakes M_hooks 1 M_rule_2 M_at M_well M_sort M_text M_row M_field M_fields M_begins M_ruleLetters M_coming M_comingMany M_going M_goingMany M_minute M_pile M_high M_where M_latest M_lifts M_begun M_left M_has M_lifted M_taken M_above M_allLifts M_busy M_longest M_onto M_worst M_best M_orders M_together M_ofOne M_ofOther M_seed M_then M_was M_kept M_held M_kindOn M_figureOn M_sorts M_size M_items M_moved M_thrown fuel _ hc_3) ⟨hx, hb, hml, hown, hts⟩ (zcwV hts zm_194 zm_195 zm_196 zm_19 zm_193 rfl rfl zdv_X10_night ⟨Nat.le_of_ble_eq_true rfl, Nat.le_of_ble_eq_true rfl⟩) hA hK hZ hP hD hS [0, 1, 2, 3, 4, 5, 6, 7, 8, 9, 10, 11, 12, 13, 14, 15, 16, 17, 18, 19, 20, 21, 22, 23, 24, 25, 26, 27, 28, 29, 30, 31, 32, 33] [] [0, 1, 2, 3, 4, 5, 6, 7, 8, 9, 10, 11, 12, 13, 14, 15, 16, 17, 18, 19, 20, 21, 22, 23, 24, 25, 26, 27, 28, 29, 30, 31, 32, 33] rfl rfl rfl rfl rfl rfl rfl 7 0 rfl rfl rfl hl.1 (Nat.le_of_ble_eq_true rfl) dX10_byLetter_25 rfl (fun H locs hP hD hS => ?_)
  refine lv_istore (lv' := [(4, .int o_3.1), (3, .int v3_1), (2, .int M_letters), (0, .ref (ad_M 0)), (1, .int p1)]) hx hb dX10_byLetter_28 hl (by decide) rfl (fun ls hl => ?_)
  refine lv_aload_n hx hb dX10_byLetter_30 rfl (lv_at hl 3 rfl) ?_
  refine lv_iload_n hx hb dX10_byLetter_31 rfl (lv_at hl 2 rfl) ?_
  refine va_put (D := D) (ci := 7) (v := .int M_letters) (C := RX10) (T := TX10) (N := 58) hx hb hts hin10 tyX10 tyX10_ok nmX10 hown hK hP hD hS 0 rfl rfl 9 (by decide) (hts _ zm_73) (fun _ h9 => h9) rfl (tyX10_ok 9 (by decide)) rfl rfl (Nat.le_of_ble_eq_true rfl) dX10_byLetter_32 (fun H locs hP hD hS => ?_)
  have hP : va_P D vwCl (wX10_M ca ad_M M_guests M_kind M_figure M_told M_heaps M_holds M_back M_mistakes M_hooks M_letters M_rule_2 M_at M_well M_sort M_text M_row M_field M_fields M_begins M_ruleLetters o_3.2.1 o_3.2.2.1 o_3.2.2.2.1 o_3.2.2.2.2.1 o_3.2.2.2.2.2.1 o_3.2.2.2.2.2.2.1 o_3.2.2.2.2.2.2.2.1 o_3.2.2.2.2.2.2.2.2.1 o_3.2.2.2.2.2.2.2.2.2.1 o_3.2.2.2.2.2.2.2.2.2.2.1 o_3.2.2.2.2.2.2.2.2.2.2.2.1 o_3.2.2.2.2.2.2.2.2.2.2.2.2.1 o_3.2.2.2.2.2.2.2.2.2.2.2.2.2.1 o_3.2.2.2.2.2.2.2.2.2.2.2.2.2.2.1 o_3.2.2.2.2.2.2.2.2.2.2.2.2.2.2.2.1 o_3.2.2.2.2.2.2.2.2.2.2.2.2.2.2.2.2.1 o_3.2.2.2.2.2.2.2.2.2.2.2.2.2.2.2.2.2.1 o_3.2.2.2.2.2.2.2.2.2.2.2.2.2.2.2.2.2.2 M_longest M_onto M_worst M_best M_orders M_together M_ofOne M_ofOther M_seed M_then M_was M_kept M_held M_kindOn M_figureOn M_sorts M_size M_items M_moved M_thrown) H := hP
  have hD : va_D A (wX10_M ca ad_M M_guests M_kind M_figure M_told M_heaps M_holds M_back M_mistakes M_hooks M_letters M_rule_2 M_at M_well M_sort M_text M_row M_field M_fields M_begins M_ruleLetters o_3.2.1 o_3.2.2.1 o_3.2.2.2.1 o_3.2.2.2.2.1 o_3.2.2.2.2.2.1 o_3.2.2.2.2.2.2.1 o_3.2.2.2.2.2.2.2.1 o_3.2.2.2.2.2.2.2.2.1 o_3.2.2.2.2.2.2.2.2.2.1 o_3.2.2.2.2.2.2.2.2.2.2.1 o_3.2.2.2.2.2.2.2.2.2.2.2.1 o_3.2.2.2.2.2.2.2.2.2.2.2.2.1 o_3.2.2.2.2.2.2.2.2.2.2.2.2.2.1 o_3.2.2.2.2.2.2.2.2.2.2.2.2.2.2.1 o_3.2.2.2.2.2.2.2.2.2.2.2.2.2.2.2.1 o_3.2.2.2.2.2.2.2.2.2.2.2.2.2.2.2.2.1 o_3.2.2.2.2.2.2.2.2.2.2.2.2.2.2.2.2.2.1 o_3.2.2.2.2.2.2.2.2.2.2.2.2.2.2.2.2.2.2 M_longest M_onto M_worst M_best M_orders M_together M_ofOne M_ofOther M_seed M_then M_was M_kept M_held M_kindOn M_figureOn M_sorts M_size M_items M_moved M_thrown) := hD
  refine lv_aload_n hx hb dX10_byLetter_35 rfl (lv_at hl 3 rfl) ?_
  refine va_get (D := D) (ci := 7) (v := .ref (ad_M 4)) (C := RX10) (T := TX10) (N := 58) hx hb hts hin10 hown hK hP 0 rfl rfl 10 (by decide) (hts _ zm_78) (fun _ h9 => h9) rfl dX10_byLetter_36 ?_
  refine lv_iconst (v := 0) hx hb dX10_byLetter_39 (by decide) ?_
  refine lv_iload_n hx hb dX10_byLetter_40 rfl (lv_at hl 1 rfl) ?_
  refine z_iastK 0 hx hb hK hP hD hS 4 0 rfl rfl (zin_ok (by decide)) (by decide) dX10_byLetter_41 (fun g => (wX10_M ca ad_M M_guests M_kind M_figure M_told M_heaps M_holds M_back M_mistakes M_hooks M_letters g M_at M_well M_sort M_text M_row M_field M_fields M_begins M_ruleLetters o_3.2.1 o_3.2.2.1 o_3.2.2.2.1 o_3.2.2.2.2.1 o_3.2.2.2.2.2.1 o_3.2.2.2.2.2.2.1 o_3.2.2.2.2.2.2.2.1 o_3.2.2.2.2.2.2.2.2.1 o_3.2.2.2.2.2.2.2.2.2.1 o_3.2.2.2.2.2.2.2.2.2.2.1 o_3.2.2.2.2.2.2.2.2.2.2.2.1 o_3.2.2.2.2.2.2.2.2.2.2.2.2.1 o_3.2.2.2.2.2.2.2.2.2.2.2.2.2.1 o_3.2.2.2.2.2.2.2.2.2.2.2.2.2.2.1 o_3.2.2.2.2.2.2.2.2.2.2.2.2.2.2.2.1 o_3.2.2.2.2.2.2.2.2.2.2.2.2.2.2.2.2.1 o_3.2.2.2.2.2.2.2.2.2.2.2.2.2.2.2.2.2.1 o_3.2.2.2.2.2.2.2.2.2.2.2.2.2.2.2.2.2.2 M_longest M_onto M_worst M_best M_orders M_together M_ofOne M_ofOther M_seed M_then M_was M_kept M_held M_kindOn M_figureOn M_sorts M_size M_items M_moved M_thrown)) (fun _ => rfl) hF (fun M_rule_4 H locs hF hP hD hS => ?_)
  refine lv_iload hx hb dX10_byLetter_42 (lv_at hl 0 rfl) ?_
  obtain rfl := Option.some.inj hF
  exact hret _ _ _ _ hP hD hS rfl dX10_byLetter_44
theorem zdv_X10_byLetter : yX10_byLetter.cls = RX10 ∧ yX10_byLetter.cls ≠ "java/lang/invoke/MethodHandle" ∧ yX10_byLetter.cls ≠ "java/lang/invoke/VarHandle" ∧ (parseMethodDescriptor yX10_byLetter.desc).map (fun d => d.parameters.length) = some 1 := by decide +kernel
abbrev roX10_rival : Room := { frames := 9, cells := 0, slots := 0, locals := 202 }
set_option maxHeartbeats 4000000 in
set_option maxRecDepth 100000 in
theorem kX10_rival (l : Launch) (D : va_G) (ca : Nat → ClassId) (t : Nat → Nat) (ad_M : Nat → Nat) (M_guests : Int32) (M_kind : Nat → Int32) (M_figure : Nat → Int32) (M_told : Nat → Int32) (M_heaps : Int32) (M_holds : Int32) (M_back : Int32) (M_mistakes : Int32) (M_hooks : Int32) (M_letters : Int32) (M_rule : Nat → Int32) (M_at : Int32) (M_well : Int32) (M_sort : Int32) (M_text : Int32) (M_row : Int32) (M_field : Nat → Int32) (M_fields : Int32) (M_begins : Nat → Int32) (M_ruleLetters : Nat → Int32) (M_coming : Nat → Int32) (M_comingMany : Int32) (M_going : Nat → Int32) (M_goingMany : Int32) (M_minute : Nat → Int32) (M_pile : Nat → Int32) (M_high : Nat → Int32) (M_where : Nat → Int32) (M_latest : Int32) (M_lifts : Nat → Int32) (M_begun : Nat → Int32) (M_left : Nat → Int32) (M_has : Nat → Int32) (M_lifted : Nat → Int32) (M_taken : Nat → Int32) (M_above : Nat → Int32) (M_allLifts : Int32) (M_busy : Int32) (M_longest : Nat → Int32) (M_onto : Nat → Int32) (M_worst : Int32) (M_best : Int32) (M_orders : Int32) (M_together : Int32) (M_ofOne : Nat → Int32) (M_ofOther : Nat → Int32) (M_seed : Int32) (M_then : Nat → Int32) (M_was : Nat → Int32) (M_kept : Int32) (M_held : Nat → Int32) (M_kindOn : Nat → Int32) (M_figureOn : Nat → Int32) (M_sorts : Nat → Int32) (M_size : Nat → Int32) (M_items : Nat → Int32) (M_moved : Nat → Int32) (M_thrown : Int32) (p1 : Int32) (fuel : Nat) (o : Int32 × Int32 × (Nat → Int32) × (Nat → Int32) × Int32 × (Nat → Int32) × Int32 × (Nat → Int32) × (Nat → Int32) × (Nat → Int32) × (Nat → Int32) × Int32 × (Nat → Int32) × (Nat → Int32) × (Nat → Int32) × (Nat → Int32) × (Nat → Int32) × (Nat → Int32) × (Nat → Int32) × Int32 × Int32) (hF : fX10_rival fuel M_guests M_kind M_figure M_told M_heaps M_holds M_back M_mistakes M_hooks M_letters M_rule M_coming M_comingMany M_going M_goingMany M_minute M_pile M_high M_where M_latest M_lifts M_begun M_left M_has M_lifted M_taken M_above M_allLifts M_busy p1 = some o) : zMi l D (zT ca) t yX10_rival (.code yX10_rival cX10_rival 2 (some .int) :: zW) roX10_rival [.ref (ad_M 0), .int p1] (wX10_M ca ad_M M_guests M_kind M_figure M_told M_heaps M_holds M_back M_mistakes M_hooks M_letters M_rule M_at M_well M_sort M_text M_row M_field M_fields M_begins M_ruleLetters M_coming M_comingMany M_going M_goingMany M_minute M_pile M_high M_where M_latest M_lifts M_begun M_left M_has M_lifted M_taken M_above M_allLifts M_busy M_longest M_onto M_worst M_best M_orders M_together M_ofOne M_ofOther M_seed M_then M_was M_kept M_held M_kindOn M_figureOn M_sorts M_size M_items M_moved M_thrown) (wX10_M ca ad_M M_guests M_kind M_figure M_told M_heaps M_holds M_back M_mistakes M_hooks o.2.1 o.2.2.1 M_at M_well M_sort M_text M_row M_field M_fields M_begins M_ruleLetters o.2.2.2.1 o.2.2.2.2.1 o.2.2.2.2.2.1 o.2.2.2.2.2.2.1 o.2.2.2.2.2.2.2.1 o.2.2.2.2.2.2.2.2.1 o.2.2.2.2.2.2.2.2.2.1 o.2.2.2.2.2.2.2.2.2.2.1 o.2.2.2.2.2.2.2.2.2.2.2.1 o.2.2.2.2.2.2.2.2.2.2.2.2.1 o.2.2.2.2.2.2.2.2.2.2.2.2.2.1 o.2.2.2.2.2.2.2.2.2.2.2.2.2.2.1 o.2.2.2.2.2.2.2.2.2.2.2.2.2.2.2.1 o.2.2.2.2.2.2.2.2.2.2.2.2.2.2.2.2.1 o.2.2.2.2.2.2.2.2.2.2.2.2.2.2.2.2.2.1 o.2.2.2.2.2.2.2.2.2.2.2.2.2.2.2.2.2.2.1 o.2.2.2.2.2.2.2.2.2.2.2.2.2.2.2.2.2.2.2.1 o.2.2.2.2.2.2.2.2.2.2.2.2.2.2.2.2.2.2.2.2 M_longest M_onto M_worst M_best M_orders M_together M_ofOne M_ofOther M_seed M_then M_was M_kept M_held M_kindOn M_figureOn M_sorts M_size M_items M_moved M_thrown) o.1 := by
  refine zMi_of (cc := cX10_rival) (maxL := 2) (by decide) rfl (Nat.le_of_ble_eq_true rfl) ?_
  intro p e s m args below meth c A Q ls ⟨hx, hb, hml, hown, hts, hA, hK, hZ, hS⟩ hret hP hD hl
  have hts := fun w h => hts w (List.mem_cons_of_mem _ h)
  have hown : s.vm.findClass RX10 = some m.cls := hown
  have hl : lv_has ls 2 [(0, .ref (ad_M 0)), (1, .int p1)] := hl
  unfold fX10_rival at hF
  refine lv_iload_n hx hb dX10_rival_0 rfl (lv_at hl 1 rfl) ?_
  refine lv_iconst (v := 0) hx hb dX10_rival_1 (by decide) ?_
  refine lv_iconst (v := 5) hx hb dX10_rival_2 (by decide) ?_
  obtain ⟨o_1, hc_1, hF⟩ := zb hF
  refine zcSR (rest := []) (kX10_isIn l D ca t p1 0 5 fuel _ hc_1) ⟨hx, hb, hml, hown, hts⟩ (zcwS hts zm_20 zm_18 zm_19 zm_17 rfl rfl zds_X10_isIn ⟨Nat.le_of_ble_eq_true rfl, Nat.le_of_ble_eq_true rfl⟩) hA hK hZ hP hD hS [] rfl rfl rfl hl.1 (Nat.le_of_ble_eq_true rfl) dX10_rival_3 rfl ?_
  refine lv_if_eq (tgt := 17) hx hb dX10_rival_6 (by decide) (fun c_2 => ?_) (fun c_2 => ?_)
  · have hF := zt c_2 hF
    refine lv_iconst (v := (-1)) hx hb dX10_rival_17 (by decide) ?_
    obtain rfl := Option.some.inj hF
    exact hret _ _ _ _ hP hD hS rfl dX10_rival_18
  · have hF := zf c_2 hF
    refine lv_aload_n hx hb dX10_rival_9 rfl (lv_at hl 0 rfl) ?_
    refine lv_iload_n hx hb dX10_rival_10 rfl (lv_at hl 1 rfl) ?_
    obtain ⟨o_3, hc_3, hF⟩ := zb hF
    refine zcVi (rest := []) (ws' := (wX10_M ca ad_M M_guests M_kind M_figure M_told M_heaps M_holds M_back M_mistakes M_hooks o_3.2.1 o_3.2.2.1 M_at M_well M_sort M_text M_row M_field M_fields M_begins M_ruleLetters o_3.2.2.2.1 o_3.2.2.2.2.1 o_3.2.2.2.2.2.1 o_3.2.2.2.2.2.2.1 o_3.2.2.2.2.2.2.2.1 o_3.2.2.2.2.2.2.2.2.1 o_3.2.2.2.2.2.2.2.2.2.1 o_3.2.2.2.2.2.2.2.2.2.2.1 o_3.2.2.2.2.2.2.2.2.2.2.2.1 o_3.2.2.2.2.2.2.2.2.2.2.2.2.1 o_3.2.2.2.2.2.2.2.2.2.2.2.2.2.1 o_3.2.2.2.2.2.2.2.2.2.2.2.2.2.2.1 o_3.2.2.2.2.2.2.2.2.2.2.2.2.2.2.2.1 o_3.2.2.2.2.2.2.2.2.2.2.2.2.2.2.2.2.1 o_3.2.2.2.2.2.2.2.2.2.2.2.2.2.2.2.2.2.1 o_3.2.2.2.2.2.2.2.2.2.2.2.2.2.2.2.2.2.2.1 o_3.2.2.2.2.2.2.2.2.2.2.2.2.2.2.2.2.2.2.2.1 o_3.2.2.2.2.2.2.2.2.2.2.2.2.2.2.2.2.2.2.2.2 M_longest M_onto M_worst M_best M_orders M_together M_ofOne M_ofOther M_seed M_then M_was M_kept M_held M_kindOn M_figureOn M_sorts M_size M_items M_moved M_thrown)) (kX10_byLetter l D ca t ad_M M_guests M_kind M_figure M_told M_heaps M_holds M_back M_mistakes M_hooks M_letters M_rule M_at M_well M_sort M_text M_row M_field M_fields M_begins M_ruleLetters M_coming M_comingMany M_going M_goingMany M_minute M_pile M_high M_where M_latest M_lifts M_begun M_left M_has M_lifted M_taken M_above M_allLifts M_busy M_longest M_onto M_worst M_best M_orders M_together M_ofOne M_ofOther M_seed M_then M_was M_kept M_held M_kindOn M_figureOn M_sorts M_size M_items M_moved M_thrown p1 fuel _ hc_3) ⟨hx, hb, hml, hown, hts⟩ (zcwV hts zm_265 zm_266 zm_267 zm_19 zm_264 rfl rfl zdv_X10_byLetter ⟨Nat.le_of_ble_eq_true rfl, Nat.le_of_ble_eq_true rfl⟩) hA hK hZ hP hD hS [0, 1, 2, 3, 4, 5, 6, 7, 8, 9, 10, 11, 12, 13, 14, 15, 16, 17, 18, 19, 20, 21, 22, 23, 24, 25, 26, 27, 28, 29, 30, 31, 32, 33] [] [0, 1, 2, 3, 4, 5, 6, 7, 8, 9, 10, 11, 12, 13, 14, 15, 16, 17, 18, 19, 20, 21, 22, 23, 24, 25, 26, 27, 28, 29, 30, 31, 32, 33] rfl rfl rfl rfl rfl rfl rfl 7 0 rfl rfl rfl hl.1 (Nat.le_of_ble_eq_true rfl) dX10_rival_11 rfl (fun H locs hP hD hS => ?_)
    refine lv_goto (tgt := 18) hx hb dX10_rival_14 (by decide) ?_
    obtain rfl := Option.some.inj hF
    exact hret _ _ _ _ hP hD hS rfl dX10_rival_18
abbrev roX10_bestRule : Room := { frames := 9, cells := 0, slots := 0, locals := 202 }
set_option maxHeartbeats 4000000 in
set_option maxRecDepth 100000 in
theorem kX10_bestRule (l : Launch) (D : va_G) (ca : Nat → ClassId) (t : Nat → Nat) (ad_M : Nat → Nat) (M_guests : Int32) (M_kind : Nat → Int32) (M_figure : Nat → Int32) (M_told : Nat → Int32) (M_heaps : Int32) (M_holds : Int32) (M_back : Int32) (M_mistakes : Int32) (M_hooks : Int32) (M_letters : Int32) (M_rule : Nat → Int32) (M_at : Int32) (M_well : Int32) (M_sort : Int32) (M_text : Int32) (M_row : Int32) (M_field : Nat → Int32) (M_fields : Int32) (M_begins : Nat → Int32) (M_ruleLetters : Nat → Int32) (M_coming : Nat → Int32) (M_comingMany : Int32) (M_going : Nat → Int32) (M_goingMany : Int32) (M_minute : Nat → Int32) (M_pile : Nat → Int32) (M_high : Nat → Int32) (M_where : Nat → Int32) (M_latest : Int32) (M_lifts : Nat → Int32) (M_begun : Nat → Int32) (M_left : Nat → Int32) (M_has : Nat → Int32) (M_lifted : Nat → Int32) (M_taken : Nat → Int32) (M_above : Nat → Int32) (M_allLifts : Int32) (M_busy : Int32) (M_longest : Nat → Int32) (M_onto : Nat → Int32) (M_worst : Int32) (M_best : Int32) (M_orders : Int32) (M_together : Int32) (M_ofOne : Nat → Int32) (M_ofOther : Nat → Int32) (M_seed : Int32) (M_then : Nat → Int32) (M_was : Nat → Int32) (M_kept : Int32) (M_held : Nat → Int32) (M_kindOn : Nat → Int32) (M_figureOn : Nat → Int32) (M_sorts : Nat → Int32) (M_size : Nat → Int32) (M_items : Nat → Int32) (M_moved : Nat → Int32) (M_thrown : Int32) (fuel : Nat) (o : Int32 × Int32 × (Nat → Int32) × (Nat → Int32) × Int32 × (Nat → Int32) × Int32 × (Nat → Int32) × (Nat → Int32) × (Nat → Int32) × (Nat → Int32) × Int32 × (Nat → Int32) × (Nat → Int32) × (Nat → Int32) × (Nat → Int32) × (Nat → Int32) × (Nat → Int32) × (Nat → Int32) × Int32 × Int32) (hF : fX10_bestRule fuel M_guests M_kind M_figure M_told M_heaps M_holds M_back M_mistakes M_hooks M_letters M_rule M_coming M_comingMany M_going M_goingMany M_minute M_pile M_high M_where M_latest M_lifts M_begun M_left M_has M_lifted M_taken M_above M_allLifts M_busy = some o) : zMi l D (zT ca) t yX10_bestRule (.code yX10_bestRule cX10_bestRule 3 (some .int) :: zW) roX10_bestRule [.ref (ad_M 0)] (wX10_M ca ad_M M_guests M_kind M_figure M_told M_heaps M_holds M_back M_mistakes M_hooks M_letters M_rule M_at M_well M_sort M_text M_row M_field M_fields M_begins M_ruleLetters M_coming M_comingMany M_going M_goingMany M_minute M_pile M_high M_where M_latest M_lifts M_begun M_left M_has M_lifted M_taken M_above M_allLifts M_busy M_longest M_onto M_worst M_best M_orders M_together M_ofOne M_ofOther M_seed M_then M_was M_kept M_held M_kindOn M_figureOn M_sorts M_size M_items M_moved M_thrown) (wX10_M ca ad_M M_guests M_kind M_figure M_told M_heaps M_holds M_back M_mistakes M_hooks o.2.1 o.2.2.1 M_at M_well M_sort M_text M_row M_field M_fields M_begins M_ruleLetters o.2.2.2.1 o.2.2.2.2.1 o.2.2.2.2.2.1 o.2.2.2.2.2.2.1 o.2.2.2.2.2.2.2.1 o.2.2.2.2.2.2.2.2.1 o.2.2.2.2.2.2.2.2.2.1 o.2.2.2.2.2.2.2.2.2.2.1 o.2.2.2.2.2.2.2.2.2.2.2.1 o.2.2.2.2.2.2.2.2.2.2.2.2.1 o.2.2.2.2.2.2.2.2.2.2.2.2.2.1 o.2.2.2.2.2.2.2.2.2.2.2.2.2.2.1 o.2.2.2.2.2.2.2.2.2.2.2.2.2.2.2.1 o.2.2.2.2.2.2.2.2.2.2.2.2.2.2.2.2.1 o.2.2.2.2.2.2.2.2.2.2.2.2.2.2.2.2.2.1 o.2.2.2.2.2.2.2.2.2.2.2.2.2.2.2.2.2.2.1 o.2.2.2.2.2.2.2.2.2.2.2.2.2.2.2.2.2.2.2.1 o.2.2.2.2.2.2.2.2.2.2.2.2.2.2.2.2.2.2.2.2 M_longest M_onto M_worst M_best M_orders M_together M_ofOne M_ofOther M_seed M_then M_was M_kept M_held M_kindOn M_figureOn M_sorts M_size M_items M_moved M_thrown) o.1 := by
  refine zMi_of (cc := cX10_bestRule) (maxL := 3) (by decide) rfl (Nat.le_of_ble_eq_true rfl) ?_
  intro p e s m args below meth c A Q ls ⟨hx, hb, hml, hown, hts, hA, hK, hZ, hS⟩ hret hP hD hl
  have hts := fun w h => hts w (List.mem_cons_of_mem _ h)
  have hown : s.vm.findClass RX10 = some m.cls := hown
  have hl : lv_has ls 3 [(0, .ref (ad_M 0))] := hl
  have l4 : ∀ (n4 : Nat) (v1 : Int32) (v2 : Int32) (M_letters : Int32) (M_rule : Nat → Int32) (M_coming : Nat → Int32) (M_comingMany : Int32) (M_going : Nat → Int32) (M_goingMany : Int32) (M_minute : Nat → Int32) (M_pile : Nat → Int32) (M_high : Nat → Int32) (M_where : Nat → Int32) (M_latest : Int32) (M_lifts : Nat → Int32) (M_begun : Nat → Int32) (M_left : Nat → Int32) (M_has : Nat → Int32) (M_lifted : Nat → Int32) (M_taken : Nat → Int32) (M_above : Nat → Int32) (M_allLifts : Int32) (M_busy : Int32) (H : Heap) (locs : List Loc), fX10_bestRule_L4 fuel M_guests M_kind M_figure M_told M_heaps M_holds M_back M_mistakes M_hooks n4 v1 v2 M_letters M_rule M_coming M_comingMany M_going M_goingMany M_minute M_pile M_high M_where M_latest M_lifts M_begun M_left M_has M_lifted M_taken M_above M_allLifts M_busy = some o → va_P D vwCl (wX10_M ca ad_M M_guests M_kind M_figure M_told M_heaps M_holds M_back M_mistakes M_hooks M_letters M_rule M_at M_well M_sort M_text M_row M_field M_fields M_begins M_ruleLetters M_coming M_comingMany M_going M_goingMany M_minute M_pile M_high M_where M_latest M_lifts M_begun M_left M_has M_lifted M_taken M_above M_allLifts M_busy M_longest M_onto M_worst M_best M_orders M_together M_ofOne M_ofOther M_seed M_then M_was M_kept M_held M_kindOn M_figureOn M_sorts M_size M_items M_moved M_thrown) H → va_D A (wX10_M ca ad_M M_guests M_kind M_figure M_told M_heaps M_holds M_back M_mistakes M_hooks M_letters M_rule M_at M_well M_sort M_text M_row M_field M_fields M_begins M_ruleLetters M_coming M_comingMany M_going M_goingMany M_minute M_pile M_high M_where M_latest M_lifts M_begun M_left M_has M_lifted M_taken M_above M_allLifts M_busy M_longest M_onto M_worst M_best M_orders M_together M_ofOne M_ofOther M_seed M_then M_was M_kept M_held M_kindOn M_figureOn M_sorts M_size M_items M_moved M_thrown) → va_S A s.heap H locs → ∀ ls : Array Slot, lv_has ls 3 [(0, .ref (ad_M 0)), (1, .int v1), (2, .int v2)] → W p l e roX10_bestRule s m args below meth c H locs 0 0 Q (F0 m 4 ls []) := by
    intro n4
    induction n4 with
    | zero =>
      intro v1 v2 M_letters M_rule M_coming M_comingMany M_going M_goingMany M_minute M_pile M_high M_where M_latest M_lifts M_begun M_left M_has M_lifted M_taken M_above M_allLifts M_busy H locs hF
      rw [fX10_bestRule_L4] at hF
      cases hF
    | succ n4 ih4 =>
      intro v1 v2 M_letters M_rule M_coming M_comingMany M_going M_goingMany M_minute M_pile M_high M_where M_latest M_lifts M_begun M_left M_has M_lifted M_taken M_above M_allLifts M_busy H locs hF hP hD hS ls hl
      rw [fX10_bestRule_L4] at hF
      refine lv_iload_n hx hb dX10_bestRule_4 rfl (lv_at hl 2 rfl) ?_
      refine lv_bipush (v := 6) hx hb dX10_bestRule_5 (by decide) ?_
      refine lv_icmp_ge (tgt := 35) hx hb dX10_bestRule_7 (by decide) (fun c_1 => ?_) (fun c_1 => ?_)
      · have hF := zt c_1 hF
        refine lv_iload_n hx hb dX10_bestRule_35 rfl (lv_at hl 1 rfl) ?_
        obtain rfl := Option.some.inj hF
        exact hret _ _ _ _ hP hD hS rfl dX10_bestRule_36
      · have hF := zf c_1 hF
        refine lv_aload_n hx hb dX10_bestRule_10 rfl (lv_at hl 0 rfl) ?_
        refine lv_iload_n hx hb dX10_bestRule_11 rfl (lv_at hl 2 rfl) ?_
        obtain ⟨o_2, hc_2, hF⟩ := zb hF
        refine zcVi (rest := []) (ws' := (wX10_M ca ad_M M_guests M_kind M_figure M_told M_heaps M_holds M_back M_mistakes M_hooks o_2.2.1 o_2.2.2.1 M_at M_well M_sort M_text M_row M_field M_fields M_begins M_ruleLetters o_2.2.2.2.1 o_2.2.2.2.2.1 o_2.2.2.2.2.2.1 o_2.2.2.2.2.2.2.1 o_2.2.2.2.2.2.2.2.1 o_2.2.2.2.2.2.2.2.2.1 o_2.2.2.2.2.2.2.2.2.2.1 o_2.2.2.2.2.2.2.2.2.2.2.1 o_2.2.2.2.2.2.2.2.2.2.2.2.1 o_2.2.2.2.2.2.2.2.2.2.2.2.2.1 o_2.2.2.2.2.2.2.2.2.2.2.2.2.2.1 o_2.2.2.2.2.2.2.2.2.2.2.2.2.2.2.1 o_2.2.2.2.2.2.2.2.2.2.2.2.2.2.2.2.1 o_2.2.2.2.2.2.2.2.2.2.2.2.2.2.2.2.2.1 o_2.2.2.2.2.2.2.2.2.2.2.2.2.2.2.2.2.2.1 o_2.2.2.2.2.2.2.2.2.2.2.2.2.2.2.2.2.2.2.1 o_2.2.2.2.2.2.2.2.2.2.2.2.2.2.2.2.2.2.2.2.1 o_2.2.2.2.2.2.2.2.2.2.2.2.2.2.2.2.2.2.2.2.2 M_longest M_onto M_worst M_best M_orders M_together M_ofOne M_ofOther M_seed M_then M_was M_kept M_held M_kindOn M_figureOn M_sorts M_size M_items M_moved M_thrown)) (kX10_byLetter l D ca t ad_M M_guests M_kind M_figure M_told M_heaps M_holds M_back M_mistakes M_hooks M_letters M_rule M_at M_well M_sort M_text M_row M_field M_fields M_begins M_ruleLetters M_coming M_comingMany M_going M_goingMany M_minute M_pile M_high M_where M_latest M_lifts M_begun M_left M_has M_lifted M_taken M_above M_allLifts M_busy M_longest M_onto M_worst M_best M_orders M_together M_ofOne M_ofOther M_seed M_then M_was M_kept M_held M_kindOn M_figureOn M_sorts M_size M_items M_moved M_thrown v2 fuel _ hc_2) ⟨hx, hb, hml, hown, hts⟩ (zcwV hts zm_265 zm_266 zm_267 zm_19 zm_264 rfl rfl zdv_X10_byLetter ⟨Nat.le_of_ble_eq_true rfl, Nat.le_of_ble_eq_true rfl⟩) hA hK hZ hP hD hS [0, 1, 2, 3, 4, 5, 6, 7, 8, 9, 10, 11, 12, 13, 14, 15, 16, 17, 18, 19, 20, 21, 22, 23, 24, 25, 26, 27, 28, 29, 30, 31, 32, 33] [] [0, 1, 2, 3, 4, 5, 6, 7, 8, 9, 10, 11, 12, 13, 14, 15, 16, 17, 18, 19, 20, 21, 22, 23, 24, 25, 26, 27, 28, 29, 30, 31, 32, 33] rfl rfl rfl rfl rfl rfl rfl 7 0 rfl rfl rfl hl.1 (Nat.le_of_ble_eq_true rfl) dX10_bestRule_12 rfl (fun H locs hP hD hS => ?_)
        refine lv_aload_n hx hb dX10_bestRule_15 rfl (lv_at hl 0 rfl) ?_
        refine lv_iload_n hx hb dX10_bestRule_16 rfl (lv_at hl 1 rfl) ?_
        obtain ⟨o_3, hc_3, hF⟩ := zb hF
        refine zcVi (rest := [.int o_2.1]) (ws' := (wX10_M ca ad_M M_guests M_kind M_figure M_told M_heaps M_holds M_back M_mistakes M_hooks o_3.2.1 o_3.2.2.1 M_at M_well M_sort M_text M_row M_field M_fields M_begins M_ruleLetters o_3.2.2.2.1 o_3.2.2.2.2.1 o_3.2.2.2.2.2.1 o_3.2.2.2.2.2.2.1 o_3.2.2.2.2.2.2.2.1 o_3.2.2.2.2.2.2.2.2.1 o_3.2.2.2.2.2.2.2.2.2.1 o_3.2.2.2.2.2.2.2.2.2.2.1 o_3.2.2.2.2.2.2.2.2.2.2.2.1 o_3.2.2.2.2.2.2.2.2.2.2.2.2.1 o_3.2.2.2.2.2.2.2.2.2.2.2.2.2.1 o_3.2.2.2.2.2.2.2.2.2.2.2.2.2.2.1 o_3.2.2.2.2.2.2.2.2.2.2.2.2.2.2.2.1 o_3.2.2.2.2.2.2.2.2.2.2.2.2.2.2.2.2.1 o_3.2.2.2.2.2.2.2.2.2.2.2.2.2.2.2.2.2.1 o_3.2.2.2.2.2.2.2.2.2.2.2.2.2.2.2.2.2.2.1 o_3.2.2.2.2.2.2.2.2.2.2.2.2.2.2.2.2.2.2.2.1 o_3.2.2.2.2.2.2.2.2.2.2.2.2.2.2.2.2.2.2.2.2 M_longest M_onto M_worst M_best M_orders M_together M_ofOne M_ofOther M_seed M_then M_was M_kept M_held M_kindOn M_figureOn M_sorts M_size M_items M_moved M_thrown)) (kX10_byLetter l D ca t ad_M M_guests M_kind M_figure M_told M_heaps M_holds M_back M_mistakes M_hooks o_2.2.1 o_2.2.2.1 M_at M_well M_sort M_text M_row M_field M_fields M_begins M_ruleLetters o_2.2.2.2.1 o_2.2.2.2.2.1 o_2.2.2.2.2.2.1 o_2.2.2.2.2.2.2.1 o_2.2.2.2.2.2.2.2.1 o_2.2.2.2.2.2.2.2.2.1 o_2.2.2.2.2.2.2.2.2.2.1 o_2.2.2.2.2.2.2.2.2.2.2.1 o_2.2.2.2.2.2.2.2.2.2.2.2.1 o_2.2.2.2.2.2.2.2.2.2.2.2.2.1 o_2.2.2.2.2.2.2.2.2.2.2.2.2.2.1 o_2.2.2.2.2.2.2.2.2.2.2.2.2.2.2.1 o_2.2.2.2.2.2.2.2.2.2.2.2.2.2.2.2.1 o_2.2.2.2.2.2.2.2.2.2.2.2.2.2.2.2.2.1 o_2.2.2.2.2.2.2.2.2.2.2.2.2.2.2.2.2.2.1 o_2.2.2.2.2.2.2.2.2.2.2.2.2.2.2.2.2.2.2.1 o_2.2.2.2.2.2.2.2.2.2.2.2.2.2.2.2.2.2.2.2.1 o_2.2.2.2.2.2.2.2.2.2.2.2.2.2.2.2.2.2.2.2.2 M_longest M_onto M_worst M_best M_orders M_together M_ofOne M_ofOther M_seed M_then M_was M_kept M_held M_kindOn M_figureOn M_sorts M_size M_items M_moved M_thrown v1 fuel _ hc_3) ⟨hx, hb, hml, hown, hts⟩ (zcwV hts zm_265 zm_266 zm_267 zm_19 zm_264 rfl rfl zdv_X10_byLetter ⟨Nat.le_of_ble_eq_true rfl, Nat.le_of_ble_eq_true rfl⟩) hA hK hZ hP hD hS [0, 1, 2, 3, 4, 5, 6, 7, 8, 9, 10, 11, 12, 13, 14, 15, 16, 17, 18, 19, 20, 21, 22, 23, 24, 25, 26, 27, 28, 29, 30, 31, 32, 33] [] [0, 1, 2, 3, 4, 5, 6, 7, 8, 9, 10, 11, 12, 13, 14, 15, 16, 17, 18, 19, 20, 21, 22, 23, 24, 25, 26, 27, 28, 29, 30, 31, 32, 33] rfl rfl rfl rfl rfl rfl rfl 7 0 rfl rfl rfl hl.1 (Nat.le_of_ble_eq_true rfl) dX10_bestRule_17 rfl (fun H locs hP hD hS => ?_)
        refine lv_icmp_ge (tgt := 27) hx hb dX10_bestRule_20 (by decide) (fun c_4 => ?_) (fun c_4 => ?_)
        · have hF := zt c_4 hF
          refine lv_iload_n hx hb dX10_bestRule_27 rfl (lv_at hl 1 rfl) ?_
          refine lv_istore_n (lv' := [(1, .int v1), (0, .ref (ad_M 0)), (2, .int v2)]) hx hb dX10_bestRule_28 rfl hl (by decide) rfl (fun ls hl => ?_)
          refine z_iinc (kv := 1) hx hb 2 dX10_bestRule_29 hl rfl (by decide) (by decide) (fun g => [(2, .int g), (1, .int v1), (0, .ref (ad_M 0))]) (fun _ => rfl) hF (fun v2_5 ls hF hl => ?_)
          refine lv_goto (tgt := 4) hx hb dX10_bestRule_32 (by decide) ?_
          exact ih4 v1 v2_5 o_3.2.1 o_3.2.2.1 o_3.2.2.2.1 o_3.2.2.2.2.1 o_3.2.2.2.2.2.1 o_3.2.2.2.2.2.2.1 o_3.2.2.2.2.2.2.2.1 o_3.2.2.2.2.2.2.2.2.1 o_3.2.2.2.2.2.2.2.2.2.1 o_3.2.2.2.2.2.2.2.2.2.2.1 o_3.2.2.2.2.2.2.2.2.2.2.2.1 o_3.2.2.2.2.2.2.2.2.2.2.2.2.1 o_3.2.2.2.2.2.2.2.2.2.2.2.2.2.1 o_3.2.2.2.2.2.2.2.2.2.2.2.2.2.2.1 o_3.2.2.2.2.2.2.2.2.2.2.2.2.2.2.2.1 o_3.2.2.2.2.2.2.2.2.2.2.2.2.2.2.2.2.1 o_3.2.2.2.2.2.2.2.2.2.2.2.2.2.2.2.2.2.1 o_3.2.2.2.2.2.2.2.2.2.2.2.2.2.2.2.2.2.2.1 o_3.2.2.2.2.2.2.2.2.2.2.2.2.2.2.2.2.2.2.2.1 o_3.2.2.2.2.2.2.2.2.2.2.2.2.2.2.2.2.2.2.2.2 _ _ hF hP hD hS ls (lv_sub hl [2, 1, 0] rfl)
        · have hF := zf c_4 hF
          refine lv_iload_n hx hb dX10_bestRule_23 rfl (lv_at hl 2 rfl) ?_
          refine lv_goto (tgt := 28) hx hb dX10_bestRule_24 (by decide) ?_
          refine lv_istore_n (lv' := [(1, .int v2), (0, .ref (ad_M 0)), (2, .int v2)]) hx hb dX10_bestRule_28 rfl hl (by decide) rfl (fun ls hl => ?_)
          refine z_iinc (kv := 1) hx hb 2 dX10_bestRule_29 hl rfl (by decide) (by decide) (fun g => [(2, .int g), (1, .int v2), (0, .ref (ad_M 0))]) (fun _ => rfl) hF (fun v2_6 ls hF hl => ?_)
          refine lv_goto (tgt := 4) hx hb dX10_bestRule_32 (by decide) ?_
          exact ih4 v2 v2_6 o_3.2.1 o_3.2.2.1 o_3.2.2.2.1 o_3.2.2.2.2.1 o_3.2.2.2.2.2.1 o_3.2.2.2.2.2.2.1 o_3.2.2.2.2.2.2.2.1 o_3.2.2.2.2.2.2.2.2.1 o_3.2.2.2.2.2.2.2.2.2.1 o_3.2.2.2.2.2.2.2.2.2.2.1 o_3.2.2.2.2.2.2.2.2.2.2.2.1 o_3.2.2.2.2.2.2.2.2.2.2.2.2.1 o_3.2.2.2.2.2.2.2.2.2.2.2.2.2.1 o_3.2.2.2.2.2.2.2.2.2.2.2.2.2.2.1 o_3.2.2.2.2.2.2.2.2.2.2.2.2.2.2.2.1 o_3.2.2.2.2.2.2.2.2.2.2.2.2.2.2.2.2.1 o_3.2.2.2.2.2.2.2.2.2.2.2.2.2.2.2.2.2.1 o_3.2.2.2.2.2.2.2.2.2.2.2.2.2.2.2.2.2.2.1 o_3.2.2.2.2.2.2.2.2.2.2.2.2.2.2.2.2.2.2.2.1 o_3.2.2.2.2.2.2.2.2.2.2.2.2.2.2.2.2.2.2.2.2 _ _ hF hP hD hS ls (lv_sub hl [2, 1, 0] rfl)
  unfold fX10_bestRule at hF
  refine lv_iconst (v := 0) hx hb dX10_bestRule_0 (by decide) ?_
  refine lv_istore_n (lv' := [(1, .int 0), (0, .ref (ad_M 0))]) hx hb dX10_bestRule_1 rfl hl (by decide) rfl (fun ls hl => ?_)
  refine lv_iconst (v := 1) hx hb dX10_bestRule_2 (by decide) ?_
  refine lv_istore_n (lv' := [(2, .int 1), (1, .int 0), (0, .ref (ad_M 0))]) hx hb dX10_bestRule_3 rfl hl (by decide) rfl (fun ls hl => ?_)
  exact l4 fuel 0 1 M_letters M_rule M_coming M_comingMany M_going M_goingMany M_minute M_pile M_high M_where M_latest M_lifts M_begun M_left M_has M_lifted M_taken M_above M_allLifts M_busy _ _ hF hP hD hS ls (lv_sub hl [2, 1, 0] rfl)
abbrev roX10_whose : Room := { frames := 8, cells := 0, slots := 0, locals := 178 }
set_option maxHeartbeats 4000000 in
set_option maxRecDepth 100000 in
theorem kX10_whose (l : Launch) (D : va_G) (ca : Nat → ClassId) (t : Nat → Nat) (ad_M : Nat → Nat) (M_guests : Int32) (M_kind : Nat → Int32) (M_figure : Nat → Int32) (M_told : Nat → Int32) (M_heaps : Int32) (M_holds : Int32) (M_back : Int32) (M_mistakes : Int32) (M_hooks : Int32) (M_letters : Int32) (M_rule : Nat → Int32) (M_at : Int32) (M_well : Int32) (M_sort : Int32) (M_text : Int32) (M_row : Int32) (M_field : Nat → Int32) (M_fields : Int32) (M_begins : Nat → Int32) (M_ruleLetters : Nat → Int32) (M_coming : Nat → Int32) (M_comingMany : Int32) (M_going : Nat → Int32) (M_goingMany : Int32) (M_minute : Nat → Int32) (M_pile : Nat → Int32) (M_high : Nat → Int32) (M_where : Nat → Int32) (M_latest : Int32) (M_lifts : Nat → Int32) (M_begun : Nat → Int32) (M_left : Nat → Int32) (M_has : Nat → Int32) (M_lifted : Nat → Int32) (M_taken : Nat → Int32) (M_above : Nat → Int32) (M_allLifts : Int32) (M_busy : Int32) (M_longest : Nat → Int32) (M_onto : Nat → Int32) (M_worst : Int32) (M_best : Int32) (M_orders : Int32) (M_together : Int32) (M_ofOne : Nat → Int32) (M_ofOther : Nat → Int32) (M_seed : Int32) (M_then : Nat → Int32) (M_was : Nat → Int32) (M_kept : Int32) (M_held : Nat → Int32) (M_kindOn : Nat → Int32) (M_figureOn : Nat → Int32) (M_sorts : Nat → Int32) (M_size : Nat → Int32) (M_items : Nat → Int32) (M_moved : Nat → Int32) (M_thrown : Int32) (p1 : Int32) (fuel : Nat) (o : Int32 × (Nat → Int32) × Int32 × (Nat → Int32) × Int32 × (Nat → Int32) × (Nat → Int32) × (Nat → Int32) × (Nat → Int32) × Int32 × (Nat → Int32) × (Nat → Int32) × (Nat → Int32) × (Nat → Int32) × (Nat → Int32) × (Nat → Int32) × (Nat → Int32) × Int32 × Int32) (hF : fX10_whose fuel M_guests M_kind M_figure M_told M_heaps M_holds M_back M_mistakes M_hooks M_letters M_rule M_coming M_comingMany M_going M_goingMany M_minute M_pile M_high M_where M_latest M_lifts M_begun M_left M_has M_lifted M_taken M_above M_allLifts M_busy p1 = some o) : zMi l D (zT ca) t yX10_whose (.code yX10_whose cX10_whose 5 (some .int) :: zW) roX10_whose [.ref (ad_M 0), .int p1] (wX10_M ca ad_M M_guests M_kind M_figure M_told M_heaps M_holds M_back M_mistakes M_hooks M_letters M_rule M_at M_well M_sort M_text M_row M_field M_fields M_begins M_ruleLetters M_coming M_comingMany M_going M_goingMany M_minute M_pile M_high M_where M_latest M_lifts M_begun M_left M_has M_lifted M_taken M_above M_allLifts M_busy M_longest M_onto M_worst M_best M_orders M_together M_ofOne M_ofOther M_seed M_then M_was M_kept M_held M_kindOn M_figureOn M_sorts M_size M_items M_moved M_thrown) (wX10_M ca ad_M M_guests M_kind M_figure M_told M_heaps M_holds M_back M_mistakes M_hooks M_letters M_rule M_at M_well M_sort M_text M_row M_field M_fields M_begins M_ruleLetters o.2.1 o.2.2.1 o.2.2.2.1 o.2.2.2.2.1 o.2.2.2.2.2.1 o.2.2.2.2.2.2.1 o.2.2.2.2.2.2.2.1 o.2.2.2.2.2.2.2.2.1 o.2.2.2.2.2.2.2.2.2.1 o.2.2.2.2.2.2.2.2.2.2.1 o.2.2.2.2.2.2.2.2.2.2.2.1 o.2.2.2.2.2.2.2.2.2.2.2.2.1 o.2.2.2.2.2.2.2.2.2.2.2.2.2.1 o.2.2.2.2.2.2.2.2.2.2.2.2.2.2.1 o.2.2.2.2.2.2.2.2.2.2.2.2.2.2.2.1 o.2.2.2.2.2.2.2.2.2.2.2.2.2.2.2.2.1 o.2.2.2.2.2.2.2.2.2.2.2.2.2.2.2.2.2.1 o.2.2.2.2.2.2.2.2.2.2.2.2.2.2.2.2.2.2 M_longest M_onto M_worst M_best M_orders M_together M_ofOne M_ofOther M_seed M_then M_was M_kept M_held M_kindOn M_figureOn M_sorts M_size M_items M_moved M_thrown) o.1 := by
  refine zMi_of (cc := cX10_whose) (maxL := 5) (by decide) rfl (Nat.le_of_ble_eq_true rfl) ?_
  intro p e s m args below meth c A Q ls ⟨hx, hb, hml, hown, hts, hA, hK, hZ, hS⟩ hret hP hD hl
  have hts := fun w h => hts w (List.mem_cons_of_mem _ h)
  have hown : s.vm.findClass RX10 = some m.cls := hown
  have hl : lv_has ls 5 [(0, .ref (ad_M 0)), (1, .int p1)] := hl
  have hin10 := zin_X10
  have l27 : ∀ (n27 : Nat) (v2 : Int32) (v3 : Int32) (v4 : Int32) (M_coming : Nat → Int32) (M_comingMany : Int32) (M_going : Nat → Int32) (M_goingMany : Int32) (M_minute : Nat → Int32) (M_pile : Nat → Int32) (M_high : Nat → Int32) (M_where : Nat → Int32) (M_latest : Int32) (M_lifts : Nat → Int32) (M_begun : Nat → Int32) (M_left : Nat → Int32) (M_has : Nat → Int32) (M_lifted : Nat → Int32) (M_taken : Nat → Int32) (M_above : Nat → Int32) (M_allLifts : Int32) (M_busy : Int32) (H : Heap) (locs : List Loc), fX10_whose_L27 fuel M_guests M_kind M_figure M_told M_heaps M_holds M_back M_mistakes M_hooks M_letters M_rule p1 n27 v2 v3 v4 M_coming M_comingMany M_going M_goingMany M_minute M_pile M_high M_where M_latest M_lifts M_begun M_left M_has M_lifted M_taken M_above M_allLifts M_busy = some o → va_P D vwCl (wX10_M ca ad_M M_guests M_kind M_figure M_told M_heaps M_holds M_back M_mistakes M_hooks M_letters M_rule M_at M_well M_sort M_text M_row M_field M_fields M_begins M_ruleLetters M_coming M_comingMany M_going M_goingMany M_minute M_pile M_high M_where M_latest M_lifts M_begun M_left M_has M_lifted M_taken M_above M_allLifts M_busy M_longest M_onto M_worst M_best M_orders M_together M_ofOne M_ofOther M_seed M_then M_was M_kept M_held M_kindOn M_figureOn M_sorts M_size M_items M_moved M_thrown) H → va_D A (wX10_M ca ad_M M_guests M_kind M_figure M_told M_heaps M_holds M_back M_mistakes M_hooks M_letters M_rule M_at M_well M_sort M_text M_row M_field M_fields M_begins M_ruleLetters M_coming M_comingMany M_going M_goingMany M_minute M_pile M_high M_where M_latest M_lifts M_begun M_left M_has M_lifted M_taken M_above M_allLifts M_busy M_longest M_onto M_worst M_best M_orders M_together M_ofOne M_ofOther M_seed M_then M_was M_kept M_held M_kindOn M_figureOn M_sorts M_size M_items M_moved M_thrown) → va_S A s.heap H locs → ∀ ls : Array Slot, lv_has ls 5 [(0, .ref (ad_M 0)), (1, .int p1), (2, .int v2), (3, .int v3), (4, .int v4)] → W p l e roX10_whose s m args below meth c H locs 0 0 Q (F0 m 27 ls []) := by
    intro n27
    induction n27 with
    | zero =>
      intro v2 v3 v4 M_coming M_comingMany M_going M_goingMany M_minute M_pile M_high M_where M_latest M_lifts M_begun M_left M_has M_lifted M_taken M_above M_allLifts M_busy H locs hF
      rw [fX10_whose_L27] at hF
      cases hF
    | succ n27 ih27 =>
      have j82 : ∀ (v2 : Int32) (v3 : Int32) (v4 : Int32) (M_coming : Nat → Int32) (M_comingMany : Int32) (M_going : Nat → Int32) (M_goingMany : Int32) (M_minute : Nat → Int32) (M_pile : Nat → Int32) (M_high : Nat → Int32) (M_where : Nat → Int32) (M_latest : Int32) (M_lifts : Nat → Int32) (M_begun : Nat → Int32) (M_left : Nat → Int32) (M_has : Nat → Int32) (M_lifted : Nat → Int32) (M_taken : Nat → Int32) (M_above : Nat → Int32) (M_allLifts : Int32) (M_busy : Int32) (H : Heap) (locs : List Loc), fX10_whose_J82 (fX10_whose_L27 fuel M_guests M_kind M_figure M_told M_heaps M_holds M_back M_mistakes M_hooks M_letters M_rule p1 n27) v2 v3 v4 M_coming M_comingMany M_going M_goingMany M_minute M_pile M_high M_where M_latest M_lifts M_begun M_left M_has M_lifted M_taken M_above M_allLifts M_busy = some o → va_P D vwCl (wX10_M ca ad_M M_guests M_kind M_figure M_told M_heaps M_holds M_back M_mistakes M_hooks M_letters M_rule M_at M_well M_sort M_text M_row M_field M_fields M_begins M_ruleLetters M_coming M_comingMany M_going M_goingMany M_minute M_pile M_high M_where M_latest M_lifts M_begun M_left M_has M_lifted M_taken M_above M_allLifts M_busy M_longest M_onto M_worst M_best M_orders M_together M_ofOne M_ofOther M_seed M_then M_was M_kept M_held M_kindOn M_figureOn M_sorts M_size M_items M_moved M_thrown) H → va_D A (wX10_M ca ad_M M_guests M_kind M_figure M_told M_heaps M_holds M_back M_mistakes M_hooks M_letters M_rule M_at M_well M_sort M_text M_row M_field M_fields M_begins M_ruleLetters M_coming M_comingMany M_going M_goingMany M_minute M_pile M_high M_where M_latest M_lifts M_begun M_left M_has M_lifted M_taken M_above M_allLifts M_busy M_longest M_onto M_worst M_best M_orders M_together M_ofOne M_ofOther M_seed M_then M_was M_kept M_held M_kindOn M_figureOn M_sorts M_size M_items M_moved M_thrown) → va_S A s.heap H locs → ∀ ls : Array Slot, lv_has ls 5 [(0, .ref (ad_M 0)), (1, .int p1), (2, .int v2), (3, .int v3), (4, .int v4)] → W p l e roX10_whose s m args below meth c H locs 0 0 Q (F0 m 82 ls []) := by
        intro v2 v3 v4 M_coming M_comingMany M_going M_goingMany M_minute M_pile M_high M_where M_latest M_lifts M_begun M_left M_has M_lifted M_taken M_above M_allLifts M_busy H locs hF hP hD hS ls hl
        unfold fX10_whose_J82 at hF
        refine z_iinc (kv := 1) hx hb 4 dX10_whose_82 hl rfl (by decide) (by decide) (fun g => [(4, .int g), (0, .ref (ad_M 0)), (1, .int p1), (2, .int v2), (3, .int v3)]) (fun _ => rfl) hF (fun v4_16 ls hF hl => ?_)
        refine lv_goto (tgt := 27) hx hb dX10_whose_85 (by decide) ?_
        exact ih27 v2 v3 v4_16 M_coming M_comingMany M_going M_goingMany M_minute M_pile M_high M_where M_latest M_lifts M_begun M_left M_has M_lifted M_taken M_above M_allLifts M_busy _ _ hF hP hD hS ls (lv_sub hl [1, 2, 3, 4, 0] rfl)
      intro v2 v3 v4 M_coming M_comingMany M_going M_goingMany M_minute M_pile M_high M_where M_latest M_lifts M_begun M_left M_has M_lifted M_taken M_above M_allLifts M_busy H locs hF hP hD hS ls hl
      rw [fX10_whose_L27] at hF
      refine lv_iload hx hb dX10_whose_27 (lv_at hl 4 rfl) ?_
      refine lv_aload_n hx hb dX10_whose_29 rfl (lv_at hl 0 rfl) ?_
      refine va_get (D := D) (ci := 7) (v := .int M_guests) (C := RX10) (T := TX10) (N := 58) hx hb hts hin10 hown hK hP 0 rfl rfl 0 (by decide) (hts _ zm_16) (fun _ h9 => h9) rfl dX10_whose_30 ?_
      refine lv_icmp_ge (tgt := 88) hx hb dX10_whose_33 (by decide) (fun c_6 => ?_) (fun c_6 => ?_)
      · have hF := zt c_6 hF
        refine lv_iload_n hx hb dX10_whose_88 rfl (lv_at hl 3 rfl) ?_
        obtain rfl := Option.some.inj hF
        exact hret _ _ _ _ hP hD hS rfl dX10_whose_89
      · have hF := zf c_6 hF
        refine lv_iload hx hb dX10_whose_36 (lv_at hl 4 rfl) ?_
        refine lv_iload_n hx hb dX10_whose_38 rfl (lv_at hl 1 rfl) ?_
        refine lv_icmp_eq (tgt := 82) hx hb dX10_whose_39 (by decide) (fun c_7 => ?_) (fun c_7 => ?_)
        · have hF := zt c_7 hF
          exact j82 v2 v3 v4 M_coming M_comingMany M_going M_goingMany M_minute M_pile M_high M_where M_latest M_lifts M_begun M_left M_has M_lifted M_taken M_above M_allLifts M_busy _ _ hF hP hD hS ls (lv_sub hl [0, 1, 2, 3, 4] rfl)
        · have hF := zf c_7 hF
          refine lv_aload_n hx hb dX10_whose_42 rfl (lv_at hl 0 rfl) ?_
          obtain ⟨o_8, hc_8, hF⟩ := zb hF
          refine zcVv (rest := []) (ws' := (wX10_M ca ad_M M_guests M_kind M_figure M_told M_heaps M_holds M_back M_mistakes M_hooks M_letters M_rule M_at M_well M_sort M_text M_row M_field M_fields M_begins M_ruleLetters M_coming M_comingMany M_going M_goingMany o_8 M_pile M_high M_where M_latest M_lifts M_begun M_left M_has M_lifted M_taken M_above M_allLifts M_busy M_longest M_onto M_worst M_best M_orders M_together M_ofOne M_ofOther M_seed M_then M_was M_kept M_held M_kindOn M_figureOn M_sorts M_size M_items M_moved M_thrown)) (kX10_minutesAsTold l D ca t ad_M M_guests M_kind M_figure M_told M_heaps M_holds M_back M_mistakes M_hooks M_letters M_rule M_at M_well M_sort M_text M_row M_field M_fields M_begins M_ruleLetters M_coming M_comingMany M_going M_goingMany M_minute M_pile M_high M_where M_latest M_lifts M_begun M_left M_has M_lifted M_taken M_above M_allLifts M_busy M_longest M_onto M_worst M_best M_orders M_together M_ofOne M_ofOther M_seed M_then M_was M_kept M_held M_kindOn M_figureOn M_sorts M_size M_items M_moved M_thrown fuel _ hc_8) ⟨hx, hb, hml, hown, hts⟩ (zcwV hts zm_96 zm_97 zm_98 zm_19 zm_95 rfl rfl zdv_X10_minutesAsTold ⟨Nat.le_of_ble_eq_true rfl, Nat.le_of_ble_eq_true rfl⟩) hA hK hZ hP hD hS [0, 1, 2, 3, 4, 5, 6, 7, 8, 9, 10, 11, 12, 13, 14, 15, 16, 17, 18, 19, 20, 21, 22, 23, 24, 25, 26, 27, 28, 29, 30, 31, 32, 33] [] [0, 1, 2, 3, 4, 5, 6, 7, 8, 9, 10, 11, 12, 13, 14, 15, 16, 17, 18, 19, 20, 21, 22, 23, 24, 25, 26, 27, 28, 29, 30, 31, 32, 33] rfl rfl rfl rfl rfl rfl rfl 7 0 rfl rfl rfl hl.1 (Nat.le_of_ble_eq_true rfl) dX10_whose_43 rfl (fun H locs hP hD hS => ?_)
          refine lv_aload_n hx hb dX10_whose_46 rfl (lv_at hl 0 rfl) ?_
          refine lv_iload hx hb dX10_whose_47 (lv_at hl 4 rfl) ?_
          obtain ⟨o_9, hc_9, hF⟩ := zb hF
          refine zcVv (rest := []) (ws' := (wX10_M ca ad_M M_guests M_kind M_figure M_told M_heaps M_holds M_back M_mistakes M_hooks M_letters M_rule M_at M_well M_sort M_text M_row M_field M_fields M_begins M_ruleLetters o_9.1 o_9.2 M_going M_goingMany o_8 M_pile M_high M_where M_latest M_lifts M_begun M_left M_has M_lifted M_taken M_above M_allLifts M_busy M_longest M_onto M_worst M_best M_orders M_together M_ofOne M_ofOther M_seed M_then M_was M_kept M_held M_kindOn M_figureOn M_sorts M_size M_items M_moved M_thrown)) (kX10_allCome l D ca t ad_M M_guests M_kind M_figure M_told M_heaps M_holds M_back M_mistakes M_hooks M_letters M_rule M_at M_well M_sort M_text M_row M_field M_fields M_begins M_ruleLetters M_coming M_comingMany M_going M_goingMany o_8 M_pile M_high M_where M_latest M_lifts M_begun M_left M_has M_lifted M_taken M_above M_allLifts M_busy M_longest M_onto M_worst M_best M_orders M_together M_ofOne M_ofOther M_seed M_then M_was M_kept M_held M_kindOn M_figureOn M_sorts M_size M_items M_moved M_thrown v4 fuel _ hc_9) ⟨hx, hb, hml, hown, hts⟩ (zcwV hts zm_100 zm_101 zm_102 zm_19 zm_99 rfl rfl zdv_X10_allCome ⟨Nat.le_of_ble_eq_true rfl, Nat.le_of_ble_eq_true rfl⟩) hA hK hZ hP hD hS [0, 1, 2, 3, 4, 5, 6, 7, 8, 9, 10, 11, 12, 13, 14, 15, 16, 17, 18, 19, 20, 21, 22, 23, 24, 25, 26, 27, 28, 29, 30, 31, 32, 33] [] [0, 1, 2, 3, 4, 5, 6, 7, 8, 9, 10, 11, 12, 13, 14, 15, 16, 17, 18, 19, 20, 21, 22, 23, 24, 25, 26, 27, 28, 29, 30, 31, 32, 33] rfl rfl rfl rfl rfl rfl rfl 7 0 rfl rfl rfl hl.1 (Nat.le_of_ble_eq_true rfl) dX10_whose_49 rfl (fun H locs hP hD hS => ?_)
          refine lv_aload_n hx hb dX10_whose_52 rfl (lv_at hl 0 rfl) ?_
          obtain ⟨o_10, hc_10, hF⟩ := zb hF
          refine zcVv (rest := []) (ws' := (wX10_M ca ad_M M_guests M_kind M_figure M_told M_heaps M_holds M_back M_mistakes M_hooks M_letters M_rule M_at M_well M_sort M_text M_row M_field M_fields M_begins M_ruleLetters o_9.1 o_9.2 o_10.1 o_10.2 o_8 M_pile M_high M_where M_latest M_lifts M_begun M_left M_has M_lifted M_taken M_above M_allLifts M_busy M_longest M_onto M_worst M_best M_orders M_together M_ofOne M_ofOther M_seed M_then M_was M_kept M_held M_kindOn M_figureOn M_sorts M_size M_items M_moved M_thrown)) (kX10_allGo l D ca t ad_M M_guests M_kind M_figure M_told M_heaps M_holds M_back M_mistakes M_hooks M_letters M_rule M_at M_well M_sort M_text M_row M_field M_fields M_begins M_ruleLetters o_9.1 o_9.2 M_going M_goingMany o_8 M_pile M_high M_where M_latest M_lifts M_begun M_left M_has M_lifted M_taken M_above M_allLifts M_busy M_longest M_onto M_worst M_best M_orders M_together M_ofOne M_ofOther M_seed M_then M_was M_kept M_held M_kindOn M_figureOn M_sorts M_size M_items M_moved M_thrown fuel _ hc_10) ⟨hx, hb, hml, hown, hts⟩ (zcwV hts zm_104 zm_105 zm_106 zm_19 zm_103 rfl rfl zdv_X10_allGo ⟨Nat.le_of_ble_eq_true rfl, Nat.le_of_ble_eq_true rfl⟩) hA hK hZ hP hD hS [0, 1, 2, 3, 4, 5, 6, 7, 8, 9, 10, 11, 12, 13, 14, 15, 16, 17, 18, 19, 20, 21, 22, 23, 24, 25, 26, 27, 28, 29, 30, 31, 32, 33] [] [0, 1, 2, 3, 4, 5, 6, 7, 8, 9, 10, 11, 12, 13, 14, 15, 16, 17, 18, 19, 20, 21, 22, 23, 24, 25, 26, 27, 28, 29, 30, 31, 32, 33] rfl rfl rfl rfl rfl rfl rfl 7 0 rfl rfl rfl hl.1 (Nat.le_of_ble_eq_true rfl) dX10_whose_53 rfl (fun H locs hP hD hS => ?_)
          refine lv_aload_n hx hb dX10_whose_56 rfl (lv_at hl 0 rfl) ?_
          obtain ⟨o_11, hc_11, hF⟩ := zb hF
          refine zcVi (rest := []) (ws' := (wX10_M ca ad_M M_guests M_kind M_figure M_told M_heaps M_holds M_back M_mistakes M_hooks M_letters M_rule M_at M_well M_sort M_text M_row M_field M_fields M_begins M_ruleLetters o_9.1 o_9.2 o_10.1 o_10.2 o_8 o_11.2.1 o_11.2.2.1 o_11.2.2.2.1 o_11.2.2.2.2.1 o_11.2.2.2.2.2.1 o_11.2.2.2.2.2.2.1 o_11.2.2.2.2.2.2.2.1 o_11.2.2.2.2.2.2.2.2.1 o_11.2.2.2.2.2.2.2.2.2.1 o_11.2.2.2.2.2.2.2.2.2.2.1 o_11.2.2.2.2.2.2.2.2.2.2.2.1 o_11.2.2.2.2.2.2.2.2.2.2.2.2.1 o_11.2.2.2.2.2.2.2.2.2.2.2.2.2 M_longest M_onto M_worst M_best M_orders M_together M_ofOne M_ofOther M_seed M_then M_was M_kept M_held M_kindOn M_figureOn M_sorts M_size M_items M_moved M_thrown)) (kX10_layAndGo l D ca t ad_M M_guests M_kind M_figure M_told M_heaps M_holds M_back M_mistakes M_hooks M_letters M_rule M_at M_well M_sort M_text M_row M_field M_fields M_begins M_ruleLetters o_9.1 o_9.2 o_10.1 o_10.2 o_8 M_pile M_high M_where M_latest M_lifts M_begun M_left M_has M_lifted M_taken M_above M_allLifts M_busy M_longest M_onto M_worst M_best M_orders M_together M_ofOne M_ofOther M_seed M_then M_was M_kept M_held M_kindOn M_figureOn M_sorts M_size M_items M_moved M_thrown fuel _ hc_11) ⟨hx, hb, hml, hown, hts⟩ (zcwV hts zm_190 zm_191 zm_192 zm_19 zm_189 rfl rfl zdv_X10_layAndGo ⟨Nat.le_of_ble_eq_true rfl, Nat.le_of_ble_eq_true rfl⟩) hA hK hZ hP hD hS [0, 1, 2, 3, 4, 5, 6, 7, 8, 9, 10, 11, 12, 13, 14, 15, 16, 17, 18, 19, 20, 21, 22, 23, 24, 25, 26, 27, 28, 29, 30, 31, 32, 33] [] [0, 1, 2, 3, 4, 5, 6, 7, 8, 9, 10, 11, 12, 13, 14, 15, 16, 17, 18, 19, 20, 21, 22, 23, 24, 25, 26, 27, 28, 29, 30, 31, 32, 33] rfl rfl rfl rfl rfl rfl rfl 7 0 rfl rfl rfl hl.1 (Nat.le_of_ble_eq_true rfl) dX10_whose_57 rfl (fun H locs hP hD hS => ?_)
          refine lv_pop hx hb dX10_whose_60 rfl ?_
          refine lv_iload_n hx hb dX10_whose_61 rfl (lv_at hl 3 rfl) ?_
          refine lv_aload_n hx hb dX10_whose_62 rfl (lv_at hl 0 rfl) ?_
          refine va_get (D := D) (ci := 7) (v := .ref (ad_M 14)) (C := RX10) (T := TX10) (N := 58) hx hb hts hin10 hown hK hP 0 rfl rfl 29 (by decide) (hts _ zm_144) (fun _ h9 => h9) rfl dX10_whose_63 ?_
          refine lv_iload_n hx hb dX10_whose_66 rfl (lv_at hl 1 rfl) ?_
          obtain ⟨h_12, hF⟩ := zgi hF
          refine va_iald hx hb hK hP 14 0 rfl rfl h_12 dX10_whose_67 ?_
          refine lv_iload_n hx hb dX10_whose_68 rfl (lv_at hl 2 rfl) ?_
          refine lv_icmp_ge (tgt := 79) hx hb dX10_whose_69 (by decide) (fun c_13 => ?_) (fun c_13 => ?_)
          · have hF := zt c_13 hF
            refine lv_iconst (v := 0) hx hb dX10_whose_79 (by decide) ?_
            refine lv_ior hx hb dX10_whose_80 ?_
            refine z_let hF (fun v3_14 hF => ?_)
            refine lv_istore_n (lv' := [(3, .int v3_14), (0, .ref (ad_M 0)), (1, .int p1), (2, .int v2), (4, .int v4)]) hx hb dX10_whose_81 rfl hl (by decide) rfl (fun ls hl => ?_)
            exact j82 v2 v3_14 v4 o_9.1 o_9.2 o_10.1 o_10.2 o_8 o_11.2.1 o_11.2.2.1 o_11.2.2.2.1 o_11.2.2.2.2.1 o_11.2.2.2.2.2.1 o_11.2.2.2.2.2.2.1 o_11.2.2.2.2.2.2.2.1 o_11.2.2.2.2.2.2.2.2.1 o_11.2.2.2.2.2.2.2.2.2.1 o_11.2.2.2.2.2.2.2.2.2.2.1 o_11.2.2.2.2.2.2.2.2.2.2.2.1 o_11.2.2.2.2.2.2.2.2.2.2.2.2.1 o_11.2.2.2.2.2.2.2.2.2.2.2.2.2 _ _ hF hP hD hS ls (lv_sub hl [1, 2, 3, 0, 4] rfl)
          · have hF := zf c_13 hF
            refine lv_iconst (v := 1) hx hb dX10_whose_72 (by decide) ?_
            refine lv_iload hx hb dX10_whose_73 (lv_at hl 4 rfl) ?_
            refine lv_ishl hx hb dX10_whose_75 ?_
            refine lv_goto (tgt := 80) hx hb dX10_whose_76 (by decide) ?_
            refine lv_ior hx hb dX10_whose_80 ?_
            refine z_let hF (fun v3_15 hF => ?_)
            refine lv_istore_n (lv' := [(3, .int v3_15), (0, .ref (ad_M 0)), (1, .int p1), (2, .int v2), (4, .int v4)]) hx hb dX10_whose_81 rfl hl (by decide) rfl (fun ls hl => ?_)
            exact j82 v2 v3_15 v4 o_9.1 o_9.2 o_10.1 o_10.2 o_8 o_11.2.1 o_11.2.2.1 o_11.2.2.2.1 o_11.2.2.2.2.1 o_11.2.2.2.2.2.1 o_11.2.2.2.2.2.2.1 o_11.2.2.2.2.2.2.2.1 o_11.2.2.2.2.2.2.2.2.1 o_11.2.2.2.2.2.2.2.2.2.1 o_11.2.2.2.2.2.2.2.2.2.2.1 o_11.2.2.2.2.2.2.2.2.2.2.2.1 o_11.2.2.2.2.2.2.2.2.2.2.2.2.1 o_11.2.2.2.2.2.2.2.2.2.2.2.2.2 _ _ hF hP hD hS ls (lv_sub hl [1, 2, 3, 0, 4] rfl)
  unfold fX10_whose at hF
  refine lv_aload_n hx hb dX10_whose_0 rfl (lv_at hl 0 rfl) ?_
  refine lv_iload_n hx hb dX10_whose_1 rfl (lv_at hl 1 rfl) ?_
  obtain ⟨o_1, hc_1, hF⟩ := zb hF
  refine zcVR (rest := []) (kX10_isGuest l D ca t ad_M M_guests M_kind M_figure M_told M_heaps M_holds M_back M_mistakes M_hooks M_letters M_rule M_at M_well M_sort M_text M_row M_field M_fields M_begins M_ruleLetters M_coming M_comingMany M_going M_goingMany M_minute M_pile M_high M_where M_latest M_lifts M_begun M_left M_has M_lifted M_taken M_above M_allLifts M_busy M_longest M_onto M_worst M_best M_orders M_together M_ofOne M_ofOther M_seed M_then M_was M_kept M_held M_kindOn M_figureOn M_sorts M_size M_items M_moved M_thrown p1 fuel _ hc_1) ⟨hx, hb, hml, hown, hts⟩ (zcwV hts zm_63 zm_64 zm_65 zm_19 zm_62 rfl rfl zdv_X10_isGuest ⟨Nat.le_of_ble_eq_true rfl, Nat.le_of_ble_eq_true rfl⟩) hA hK hZ hP hD hS [0, 1, 2, 3, 4, 5, 6, 7, 8, 9, 10, 11, 12, 13, 14, 15, 16, 17, 18, 19, 20, 21, 22, 23, 24, 25, 26, 27, 28, 29, 30, 31, 32, 33] rfl rfl 7 0 rfl rfl rfl hl.1 (Nat.le_of_ble_eq_true rfl) dX10_whose_2 rfl ?_
  refine lv_if_ne (tgt := 10) hx hb dX10_whose_5 (by decide) (fun c_2 => ?_) (fun c_2 => ?_)
  · have hF := zf c_2 hF
    refine lv_aload_n hx hb dX10_whose_10 rfl (lv_at hl 0 rfl) ?_
    obtain ⟨o_3, hc_3, hF⟩ := zb hF
    refine zcVi (rest := []) (ws' := (wX10_M ca ad_M M_guests M_kind M_figure M_told M_heaps M_holds M_back M_mistakes M_hooks M_letters M_rule M_at M_well M_sort M_text M_row M_field M_fields M_begins M_ruleLetters o_3.2.1 o_3.2.2.1 o_3.2.2.2.1 o_3.2.2.2.2.1 o_3.2.2.2.2.2.1 o_3.2.2.2.2.2.2.1 o_3.2.2.2.2.2.2.2.1 o_3.2.2.2.2.2.2.2.2.1 o_3.2.2.2.2.2.2.2.2.2.1 o_3.2.2.2.2.2.2.2.2.2.2.1 o_3.2.2.2.2.2.2.2.2.2.2.2.1 o_3.2.2.2.2.2.2.2.2.2.2.2.2.1 o_3.2.2.2.2.2.2.2.2.2.2.2.2.2.1 o_3.2.2.2.2.2.2.2.2.2.2.2.2.2.2.1 o_3.2.2.2.2.2.2.2.2.2.2.2.2.2.2.2.1 o_3.2.2.2.2.2.2.2.2.2.2.2.2.2.2.2.2.1 o_3.2.2.2.2.2.2.2.2.2.2.2.2.2.2.2.2.2.1 o_3.2.2.2.2.2.2.2.2.2.2.2.2.2.2.2.2.2.2 M_longest M_onto M_worst M_best M_orders M_together M_ofOne M_ofOther M_seed M_then M_was M_kept M_held M_kindOn M_figureOn M_sorts M_size M_items M_moved M_thrown)) (kX10_night l D ca t ad_M M_guests M_kind M_figure M_told M_heaps M_holds M_back M_mistakes M_hooks M_letters M_rule M_at M_well M_sort M_text M_row M_field M_fields M_begins M_ruleLetters M_coming M_comingMany M_going M_goingMany M_minute M_pile M_high M_where M_latest M_lifts M_begun M_left M_has M_lifted M_taken M_above M_allLifts M_busy M_longest M_onto M_worst M_best M_orders M_together M_ofOne M_ofOther M_seed M_then M_was M_kept M_held M_kindOn M_figureOn M_sorts M_size M_items M_moved M_thrown fuel _ hc_3) ⟨hx, hb, hml, hown, hts⟩ (zcwV hts zm_194 zm_195 zm_196 zm_19 zm_193 rfl rfl zdv_X10_night ⟨Nat.le_of_ble_eq_true rfl, Nat.le_of_ble_eq_true rfl⟩) hA hK hZ hP hD hS [0, 1, 2, 3, 4, 5, 6, 7, 8, 9, 10, 11, 12, 13, 14, 15, 16, 17, 18, 19, 20, 21, 22, 23, 24, 25, 26, 27, 28, 29, 30, 31, 32, 33] [] [0, 1, 2, 3, 4, 5, 6, 7, 8, 9, 10, 11, 12, 13, 14, 15, 16, 17, 18, 19, 20, 21, 22, 23, 24, 25, 26, 27, 28, 29, 30, 31, 32, 33] rfl rfl rfl rfl rfl rfl rfl 7 0 rfl rfl rfl hl.1 (Nat.le_of_ble_eq_true rfl) dX10_whose_11 rfl (fun H locs hP hD hS => ?_)
    refine lv_pop hx hb dX10_whose_14 rfl ?_
    refine lv_aload_n hx hb dX10_whose_15 rfl (lv_at hl 0 rfl) ?_
    refine va_get (D := D) (ci := 7) (v := .ref (ad_M 14)) (C := RX10) (T := TX10) (N := 58) hx hb hts hin10 hown hK hP 0 rfl rfl 29 (by decide) (hts _ zm_144) (fun _ h9 => h9) rfl dX10_whose_16 ?_
    refine lv_iload_n hx hb dX10_whose_19 rfl (lv_at hl 1 rfl) ?_
    obtain ⟨h_4, hF⟩ := zgi hF
    refine va_iald hx hb hK hP 14 0 rfl rfl h_4 dX10_whose_20 ?_
    refine z_let hF (fun v2_5 hF => ?_)
    refine lv_istore_n (lv' := [(2, .int v2_5), (0, .ref (ad_M 0)), (1, .int p1)]) hx hb dX10_whose_21 rfl hl (by decide) rfl (fun ls hl => ?_)
    refine lv_iconst (v := 0) hx hb dX10_whose_22 (by decide) ?_
    refine lv_istore_n (lv' := [(3, .int 0), (2, .int v2_5), (0, .ref (ad_M 0)), (1, .int p1)]) hx hb dX10_whose_23 rfl hl (by decide) rfl (fun ls hl => ?_)
    refine lv_iconst (v := 0) hx hb dX10_whose_24 (by decide) ?_
    refine lv_istore (lv' := [(4, .int 0), (3, .int 0), (2, .int v2_5), (0, .ref (ad_M 0)), (1, .int p1)]) hx hb dX10_whose_25 hl (by decide) rfl (fun ls hl => ?_)
    exact l27 fuel v2_5 0 0 o_3.2.1 o_3.2.2.1 o_3.2.2.2.1 o_3.2.2.2.2.1 o_3.2.2.2.2.2.1 o_3.2.2.2.2.2.2.1 o_3.2.2.2.2.2.2.2.1 o_3.2.2.2.2.2.2.2.2.1 o_3.2.2.2.2.2.2.2.2.2.1 o_3.2.2.2.2.2.2.2.2.2.2.1 o_3.2.2.2.2.2.2.2.2.2.2.2.1 o_3.2.2.2.2.2.2.2.2.2.2.2.2.1 o_3.2.2.2.2.2.2.2.2.2.2.2.2.2.1 o_3.2.2.2.2.2.2.2.2.2.2.2.2.2.2.1 o_3.2.2.2.2.2.2.2.2.2.2.2.2.2.2.2.1 o_3.2.2.2.2.2.2.2.2.2.2.2.2.2.2.2.2.1 o_3.2.2.2.2.2.2.2.2.2.2.2.2.2.2.2.2.2.1 o_3.2.2.2.2.2.2.2.2.2.2.2.2.2.2.2.2.2.2 _ _ hF hP hD hS ls (lv_sub hl [3, 4, 2, 1, 0] rfl)
  · have hF := zt c_2 hF
    refine lv_iconst (v := (-1)) hx hb dX10_whose_8 (by decide) ?_
    obtain rfl := Option.some.inj hF
    exact hret _ _ _ _ hP hD hS rfl dX10_whose_9
abbrev roX10_two : Room := { frames := 7, cells := 0, slots := 0, locals := 158 }
set_option maxHeartbeats 4000000 in
set_option maxRecDepth 100000 in
theorem kX10_two (l : Launch) (D : va_G) (ca : Nat → ClassId) (t : Nat → Nat) (ad_M : Nat → Nat) (M_guests : Int32) (M_kind : Nat → Int32) (M_figure : Nat → Int32) (M_told : Nat → Int32) (M_heaps : Int32) (M_holds : Int32) (M_back : Int32) (M_mistakes : Int32) (M_hooks : Int32) (M_letters : Int32) (M_rule : Nat → Int32) (M_at : Int32) (M_well : Int32) (M_sort : Int32) (M_text : Int32) (M_row : Int32) (M_field : Nat → Int32) (M_fields : Int32) (M_begins : Nat → Int32) (M_ruleLetters : Nat → Int32) (M_coming : Nat → Int32) (M_comingMany : Int32) (M_going : Nat → Int32) (M_goingMany : Int32) (M_minute : Nat → Int32) (M_pile : Nat → Int32) (M_high : Nat → Int32) (M_where : Nat → Int32) (M_latest : Int32) (M_lifts : Nat → Int32) (M_begun : Nat → Int32) (M_left : Nat → Int32) (M_has : Nat → Int32) (M_lifted : Nat → Int32) (M_taken : Nat → Int32) (M_above : Nat → Int32) (M_allLifts : Int32) (M_busy : Int32) (M_longest : Nat → Int32) (M_onto : Nat → Int32) (M_worst : Int32) (M_best : Int32) (M_orders : Int32) (M_together : Int32) (M_ofOne : Nat → Int32) (M_ofOther : Nat → Int32) (M_seed : Int32) (M_then : Nat → Int32) (M_was : Nat → Int32) (M_kept : Int32) (M_held : Nat → Int32) (M_kindOn : Nat → Int32) (M_figureOn : Nat → Int32) (M_sorts : Nat → Int32) (M_size : Nat → Int32) (M_items : Nat → Int32) (M_moved : Nat → Int32) (M_thrown : Int32) (p1 : Int32) (p2 : Int32) (fuel : Nat) (o : Int32 × (Nat → Int32) × Int32 × (Nat → Int32) × Int32 × (Nat → Int32) × (Nat → Int32) × (Nat → Int32) × (Nat → Int32) × Int32 × (Nat → Int32) × (Nat → Int32) × (Nat → Int32) × (Nat → Int32) × (Nat → Int32) × (Nat → Int32) × (Nat → Int32) × Int32 × Int32 × (Nat → Int32) × (Nat → Int32)) (hF : fX10_two fuel M_guests M_kind M_figure M_told M_heaps M_holds M_back M_mistakes M_hooks M_letters M_rule M_coming M_comingMany M_going M_goingMany M_minute M_pile M_high M_where M_latest M_lifts M_begun M_left M_has M_lifted M_taken M_above M_allLifts M_busy M_ofOne M_ofOther p1 p2 = some o) : zMi l D (zT ca) t yX10_two (.code yX10_two cX10_two 6 (some .int) :: zW) roX10_two [.ref (ad_M 0), .int p1, .int p2] (wX10_M ca ad_M M_guests M_kind M_figure M_told M_heaps M_holds M_back M_mistakes M_hooks M_letters M_rule M_at M_well M_sort M_text M_row M_field M_fields M_begins M_ruleLetters M_coming M_comingMany M_going M_goingMany M_minute M_pile M_high M_where M_latest M_lifts M_begun M_left M_has M_lifted M_taken M_above M_allLifts M_busy M_longest M_onto M_worst M_best M_orders M_together M_ofOne M_ofOther M_seed M_then M_was M_kept M_held M_kindOn M_figureOn M_sorts M_size M_items M_moved M_thrown) (wX10_M ca ad_M M_guests M_kind M_figure M_told M_heaps M_holds M_back M_mistakes M_hooks M_letters M_rule M_at M_well M_sort M_text M_row M_field M_fields M_begins M_ruleLetters o.2.1 o.2.2.1 o.2.2.2.1 o.2.2.2.2.1 o.2.2.2.2.2.1 o.2.2.2.2.2.2.1 o.2.2.2.2.2.2.2.1 o.2.2.2.2.2.2.2.2.1 o.2.2.2.2.2.2.2.2.2.1 o.2.2.2.2.2.2.2.2.2.2.1 o.2.2.2.2.2.2.2.2.2.2.2.1 o.2.2.2.2.2.2.2.2.2.2.2.2.1 o.2.2.2.2.2.2.2.2.2.2.2.2.2.1 o.2.2.2.2.2.2.2.2.2.2.2.2.2.2.1 o.2.2.2.2.2.2.2.2.2.2.2.2.2.2.2.1 o.2.2.2.2.2.2.2.2.2.2.2.2.2.2.2.2.1 o.2.2.2.2.2.2.2.2.2.2.2.2.2.2.2.2.2.1 o.2.2.2.2.2.2.2.2.2.2.2.2.2.2.2.2.2.2.1 M_longest M_onto M_worst M_best M_orders M_together o.2.2.2.2.2.2.2.2.2.2.2.2.2.2.2.2.2.2.2.1 o.2.2.2.2.2.2.2.2.2.2.2.2.2.2.2.2.2.2.2.2 M_seed M_then M_was M_kept M_held M_kindOn M_figureOn M_sorts M_size M_items M_moved M_thrown) o.1 := by
  refine zMi_of (cc := cX10_two) (maxL := 6) (by decide) rfl (Nat.le_of_ble_eq_true rfl) ?_
  intro p e s m args below meth c A Q ls ⟨hx, hb, hml, hown, hts, hA, hK, hZ, hS⟩ hret hP hD hl
  have hts := fun w h => hts w (List.mem_cons_of_mem _ h)
  have hown : s.vm.findClass RX10 = some m.cls := hown
  have hl : lv_has ls 6 [(0, .ref (ad_M 0)), (1, .int p1), (2, .int p2)] := hl
  have hin10 := zin_X10
  have j232 : ∀ (v3 : Int32) (M_coming : Nat → Int32) (M_comingMany : Int32) (M_going : Nat → Int32) (M_goingMany : Int32) (M_minute : Nat → Int32) (M_pile : Nat → Int32) (M_high : Nat → Int32) (M_where : Nat → Int32) (M_latest : Int32) (M_lifts : Nat → Int32) (M_begun : Nat → Int32) (M_left : Nat → Int32) (M_has : Nat → Int32) (M_lifted : Nat → Int32) (M_taken : Nat → Int32) (M_above : Nat → Int32) (M_allLifts : Int32) (M_busy : Int32) (M_ofOne : Nat → Int32) (M_ofOther : Nat → Int32) (H : Heap) (locs : List Loc), fX10_two_J232 v3 M_coming M_comingMany M_going M_goingMany M_minute M_pile M_high M_where M_latest M_lifts M_begun M_left M_has M_lifted M_taken M_above M_allLifts M_busy M_ofOne M_ofOther = some o → va_P D vwCl (wX10_M ca ad_M M_guests M_kind M_figure M_told M_heaps M_holds M_back M_mistakes M_hooks M_letters M_rule M_at M_well M_sort M_text M_row M_field M_fields M_begins M_ruleLetters M_coming M_comingMany M_going M_goingMany M_minute M_pile M_high M_where M_latest M_lifts M_begun M_left M_has M_lifted M_taken M_above M_allLifts M_busy M_longest M_onto M_worst M_best M_orders M_together M_ofOne M_ofOther M_seed M_then M_was M_kept M_held M_kindOn M_figureOn M_sorts M_size M_items M_moved M_thrown) H → va_D A (wX10_M ca ad_M M_guests M_kind M_figure M_told M_heaps M_holds M_back M_mistakes M_hooks M_letters M_rule M_at M_well M_sort M_text M_row M_field M_fields M_begins M_ruleLetters M_coming M_comingMany M_going M_goingMany M_minute M_pile M_high M_where M_latest M_lifts M_begun M_left M_has M_lifted M_taken M_above M_allLifts M_busy M_longest M_onto M_worst M_best M_orders M_together M_ofOne M_ofOther M_seed M_then M_was M_kept M_held M_kindOn M_figureOn M_sorts M_size M_items M_moved M_thrown) → va_S A s.heap H locs → ∀ ls : Array Slot, lv_has ls 6 [(3, .int v3)] → W p l e roX10_two s m args below meth c H locs 0 0 Q (F0 m 232 ls []) := by
    intro v3 M_coming M_comingMany M_going M_goingMany M_minute M_pile M_high M_where M_latest M_lifts M_begun M_left M_has M_lifted M_taken M_above M_allLifts M_busy M_ofOne M_ofOther H locs hF hP hD hS ls hl
    unfold fX10_two_J232 at hF
    refine lv_bipush (v := 10) hx hb dX10_two_232 (by decide) ?_
    refine lv_iload_n hx hb dX10_two_234 rfl (lv_at hl 0 rfl) ?_
    refine lv_iconst (v := 3) hx hb dX10_two_235 (by decide) ?_
    refine lv_idiv hx hb dX10_two_236 (by decide) ?_
    refine lv_imul hx hb dX10_two_237 ?_
    refine lv_iload_n hx hb dX10_two_238 rfl (lv_at hl 0 rfl) ?_
    refine lv_iconst (v := 3) hx hb dX10_two_239 (by decide) ?_
    refine lv_irem hx hb dX10_two_240 (by decide) ?_
    refine lv_iadd hx hb dX10_two_241 ?_
    obtain rfl := Option.some.inj hF
    exact hret _ _ _ _ hP hD hS rfl dX10_two_242
  have l147 : ∀ (n147 : Nat) (v3 : Int32) (M_coming : Nat → Int32) (M_comingMany : Int32) (M_going : Nat → Int32) (M_goingMany : Int32) (M_minute : Nat → Int32) (M_pile : Nat → Int32) (M_high : Nat → Int32) (M_where : Nat → Int32) (M_latest : Int32) (M_lifts : Nat → Int32) (M_begun : Nat → Int32) (M_left : Nat → Int32) (M_has : Nat → Int32) (M_lifted : Nat → Int32) (M_taken : Nat → Int32) (M_above : Nat → Int32) (M_allLifts : Int32) (M_busy : Int32) (M_ofOne : Nat → Int32) (M_ofOther : Nat → Int32) (H : Heap) (locs : List Loc), fX10_two_L147 fuel n147 v3 M_coming M_comingMany M_going M_goingMany M_minute M_pile M_high M_where M_latest M_lifts M_begun M_left M_has M_lifted M_taken M_above M_allLifts M_busy M_ofOne M_ofOther = some o → va_P D vwCl (wX10_M ca ad_M M_guests M_kind M_figure M_told M_heaps M_holds M_back M_mistakes M_hooks M_letters M_rule M_at M_well M_sort M_text M_row M_field M_fields M_begins M_ruleLetters M_coming M_comingMany M_going M_goingMany M_minute M_pile M_high M_where M_latest M_lifts M_begun M_left M_has M_lifted M_taken M_above M_allLifts M_busy M_longest M_onto M_worst M_best M_orders M_together M_ofOne M_ofOther M_seed M_then M_was M_kept M_held M_kindOn M_figureOn M_sorts M_size M_items M_moved M_thrown) H → va_D A (wX10_M ca ad_M M_guests M_kind M_figure M_told M_heaps M_holds M_back M_mistakes M_hooks M_letters M_rule M_at M_well M_sort M_text M_row M_field M_fields M_begins M_ruleLetters M_coming M_comingMany M_going M_goingMany M_minute M_pile M_high M_where M_latest M_lifts M_begun M_left M_has M_lifted M_taken M_above M_allLifts M_busy M_longest M_onto M_worst M_best M_orders M_together M_ofOne M_ofOther M_seed M_then M_was M_kept M_held M_kindOn M_figureOn M_sorts M_size M_items M_moved M_thrown) → va_S A s.heap H locs → ∀ ls : Array Slot, lv_has ls 6 [(0, .ref (ad_M 0)), (3, .int v3)] → W p l e roX10_two s m args below meth c H locs 0 0 Q (F0 m 147 ls []) := by
    intro n147
    induction n147 with
    | zero =>
      intro v3 M_coming M_comingMany M_going M_goingMany M_minute M_pile M_high M_where M_latest M_lifts M_begun M_left M_has M_lifted M_taken M_above M_allLifts M_busy M_ofOne M_ofOther H locs hF
      rw [fX10_two_L147] at hF
      cases hF
    | succ n147 ih147 =>
      have j227 : ∀ (v3 : Int32) (v4 : Int32) (M_coming : Nat → Int32) (M_comingMany : Int32) (M_going : Nat → Int32) (M_goingMany : Int32) (M_minute : Nat → Int32) (M_pile : Nat → Int32) (M_high : Nat → Int32) (M_where : Nat → Int32) (M_latest : Int32) (M_lifts : Nat → Int32) (M_begun : Nat → Int32) (M_left : Nat → Int32) (M_has : Nat → Int32) (M_lifted : Nat → Int32) (M_taken : Nat → Int32) (M_above : Nat → Int32) (M_allLifts : Int32) (M_busy : Int32) (M_ofOne : Nat → Int32) (M_ofOther : Nat → Int32) (H : Heap) (locs : List Loc), fX10_two_J227 (fX10_two_L147 fuel n147) v3 v4 M_coming M_comingMany M_going M_goingMany M_minute M_pile M_high M_where M_latest M_lifts M_begun M_left M_has M_lifted M_taken M_above M_allLifts M_busy M_ofOne M_ofOther = some o → va_P D vwCl (wX10_M ca ad_M M_guests M_kind M_figure M_told M_heaps M_holds M_back M_mistakes M_hooks M_letters M_rule M_at M_well M_sort M_text M_row M_field M_fields M_begins M_ruleLetters M_coming M_comingMany M_going M_goingMany M_minute M_pile M_high M_where M_latest M_lifts M_begun M_left M_has M_lifted M_taken M_above M_allLifts M_busy M_longest M_onto M_worst M_best M_orders M_together M_ofOne M_ofOther M_seed M_then M_was M_kept M_held M_kindOn M_figureOn M_sorts M_size M_items M_moved M_thrown) H → va_D A (wX10_M ca ad_M M_guests M_kind M_figure M_told M_heaps M_holds M_back M_mistakes M_hooks M_letters M_rule M_at M_well M_sort M_text M_row M_field M_fields M_begins M_ruleLetters M_coming M_comingMany M_going M_goingMany M_minute M_pile M_high M_where M_latest M_lifts M_begun M_left M_has M_lifted M_taken M_above M_allLifts M_busy M_longest M_onto M_worst M_best M_orders M_together M_ofOne M_ofOther M_seed M_then M_was M_kept M_held M_kindOn M_figureOn M_sorts M_size M_items M_moved M_thrown) → va_S A s.heap H locs → ∀ ls : Array Slot, lv_has ls 6 [(0, .ref (ad_M 0)), (3, .int v3), (4, .int v4)] → W p l e roX10_two s m args below meth c H locs 0 0 Q (F0 m 227 ls []) := by
        intro v3 v4 M_coming M_comingMany M_going M_goingMany M_minute M_pile M_high M_where M_latest M_lifts M_begun M_left M_has M_lifted M_taken M_above M_allLifts M_busy M_ofOne M_ofOther H locs hF hP hD hS ls hl
        unfold fX10_two_J227 at hF
        refine lv_iload hx hb dX10_two_227 (lv_at hl 2 rfl) ?_
        refine lv_if_eq (tgt := 243) hx hb dX10_two_229 (by decide) (fun c_31 => ?_) (fun c_31 => ?_)
        · have hF := zt c_31 hF
          refine z_iinc (kv := 1) hx hb 1 dX10_two_243 hl rfl (by decide) (by decide) (fun g => [(3, .int g), (0, .ref (ad_M 0)), (4, .int v4)]) (fun _ => rfl) hF (fun v3_32 ls hF hl => ?_)
          refine lv_goto (tgt := 147) hx hb dX10_two_246 (by decide) ?_
          exact ih147 v3_32 M_coming M_comingMany M_going M_goingMany M_minute M_pile M_high M_where M_latest M_lifts M_begun M_left M_has M_lifted M_taken M_above M_allLifts M_busy M_ofOne M_ofOther _ _ hF hP hD hS ls (lv_sub hl [1, 0] rfl)
        · have hF := zf c_31 hF
          exact j232 v3 M_coming M_comingMany M_going M_goingMany M_minute M_pile M_high M_where M_latest M_lifts M_begun M_left M_has M_lifted M_taken M_above M_allLifts M_busy M_ofOne M_ofOther _ _ hF hP hD hS ls (lv_sub hl [1] rfl)
      have l159 : ∀ (n159 : Nat) (v3 : Int32) (v4 : Int32) (v5 : Int32) (M_coming : Nat → Int32) (M_comingMany : Int32) (M_going : Nat → Int32) (M_goingMany : Int32) (M_minute : Nat → Int32) (M_pile : Nat → Int32) (M_high : Nat → Int32) (M_where : Nat → Int32) (M_latest : Int32) (M_lifts : Nat → Int32) (M_begun : Nat → Int32) (M_left : Nat → Int32) (M_has : Nat → Int32) (M_lifted : Nat → Int32) (M_taken : Nat → Int32) (M_above : Nat → Int32) (M_allLifts : Int32) (M_busy : Int32) (M_ofOne : Nat → Int32) (M_ofOther : Nat → Int32) (H : Heap) (locs : List Loc), fX10_two_L159 (fX10_two_L147 fuel n147) n159 v3 v4 v5 M_coming M_comingMany M_going M_goingMany M_minute M_pile M_high M_where M_latest M_lifts M_begun M_left M_has M_lifted M_taken M_above M_allLifts M_busy M_ofOne M_ofOther = some o → va_P D vwCl (wX10_M ca ad_M M_guests M_kind M_figure M_told M_heaps M_holds M_back M_mistakes M_hooks M_letters M_rule M_at M_well M_sort M_text M_row M_field M_fields M_begins M_ruleLetters M_coming M_comingMany M_going M_goingMany M_minute M_pile M_high M_where M_latest M_lifts M_begun M_left M_has M_lifted M_taken M_above M_allLifts M_busy M_longest M_onto M_worst M_best M_orders M_together M_ofOne M_ofOther M_seed M_then M_was M_kept M_held M_kindOn M_figureOn M_sorts M_size M_items M_moved M_thrown) H → va_D A (wX10_M ca ad_M M_guests M_kind M_figure M_told M_heaps M_holds M_back M_mistakes M_hooks M_letters M_rule M_at M_well M_sort M_text M_row M_field M_fields M_begins M_ruleLetters M_coming M_comingMany M_going M_goingMany M_minute M_pile M_high M_where M_latest M_lifts M_begun M_left M_has M_lifted M_taken M_above M_allLifts M_busy M_longest M_onto M_worst M_best M_orders M_together M_ofOne M_ofOther M_seed M_then M_was M_kept M_held M_kindOn M_figureOn M_sorts M_size M_items M_moved M_thrown) → va_S A s.heap H locs → ∀ ls : Array Slot, lv_has ls 6 [(0, .ref (ad_M 0)), (3, .int v3), (4, .int v4), (5, .int v5)] → W p l e roX10_two s m args below meth c H locs 0 0 Q (F0 m 159 ls []) := by
        intro n159
        induction n159 with
        | zero =>
          intro v3 v4 v5 M_coming M_comingMany M_going M_goingMany M_minute M_pile M_high M_where M_latest M_lifts M_begun M_left M_has M_lifted M_taken M_above M_allLifts M_busy M_ofOne M_ofOther H locs hF
          rw [fX10_two_L159] at hF
          cases hF
        | succ n159 ih159 =>
          have j218 : ∀ (v3 : Int32) (v5 : Int32) (M_coming : Nat → Int32) (M_comingMany : Int32) (M_going : Nat → Int32) (M_goingMany : Int32) (M_minute : Nat → Int32) (M_pile : Nat → Int32) (M_high : Nat → Int32) (M_where : Nat → Int32) (M_latest : Int32) (M_lifts : Nat → Int32) (M_begun : Nat → Int32) (M_left : Nat → Int32) (M_has : Nat → Int32) (M_lifted : Nat → Int32) (M_taken : Nat → Int32) (M_above : Nat → Int32) (M_allLifts : Int32) (M_busy : Int32) (M_ofOne : Nat → Int32) (M_ofOther : Nat → Int32) (H : Heap) (locs : List Loc), fX10_two_J218 (fX10_two_L147 fuel n147) (fX10_two_L159 (fX10_two_L147 fuel n147) n159) v3 v5 M_coming M_comingMany M_going M_goingMany M_minute M_pile M_high M_where M_latest M_lifts M_begun M_left M_has M_lifted M_taken M_above M_allLifts M_busy M_ofOne M_ofOther = some o → va_P D vwCl (wX10_M ca ad_M M_guests M_kind M_figure M_told M_heaps M_holds M_back M_mistakes M_hooks M_letters M_rule M_at M_well M_sort M_text M_row M_field M_fields M_begins M_ruleLetters M_coming M_comingMany M_going M_goingMany M_minute M_pile M_high M_where M_latest M_lifts M_begun M_left M_has M_lifted M_taken M_above M_allLifts M_busy M_longest M_onto M_worst M_best M_orders M_together M_ofOne M_ofOther M_seed M_then M_was M_kept M_held M_kindOn M_figureOn M_sorts M_size M_items M_moved M_thrown) H → va_D A (wX10_M ca ad_M M_guests M_kind M_figure M_told M_heaps M_holds M_back M_mistakes M_hooks M_letters M_rule M_at M_well M_sort M_text M_row M_field M_fields M_begins M_ruleLetters M_coming M_comingMany M_going M_goingMany M_minute M_pile M_high M_where M_latest M_lifts M_begun M_left M_has M_lifted M_taken M_above M_allLifts M_busy M_longest M_onto M_worst M_best M_orders M_together M_ofOne M_ofOther M_seed M_then M_was M_kept M_held M_kindOn M_figureOn M_sorts M_size M_items M_moved M_thrown) → va_S A s.heap H locs → ∀ ls : Array Slot, lv_has ls 6 [(0, .ref (ad_M 0)), (3, .int v3), (5, .int v5)] → W p l e roX10_two s m args below meth c H locs 0 0 Q (F0 m 218 ls []) := by
            intro v3 v5 M_coming M_comingMany M_going M_goingMany M_minute M_pile M_high M_where M_latest M_lifts M_begun M_left M_has M_lifted M_taken M_above M_allLifts M_busy M_ofOne M_ofOther H locs hF hP hD hS ls hl
            unfold fX10_two_J218 at hF
            refine lv_iconst (v := 0) hx hb dX10_two_218 (by decide) ?_
            refine lv_istore (lv' := [(4, .int 0), (0, .ref (ad_M 0)), (3, .int v3), (5, .int v5)]) hx hb dX10_two_219 hl (by decide) rfl (fun ls hl => ?_)
            refine z_iinc (kv := 1) hx hb 3 dX10_two_221 hl rfl (by decide) (by decide) (fun g => [(5, .int g), (4, .int 0), (0, .ref (ad_M 0)), (3, .int v3)]) (fun _ => rfl) hF (fun v5_33 ls hF hl => ?_)
            refine lv_goto (tgt := 159) hx hb dX10_two_224 (by decide) ?_
            exact ih159 v3 0 v5_33 M_coming M_comingMany M_going M_goingMany M_minute M_pile M_high M_where M_latest M_lifts M_begun M_left M_has M_lifted M_taken M_above M_allLifts M_busy M_ofOne M_ofOther _ _ hF hP hD hS ls (lv_sub hl [2, 3, 1, 0] rfl)
          intro v3 v4 v5 M_coming M_comingMany M_going M_goingMany M_minute M_pile M_high M_where M_latest M_lifts M_begun M_left M_has M_lifted M_taken M_above M_allLifts M_busy M_ofOne M_ofOther H locs hF hP hD hS ls hl
          rw [fX10_two_L159] at hF
          refine lv_iload hx hb dX10_two_159 (lv_at hl 3 rfl) ?_
          refine lv_iconst (v := 3) hx hb dX10_two_161 (by decide) ?_
          refine lv_icmp_ge (tgt := 227) hx hb dX10_two_162 (by decide) (fun c_23 => ?_) (fun c_23 => ?_)
          · have hF := zt c_23 hF
            exact j227 v3 v4 M_coming M_comingMany M_going M_goingMany M_minute M_pile M_high M_where M_latest M_lifts M_begun M_left M_has M_lifted M_taken M_above M_allLifts M_busy M_ofOne M_ofOther _ _ hF hP hD hS ls (lv_sub hl [0, 1, 2] rfl)
          · have hF := zf c_23 hF
            refine lv_iload hx hb dX10_two_165 (lv_at hl 2 rfl) ?_
            refine lv_if_eq (tgt := 218) hx hb dX10_two_167 (by decide) (fun c_24 => ?_) (fun c_24 => ?_)
            · have hF := zt c_24 hF
              exact j218 v3 v5 M_coming M_comingMany M_going M_goingMany M_minute M_pile M_high M_where M_latest M_lifts M_begun M_left M_has M_lifted M_taken M_above M_allLifts M_busy M_ofOne M_ofOther _ _ hF hP hD hS ls (lv_sub hl [0, 1, 3] rfl)
            · have hF := zf c_24 hF
              refine lv_aload_n hx hb dX10_two_170 rfl (lv_at hl 0 rfl) ?_
              refine va_get (D := D) (ci := 7) (v := .ref (ad_M 23)) (C := RX10) (T := TX10) (N := 58) hx hb hts hin10 hown hK hP 0 rfl rfl 44 (by decide) (hts _ zm_268) (fun _ h9 => h9) rfl dX10_two_171 ?_
              refine lv_iconst (v := 3) hx hb dX10_two_174 (by decide) ?_
              refine lv_iload hx hb dX10_two_175 (lv_at hl 3 rfl) ?_
              refine lv_imul hx hb dX10_two_177 ?_
              refine lv_iload_n hx hb dX10_two_178 rfl (lv_at hl 1 rfl) ?_
              refine lv_iconst (v := 3) hx hb dX10_two_179 (by decide) ?_
              refine lv_irem hx hb dX10_two_180 (by decide) ?_
              refine lv_iadd hx hb dX10_two_181 ?_
              obtain ⟨h_25, hF⟩ := zgi hF
              refine va_iald hx hb hK hP 23 0 rfl rfl h_25 dX10_two_182 ?_
              refine lv_aload_n hx hb dX10_two_183 rfl (lv_at hl 0 rfl) ?_
              refine va_get (D := D) (ci := 7) (v := .ref (ad_M 23)) (C := RX10) (T := TX10) (N := 58) hx hb hts hin10 hown hK hP 0 rfl rfl 44 (by decide) (hts _ zm_268) (fun _ h9 => h9) rfl dX10_two_184 ?_
              refine lv_iload_n hx hb dX10_two_187 rfl (lv_at hl 1 rfl) ?_
              obtain ⟨h_26, hF⟩ := zgi hF
              refine va_iald hx hb hK hP 23 0 rfl rfl h_26 dX10_two_188 ?_
              refine lv_icmp_lt (tgt := 218) hx hb dX10_two_189 (by decide) (fun c_27 => ?_) (fun c_27 => ?_)
              · have hF := zt c_27 hF
                exact j218 v3 v5 M_coming M_comingMany M_going M_goingMany M_minute M_pile M_high M_where M_latest M_lifts M_begun M_left M_has M_lifted M_taken M_above M_allLifts M_busy M_ofOne M_ofOther _ _ hF hP hD hS ls (lv_sub hl [0, 1, 3] rfl)
              · have hF := zf c_27 hF
                refine lv_aload_n hx hb dX10_two_192 rfl (lv_at hl 0 rfl) ?_
                refine va_get (D := D) (ci := 7) (v := .ref (ad_M 24)) (C := RX10) (T := TX10) (N := 58) hx hb hts hin10 hown hK hP 0 rfl rfl 45 (by decide) (hts _ zm_269) (fun _ h9 => h9) rfl dX10_two_193 ?_
                refine lv_iload_n hx hb dX10_two_196 rfl (lv_at hl 1 rfl) ?_
                refine lv_iconst (v := 3) hx hb dX10_two_197 (by decide) ?_
                refine lv_idiv hx hb dX10_two_198 (by decide) ?_
                refine lv_iconst (v := 3) hx hb dX10_two_199 (by decide) ?_
                refine lv_imul hx hb dX10_two_200 ?_
                refine lv_iload hx hb dX10_two_201 (lv_at hl 3 rfl) ?_
                refine lv_iadd hx hb dX10_two_203 ?_
                obtain ⟨h_28, hF⟩ := zgi hF
                refine va_iald hx hb hK hP 24 0 rfl rfl h_28 dX10_two_204 ?_
                refine lv_aload_n hx hb dX10_two_205 rfl (lv_at hl 0 rfl) ?_
                refine va_get (D := D) (ci := 7) (v := .ref (ad_M 24)) (C := RX10) (T := TX10) (N := 58) hx hb hts hin10 hown hK hP 0 rfl rfl 45 (by decide) (hts _ zm_269) (fun _ h9 => h9) rfl dX10_two_206 ?_
                refine lv_iload_n hx hb dX10_two_209 rfl (lv_at hl 1 rfl) ?_
                refine va_iald hx hb hK hP 24 0 rfl rfl h_26 dX10_two_210 ?_
                refine lv_icmp_lt (tgt := 218) hx hb dX10_two_211 (by decide) (fun c_29 => ?_) (fun c_29 => ?_)
                · have hF := zt c_29 hF
                  exact j218 v3 v5 M_coming M_comingMany M_going M_goingMany M_minute M_pile M_high M_where M_latest M_lifts M_begun M_left M_has M_lifted M_taken M_above M_allLifts M_busy M_ofOne M_ofOther _ _ hF hP hD hS ls (lv_sub hl [0, 1, 3] rfl)
                · have hF := zf c_29 hF
                  refine lv_iconst (v := 1) hx hb dX10_two_214 (by decide) ?_
                  refine lv_goto (tgt := 219) hx hb dX10_two_215 (by decide) ?_
                  refine lv_istore (lv' := [(4, .int 1), (0, .ref (ad_M 0)), (3, .int v3), (5, .int v5)]) hx hb dX10_two_219 hl (by decide) rfl (fun ls hl => ?_)
                  refine z_iinc (kv := 1) hx hb 3 dX10_two_221 hl rfl (by decide) (by decide) (fun g => [(5, .int g), (4, .int 1), (0, .ref (ad_M 0)), (3, .int v3)]) (fun _ => rfl) hF (fun v5_30 ls hF hl => ?_)
                  refine lv_goto (tgt := 159) hx hb dX10_two_224 (by decide) ?_
                  exact ih159 v3 1 v5_30 M_coming M_comingMany M_going M_goingMany M_minute M_pile M_high M_where M_latest M_lifts M_begun M_left M_has M_lifted M_taken M_above M_allLifts M_busy M_ofOne M_ofOther _ _ hF hP hD hS ls (lv_sub hl [2, 3, 1, 0] rfl)
      intro v3 M_coming M_comingMany M_going M_goingMany M_minute M_pile M_high M_where M_latest M_lifts M_begun M_left M_has M_lifted M_taken M_above M_allLifts M_busy M_ofOne M_ofOther H locs hF hP hD hS ls hl
      rw [fX10_two_L147] at hF
      refine lv_iload_n hx hb dX10_two_147 rfl (lv_at hl 1 rfl) ?_
      refine lv_bipush (v := 9) hx hb dX10_two_148 (by decide) ?_
      refine lv_icmp_ge (tgt := 249) hx hb dX10_two_150 (by decide) (fun c_22 => ?_) (fun c_22 => ?_)
      · have hF := zt c_22 hF
        refine lv_bipush (v := (-4)) hx hb dX10_two_249 (by decide) ?_
        obtain rfl := Option.some.inj hF
        exact hret _ _ _ _ hP hD hS rfl dX10_two_251
      · have hF := zf c_22 hF
        refine lv_iconst (v := 1) hx hb dX10_two_153 (by decide) ?_
        refine lv_istore (lv' := [(4, .int 1), (0, .ref (ad_M 0)), (3, .int v3)]) hx hb dX10_two_154 hl (by decide) rfl (fun ls hl => ?_)
        refine lv_iconst (v := 0) hx hb dX10_two_156 (by decide) ?_
        refine lv_istore (lv' := [(5, .int 0), (4, .int 1), (0, .ref (ad_M 0)), (3, .int v3)]) hx hb dX10_two_157 hl (by decide) rfl (fun ls hl => ?_)
        exact l159 fuel v3 1 0 M_coming M_comingMany M_going M_goingMany M_minute M_pile M_high M_where M_latest M_lifts M_begun M_left M_has M_lifted M_taken M_above M_allLifts M_busy M_ofOne M_ofOther _ _ hF hP hD hS ls (lv_sub hl [2, 3, 1, 0] rfl)
  have j145 : ∀ (M_coming : Nat → Int32) (M_comingMany : Int32) (M_going : Nat → Int32) (M_goingMany : Int32) (M_minute : Nat → Int32) (M_pile : Nat → Int32) (M_high : Nat → Int32) (M_where : Nat → Int32) (M_latest : Int32) (M_lifts : Nat → Int32) (M_begun : Nat → Int32) (M_left : Nat → Int32) (M_has : Nat → Int32) (M_lifted : Nat → Int32) (M_taken : Nat → Int32) (M_above : Nat → Int32) (M_allLifts : Int32) (M_busy : Int32) (M_ofOne : Nat → Int32) (M_ofOther : Nat → Int32) (H : Heap) (locs : List Loc), fX10_two_J145 fuel M_coming M_comingMany M_going M_goingMany M_minute M_pile M_high M_where M_latest M_lifts M_begun M_left M_has M_lifted M_taken M_above M_allLifts M_busy M_ofOne M_ofOther = some o → va_P D vwCl (wX10_M ca ad_M M_guests M_kind M_figure M_told M_heaps M_holds M_back M_mistakes M_hooks M_letters M_rule M_at M_well M_sort M_text M_row M_field M_fields M_begins M_ruleLetters M_coming M_comingMany M_going M_goingMany M_minute M_pile M_high M_where M_latest M_lifts M_begun M_left M_has M_lifted M_taken M_above M_allLifts M_busy M_longest M_onto M_worst M_best M_orders M_together M_ofOne M_ofOther M_seed M_then M_was M_kept M_held M_kindOn M_figureOn M_sorts M_size M_items M_moved M_thrown) H → va_D A (wX10_M ca ad_M M_guests M_kind M_figure M_told M_heaps M_holds M_back M_mistakes M_hooks M_letters M_rule M_at M_well M_sort M_text M_row M_field M_fields M_begins M_ruleLetters M_coming M_comingMany M_going M_goingMany M_minute M_pile M_high M_where M_latest M_lifts M_begun M_left M_has M_lifted M_taken M_above M_allLifts M_busy M_longest M_onto M_worst M_best M_orders M_together M_ofOne M_ofOther M_seed M_then M_was M_kept M_held M_kindOn M_figureOn M_sorts M_size M_items M_moved M_thrown) → va_S A s.heap H locs → ∀ ls : Array Slot, lv_has ls 6 [(0, .ref (ad_M 0))] → W p l e roX10_two s m args below meth c H locs 0 0 Q (F0 m 145 ls []) := by
    intro M_coming M_comingMany M_going M_goingMany M_minute M_pile M_high M_where M_latest M_lifts M_begun M_left M_has M_lifted M_taken M_above M_allLifts M_busy M_ofOne M_ofOther H locs hF hP hD hS ls hl
    unfold fX10_two_J145 at hF
    refine lv_iconst (v := 0) hx hb dX10_two_145 (by decide) ?_
    refine lv_istore_n (lv' := [(3, .int 0), (0, .ref (ad_M 0))]) hx hb dX10_two_146 rfl hl (by decide) rfl (fun ls hl => ?_)
    exact l147 fuel 0 M_coming M_comingMany M_going M_goingMany M_minute M_pile M_high M_where M_latest M_lifts M_begun M_left M_has M_lifted M_taken M_above M_allLifts M_busy M_ofOne M_ofOther _ _ hF hP hD hS ls (lv_sub hl [1, 0] rfl)
  have l25 : ∀ (n25 : Nat) (v3 : Int32) (M_coming : Nat → Int32) (M_comingMany : Int32) (M_going : Nat → Int32) (M_goingMany : Int32) (M_minute : Nat → Int32) (M_pile : Nat → Int32) (M_high : Nat → Int32) (M_where : Nat → Int32) (M_latest : Int32) (M_lifts : Nat → Int32) (M_begun : Nat → Int32) (M_left : Nat → Int32) (M_has : Nat → Int32) (M_lifted : Nat → Int32) (M_taken : Nat → Int32) (M_above : Nat → Int32) (M_allLifts : Int32) (M_busy : Int32) (M_ofOne : Nat → Int32) (M_ofOther : Nat → Int32) (H : Heap) (locs : List Loc), fX10_two_L25 fuel M_guests M_kind M_figure M_told M_heaps M_holds M_back M_mistakes M_hooks M_letters M_rule p1 p2 n25 v3 M_coming M_comingMany M_going M_goingMany M_minute M_pile M_high M_where M_latest M_lifts M_begun M_left M_has M_lifted M_taken M_above M_allLifts M_busy M_ofOne M_ofOther = some o → va_P D vwCl (wX10_M ca ad_M M_guests M_kind M_figure M_told M_heaps M_holds M_back M_mistakes M_hooks M_letters M_rule M_at M_well M_sort M_text M_row M_field M_fields M_begins M_ruleLetters M_coming M_comingMany M_going M_goingMany M_minute M_pile M_high M_where M_latest M_lifts M_begun M_left M_has M_lifted M_taken M_above M_allLifts M_busy M_longest M_onto M_worst M_best M_orders M_together M_ofOne M_ofOther M_seed M_then M_was M_kept M_held M_kindOn M_figureOn M_sorts M_size M_items M_moved M_thrown) H → va_D A (wX10_M ca ad_M M_guests M_kind M_figure M_told M_heaps M_holds M_back M_mistakes M_hooks M_letters M_rule M_at M_well M_sort M_text M_row M_field M_fields M_begins M_ruleLetters M_coming M_comingMany M_going M_goingMany M_minute M_pile M_high M_where M_latest M_lifts M_begun M_left M_has M_lifted M_taken M_above M_allLifts M_busy M_longest M_onto M_worst M_best M_orders M_together M_ofOne M_ofOther M_seed M_then M_was M_kept M_held M_kindOn M_figureOn M_sorts M_size M_items M_moved M_thrown) → va_S A s.heap H locs → ∀ ls : Array Slot, lv_has ls 6 [(0, .ref (ad_M 0)), (1, .int p1), (2, .int p2), (3, .int v3)] → W p l e roX10_two s m args below meth c H locs 0 0 Q (F0 m 25 ls []) := by
    intro n25
    induction n25 with
    | zero =>
      intro v3 M_coming M_comingMany M_going M_goingMany M_minute M_pile M_high M_where M_latest M_lifts M_begun M_left M_has M_lifted M_taken M_above M_allLifts M_busy M_ofOne M_ofOther H locs hF
      rw [fX10_two_L25] at hF
      cases hF
    | succ n25 ih25 =>
      intro v3 M_coming M_comingMany M_going M_goingMany M_minute M_pile M_high M_where M_latest M_lifts M_begun M_left M_has M_lifted M_taken M_above M_allLifts M_busy M_ofOne M_ofOther H locs hF hP hD hS ls hl
      rw [fX10_two_L25] at hF
      refine lv_iload_n hx hb dX10_two_25 rfl (lv_at hl 3 rfl) ?_
      refine lv_bipush (v := 9) hx hb dX10_two_26 (by decide) ?_
      refine lv_icmp_ge (tgt := 145) hx hb dX10_two_28 (by decide) (fun c_6 => ?_) (fun c_6 => ?_)
      · have hF := zt c_6 hF
        exact j145 M_coming M_comingMany M_going M_goingMany M_minute M_pile M_high M_where M_latest M_lifts M_begun M_left M_has M_lifted M_taken M_above M_allLifts M_busy M_ofOne M_ofOther _ _ hF hP hD hS ls (lv_sub hl [0] rfl)
      · have hF := zf c_6 hF
        refine lv_aload_n hx hb dX10_two_31 rfl (lv_at hl 0 rfl) ?_
        obtain ⟨o_7, hc_7, hF⟩ := zb hF
        refine zcVv (rest := []) (ws' := (wX10_M ca ad_M M_guests M_kind M_figure M_told M_heaps M_holds M_back M_mistakes M_hooks M_letters M_rule M_at M_well M_sort M_text M_row M_field M_fields M_begins M_ruleLetters M_coming M_comingMany M_going M_goingMany o_7 M_pile M_high M_where M_latest M_lifts M_begun M_left M_has M_lifted M_taken M_above M_allLifts M_busy M_longest M_onto M_worst M_best M_orders M_together M_ofOne M_ofOther M_seed M_then M_was M_kept M_held M_kindOn M_figureOn M_sorts M_size M_items M_moved M_thrown)) (kX10_minutesAsTold l D ca t ad_M M_guests M_kind M_figure M_told M_heaps M_holds M_back M_mistakes M_hooks M_letters M_rule M_at M_well M_sort M_text M_row M_field M_fields M_begins M_ruleLetters M_coming M_comingMany M_going M_goingMany M_minute M_pile M_high M_where M_latest M_lifts M_begun M_left M_has M_lifted M_taken M_above M_allLifts M_busy M_longest M_onto M_worst M_best M_orders M_together M_ofOne M_ofOther M_seed M_then M_was M_kept M_held M_kindOn M_figureOn M_sorts M_size M_items M_moved M_thrown fuel _ hc_7) ⟨hx, hb, hml, hown, hts⟩ (zcwV hts zm_96 zm_97 zm_98 zm_19 zm_95 rfl rfl zdv_X10_minutesAsTold ⟨Nat.le_of_ble_eq_true rfl, Nat.le_of_ble_eq_true rfl⟩) hA hK hZ hP hD hS [0, 1, 2, 3, 4, 5, 6, 7, 8, 9, 10, 11, 12, 13, 14, 15, 16, 17, 18, 19, 20, 21, 22, 23, 24, 25, 26, 27, 28, 29, 30, 31, 32, 33] [] [0, 1, 2, 3, 4, 5, 6, 7, 8, 9, 10, 11, 12, 13, 14, 15, 16, 17, 18, 19, 20, 21, 22, 23, 24, 25, 26, 27, 28, 29, 30, 31, 32, 33] rfl rfl rfl rfl rfl rfl rfl 7 0 rfl rfl rfl hl.1 (Nat.le_of_ble_eq_true rfl) dX10_two_32 rfl (fun H locs hP hD hS => ?_)
        refine lv_aload_n hx hb dX10_two_35 rfl (lv_at hl 0 rfl) ?_
        refine va_get (D := D) (ci := 7) (v := .ref (ad_M 10)) (C := RX10) (T := TX10) (N := 58) hx hb hts hin10 hown hK hP 0 rfl rfl 24 (by decide) (hts _ zm_85) (fun _ h9 => h9) rfl dX10_two_36 ?_
        refine lv_iload_n hx hb dX10_two_39 rfl (lv_at hl 1 rfl) ?_
        refine lv_aload_n hx hb dX10_two_40 rfl (lv_at hl 0 rfl) ?_
        refine va_get (D := D) (ci := 7) (v := .ref (ad_M 1)) (C := RX10) (T := TX10) (N := 58) hx hb hts hin10 hown hK hP 0 rfl rfl 1 (by decide) (hts _ zm_25) (fun _ h9 => h9) rfl dX10_two_41 ?_
        refine lv_iload_n hx hb dX10_two_44 rfl (lv_at hl 1 rfl) ?_
        obtain ⟨h_8, hF⟩ := zgi hF
        refine va_iald hx hb hK hP 1 0 rfl rfl h_8 dX10_two_45 ?_
        refine lv_aload_n hx hb dX10_two_46 rfl (lv_at hl 0 rfl) ?_
        refine va_get (D := D) (ci := 7) (v := .ref (ad_M 2)) (C := RX10) (T := TX10) (N := 58) hx hb hts hin10 hown hK hP 0 rfl rfl 2 (by decide) (hts _ zm_26) (fun _ h9 => h9) rfl dX10_two_47 ?_
        refine lv_iload_n hx hb dX10_two_50 rfl (lv_at hl 1 rfl) ?_
        refine va_iald hx hb hK hP 2 0 rfl rfl h_8 dX10_two_51 ?_
        refine lv_aload_n hx hb dX10_two_52 rfl (lv_at hl 0 rfl) ?_
        refine va_get (D := D) (ci := 7) (v := .ref (ad_M 3)) (C := RX10) (T := TX10) (N := 58) hx hb hts hin10 hown hK hP 0 rfl rfl 3 (by decide) (hts _ zm_31) (fun _ h9 => h9) rfl dX10_two_53 ?_
        refine lv_iload_n hx hb dX10_two_56 rfl (lv_at hl 1 rfl) ?_
        refine va_iald hx hb hK hP 3 0 rfl rfl h_8 dX10_two_57 ?_
        refine lv_iconst (v := 5) hx hb dX10_two_58 (by decide) ?_
        refine lv_iload_n hx hb dX10_two_59 rfl (lv_at hl 3 rfl) ?_
        refine lv_iconst (v := 3) hx hb dX10_two_60 (by decide) ?_
        refine lv_idiv hx hb dX10_two_61 (by decide) ?_
        refine lv_imul hx hb dX10_two_62 ?_
        refine lv_iadd hx hb dX10_two_63 ?_
        obtain ⟨o_9, hc_9, hF⟩ := zb hF
        refine zcSR (rest := [.int p1, .ref (ad_M 10)]) (kX10_goesBy l D ca t (M_kind p1.toNatClampNeg) (M_figure p1.toNatClampNeg) (((M_told p1.toNatClampNeg) + ((5 * (v3 / 3))))) fuel _ hc_9) ⟨hx, hb, hml, hown, hts⟩ (zcwS hts zm_94 zm_93 zm_19 zm_92 rfl rfl zds_X10_goesBy ⟨Nat.le_of_ble_eq_true rfl, Nat.le_of_ble_eq_true rfl⟩) hA hK hZ hP hD hS [] rfl rfl rfl hl.1 (Nat.le_of_ble_eq_true rfl) dX10_two_64 rfl ?_
        refine z_iast hx hb hK hP hD hS 10 0 rfl rfl h_8 dX10_two_67 (fun g => (wX10_M ca ad_M M_guests M_kind M_figure M_told M_heaps M_holds M_back M_mistakes M_hooks M_letters M_rule M_at M_well M_sort M_text M_row M_field M_fields M_begins M_ruleLetters M_coming M_comingMany M_going M_goingMany g M_pile M_high M_where M_latest M_lifts M_begun M_left M_has M_lifted M_taken M_above M_allLifts M_busy M_longest M_onto M_worst M_best M_orders M_together M_ofOne M_ofOther M_seed M_then M_was M_kept M_held M_kindOn M_figureOn M_sorts M_size M_items M_moved M_thrown)) (fun _ => rfl) hF (fun M_minute_10 H locs hF hP hD hS => ?_)
        refine lv_aload_n hx hb dX10_two_68 rfl (lv_at hl 0 rfl) ?_
        refine va_get (D := D) (ci := 7) (v := .ref (ad_M 10)) (C := RX10) (T := TX10) (N := 58) hx hb hts hin10 hown hK hP 0 rfl rfl 24 (by decide) (hts _ zm_85) (fun _ h9 => h9) rfl dX10_two_69 ?_
        refine lv_iload_n hx hb dX10_two_72 rfl (lv_at hl 2 rfl) ?_
        refine lv_aload_n hx hb dX10_two_73 rfl (lv_at hl 0 rfl) ?_
        refine va_get (D := D) (ci := 7) (v := .ref (ad_M 1)) (C := RX10) (T := TX10) (N := 58) hx hb hts hin10 hown hK hP 0 rfl rfl 1 (by decide) (hts _ zm_25) (fun _ h9 => h9) rfl dX10_two_74 ?_
        refine lv_iload_n hx hb dX10_two_77 rfl (lv_at hl 2 rfl) ?_
        obtain ⟨h_11, hF⟩ := zgi hF
        refine va_iald hx hb hK hP 1 0 rfl rfl h_11 dX10_two_78 ?_
        refine lv_aload_n hx hb dX10_two_79 rfl (lv_at hl 0 rfl) ?_
        refine va_get (D := D) (ci := 7) (v := .ref (ad_M 2)) (C := RX10) (T := TX10) (N := 58) hx hb hts hin10 hown hK hP 0 rfl rfl 2 (by decide) (hts _ zm_26) (fun _ h9 => h9) rfl dX10_two_80 ?_
        refine lv_iload_n hx hb dX10_two_83 rfl (lv_at hl 2 rfl) ?_
        refine va_iald hx hb hK hP 2 0 rfl rfl h_11 dX10_two_84 ?_
        refine lv_aload_n hx hb dX10_two_85 rfl (lv_at hl 0 rfl) ?_
        refine va_get (D := D) (ci := 7) (v := .ref (ad_M 3)) (C := RX10) (T := TX10) (N := 58) hx hb hts hin10 hown hK hP 0 rfl rfl 3 (by decide) (hts _ zm_31) (fun _ h9 => h9) rfl dX10_two_86 ?_
        refine lv_iload_n hx hb dX10_two_89 rfl (lv_at hl 2 rfl) ?_
        refine va_iald hx hb hK hP 3 0 rfl rfl h_11 dX10_two_90 ?_
        refine lv_iconst (v := 5) hx hb dX10_two_91 (by decide) ?_
        refine lv_iload_n hx hb dX10_two_92 rfl (lv_at hl 3 rfl) ?_
        refine lv_iconst (v := 3) hx hb dX10_two_93 (by decide) ?_
        refine lv_irem hx hb dX10_two_94 (by decide) ?_
        refine lv_imul hx hb dX10_two_95 ?_
        refine lv_iadd hx hb dX10_two_96 ?_
        refine z_let hF (fun x_12 hF => ?_)
        obtain ⟨o_13, hc_13, hF⟩ := zb hF
        refine zcSR (rest := [.int p2, .ref (ad_M 10)]) (kX10_goesBy l D ca t (M_kind p2.toNatClampNeg) (M_figure p2.toNatClampNeg) x_12 fuel _ hc_13) ⟨hx, hb, hml, hown, hts⟩ (zcwS hts zm_94 zm_93 zm_19 zm_92 rfl rfl zds_X10_goesBy ⟨Nat.le_of_ble_eq_true rfl, Nat.le_of_ble_eq_true rfl⟩) hA hK hZ hP hD hS [] rfl rfl rfl hl.1 (Nat.le_of_ble_eq_true rfl) dX10_two_97 rfl ?_
        refine z_iast hx hb hK hP hD hS 10 0 rfl rfl h_11 dX10_two_100 (fun g => (wX10_M ca ad_M M_guests M_kind M_figure M_told M_heaps M_holds M_back M_mistakes M_hooks M_letters M_rule M_at M_well M_sort M_text M_row M_field M_fields M_begins M_ruleLetters M_coming M_comingMany M_going M_goingMany g M_pile M_high M_where M_latest M_lifts M_begun M_left M_has M_lifted M_taken M_above M_allLifts M_busy M_longest M_onto M_worst M_best M_orders M_together M_ofOne M_ofOther M_seed M_then M_was M_kept M_held M_kindOn M_figureOn M_sorts M_size M_items M_moved M_thrown)) (fun _ => rfl) hF (fun M_minute_14 H locs hF hP hD hS => ?_)
        refine lv_aload_n hx hb dX10_two_101 rfl (lv_at hl 0 rfl) ?_
        refine lv_iconst (v := (-1)) hx hb dX10_two_102 (by decide) ?_
        obtain ⟨o_15, hc_15, hF⟩ := zb hF
        refine zcVv (rest := []) (ws' := (wX10_M ca ad_M M_guests M_kind M_figure M_told M_heaps M_holds M_back M_mistakes M_hooks M_letters M_rule M_at M_well M_sort M_text M_row M_field M_fields M_begins M_ruleLetters o_15.1 o_15.2 M_going M_goingMany M_minute_14 M_pile M_high M_where M_latest M_lifts M_begun M_left M_has M_lifted M_taken M_above M_allLifts M_busy M_longest M_onto M_worst M_best M_orders M_together M_ofOne M_ofOther M_seed M_then M_was M_kept M_held M_kindOn M_figureOn M_sorts M_size M_items M_moved M_thrown)) (kX10_allCome l D ca t ad_M M_guests M_kind M_figure M_told M_heaps M_holds M_back M_mistakes M_hooks M_letters M_rule M_at M_well M_sort M_text M_row M_field M_fields M_begins M_ruleLetters M_coming M_comingMany M_going M_goingMany M_minute_14 M_pile M_high M_where M_latest M_lifts M_begun M_left M_has M_lifted M_taken M_above M_allLifts M_busy M_longest M_onto M_worst M_best M_orders M_together M_ofOne M_ofOther M_seed M_then M_was M_kept M_held M_kindOn M_figureOn M_sorts M_size M_items M_moved M_thrown (-1) fuel _ hc_15) ⟨hx, hb, hml, hown, hts⟩ (zcwV hts zm_100 zm_101 zm_102 zm_19 zm_99 rfl rfl zdv_X10_allCome ⟨Nat.le_of_ble_eq_true rfl, Nat.le_of_ble_eq_true rfl⟩) hA hK hZ hP hD hS [0, 1, 2, 3, 4, 5, 6, 7, 8, 9, 10, 11, 12, 13, 14, 15, 16, 17, 18, 19, 20, 21, 22, 23, 24, 25, 26, 27, 28, 29, 30, 31, 32, 33] [] [0, 1, 2, 3, 4, 5, 6, 7, 8, 9, 10, 11, 12, 13, 14, 15, 16, 17, 18, 19, 20, 21, 22, 23, 24, 25, 26, 27, 28, 29, 30, 31, 32, 33] rfl rfl rfl rfl rfl rfl rfl 7 0 rfl rfl rfl hl.1 (Nat.le_of_ble_eq_true rfl) dX10_two_103 rfl (fun H locs hP hD hS => ?_)
        refine lv_aload_n hx hb dX10_two_106 rfl (lv_at hl 0 rfl) ?_
        obtain ⟨o_16, hc_16, hF⟩ := zb hF
        refine zcVv (rest := []) (ws' := (wX10_M ca ad_M M_guests M_kind M_figure M_told M_heaps M_holds M_back M_mistakes M_hooks M_letters M_rule M_at M_well M_sort M_text M_row M_field M_fields M_begins M_ruleLetters o_15.1 o_15.2 o_16.1 o_16.2 M_minute_14 M_pile M_high M_where M_latest M_lifts M_begun M_left M_has M_lifted M_taken M_above M_allLifts M_busy M_longest M_onto M_worst M_best M_orders M_together M_ofOne M_ofOther M_seed M_then M_was M_kept M_held M_kindOn M_figureOn M_sorts M_size M_items M_moved M_thrown)) (kX10_allGo l D ca t ad_M M_guests M_kind M_figure M_told M_heaps M_holds M_back M_mistakes M_hooks M_letters M_rule M_at M_well M_sort M_text M_row M_field M_fields M_begins M_ruleLetters o_15.1 o_15.2 M_going M_goingMany M_minute_14 M_pile M_high M_where M_latest M_lifts M_begun M_left M_has M_lifted M_taken M_above M_allLifts M_busy M_longest M_onto M_worst M_best M_orders M_together M_ofOne M_ofOther M_seed M_then M_was M_kept M_held M_kindOn M_figureOn M_sorts M_size M_items M_moved M_thrown fuel _ hc_16) ⟨hx, hb, hml, hown, hts⟩ (zcwV hts zm_104 zm_105 zm_106 zm_19 zm_103 rfl rfl zdv_X10_allGo ⟨Nat.le_of_ble_eq_true rfl, Nat.le_of_ble_eq_true rfl⟩) hA hK hZ hP hD hS [0, 1, 2, 3, 4, 5, 6, 7, 8, 9, 10, 11, 12, 13, 14, 15, 16, 17, 18, 19, 20, 21, 22, 23, 24, 25, 26, 27, 28, 29, 30, 31, 32, 33] [] [0, 1, 2, 3, 4, 5, 6, 7, 8, 9, 10, 11, 12, 13, 14, 15, 16, 17, 18, 19, 20, 21, 22, 23, 24, 25, 26, 27, 28, 29, 30, 31, 32, 33] rfl rfl rfl rfl rfl rfl rfl 7 0 rfl rfl rfl hl.1 (Nat.le_of_ble_eq_true rfl) dX10_two_107 rfl (fun H locs hP hD hS => ?_)
        refine lv_aload_n hx hb dX10_two_110 rfl (lv_at hl 0 rfl) ?_
        obtain ⟨o_17, hc_17, hF⟩ := zb hF
        refine zcVi (rest := []) (ws' := (wX10_M ca ad_M M_guests M_kind M_figure M_told M_heaps M_holds M_back M_mistakes M_hooks M_letters M_rule M_at M_well M_sort M_text M_row M_field M_fields M_begins M_ruleLetters o_15.1 o_15.2 o_16.1 o_16.2 M_minute_14 o_17.2.1 o_17.2.2.1 o_17.2.2.2.1 o_17.2.2.2.2.1 o_17.2.2.2.2.2.1 o_17.2.2.2.2.2.2.1 o_17.2.2.2.2.2.2.2.1 o_17.2.2.2.2.2.2.2.2.1 o_17.2.2.2.2.2.2.2.2.2.1 o_17.2.2.2.2.2.2.2.2.2.2.1 o_17.2.2.2.2.2.2.2.2.2.2.2.1 o_17.2.2.2.2.2.2.2.2.2.2.2.2.1 o_17.2.2.2.2.2.2.2.2.2.2.2.2.2 M_longest M_onto M_worst M_best M_orders M_together M_ofOne M_ofOther M_seed M_then M_was M_kept M_held M_kindOn M_figureOn M_sorts M_size M_items M_moved M_thrown)) (kX10_layAndGo l D ca t ad_M M_guests M_kind M_figure M_told M_heaps M_holds M_back M_mistakes M_hooks M_letters M_rule M_at M_well M_sort M_text M_row M_field M_fields M_begins M_ruleLetters o_15.1 o_15.2 o_16.1 o_16.2 M_minute_14 M_pile M_high M_where M_latest M_lifts M_begun M_left M_has M_lifted M_taken M_above M_allLifts M_busy M_longest M_onto M_worst M_best M_orders M_together M_ofOne M_ofOther M_seed M_then M_was M_kept M_held M_kindOn M_figureOn M_sorts M_size M_items M_moved M_thrown fuel _ hc_17) ⟨hx, hb, hml, hown, hts⟩ (zcwV hts zm_190 zm_191 zm_192 zm_19 zm_189 rfl rfl zdv_X10_layAndGo ⟨Nat.le_of_ble_eq_true rfl, Nat.le_of_ble_eq_true rfl⟩) hA hK hZ hP hD hS [0, 1, 2, 3, 4, 5, 6, 7, 8, 9, 10, 11, 12, 13, 14, 15, 16, 17, 18, 19, 20, 21, 22, 23, 24, 25, 26, 27, 28, 29, 30, 31, 32, 33] [] [0, 1, 2, 3, 4, 5, 6, 7, 8, 9, 10, 11, 12, 13, 14, 15, 16, 17, 18, 19, 20, 21, 22, 23, 24, 25, 26, 27, 28, 29, 30, 31, 32, 33] rfl rfl rfl rfl rfl rfl rfl 7 0 rfl rfl rfl hl.1 (Nat.le_of_ble_eq_true rfl) dX10_two_111 rfl (fun H locs hP hD hS => ?_)
        refine lv_pop hx hb dX10_two_114 rfl ?_
        refine lv_aload_n hx hb dX10_two_115 rfl (lv_at hl 0 rfl) ?_
        refine va_get (D := D) (ci := 7) (v := .ref (ad_M 23)) (C := RX10) (T := TX10) (N := 58) hx hb hts hin10 hown hK hP 0 rfl rfl 44 (by decide) (hts _ zm_268) (fun _ h9 => h9) rfl dX10_two_116 ?_
        refine lv_iload_n hx hb dX10_two_119 rfl (lv_at hl 3 rfl) ?_
        refine lv_aload_n hx hb dX10_two_120 rfl (lv_at hl 0 rfl) ?_
        refine va_get (D := D) (ci := 7) (v := .ref (ad_M 14)) (C := RX10) (T := TX10) (N := 58) hx hb hts hin10 hown hK hP 0 rfl rfl 29 (by decide) (hts _ zm_144) (fun _ h9 => h9) rfl dX10_two_121 ?_
        refine lv_iload_n hx hb dX10_two_124 rfl (lv_at hl 1 rfl) ?_
        refine va_iald hx hb hK hP 14 0 rfl rfl h_8 dX10_two_125 ?_
        obtain ⟨h_18, hF⟩ := zgi hF
        refine z_iast hx hb hK hP hD hS 23 0 rfl rfl h_18 dX10_two_126 (fun g => (wX10_M ca ad_M M_guests M_kind M_figure M_told M_heaps M_holds M_back M_mistakes M_hooks M_letters M_rule M_at M_well M_sort M_text M_row M_field M_fields M_begins M_ruleLetters o_15.1 o_15.2 o_16.1 o_16.2 M_minute_14 o_17.2.1 o_17.2.2.1 o_17.2.2.2.1 o_17.2.2.2.2.1 o_17.2.2.2.2.2.1 o_17.2.2.2.2.2.2.1 o_17.2.2.2.2.2.2.2.1 o_17.2.2.2.2.2.2.2.2.1 o_17.2.2.2.2.2.2.2.2.2.1 o_17.2.2.2.2.2.2.2.2.2.2.1 o_17.2.2.2.2.2.2.2.2.2.2.2.1 o_17.2.2.2.2.2.2.2.2.2.2.2.2.1 o_17.2.2.2.2.2.2.2.2.2.2.2.2.2 M_longest M_onto M_worst M_best M_orders M_together g M_ofOther M_seed M_then M_was M_kept M_held M_kindOn M_figureOn M_sorts M_size M_items M_moved M_thrown)) (fun _ => rfl) hF (fun M_ofOne_19 H locs hF hP hD hS => ?_)
        refine lv_aload_n hx hb dX10_two_127 rfl (lv_at hl 0 rfl) ?_
        refine va_get (D := D) (ci := 7) (v := .ref (ad_M 24)) (C := RX10) (T := TX10) (N := 58) hx hb hts hin10 hown hK hP 0 rfl rfl 45 (by decide) (hts _ zm_269) (fun _ h9 => h9) rfl dX10_two_128 ?_
        refine lv_iload_n hx hb dX10_two_131 rfl (lv_at hl 3 rfl) ?_
        refine lv_aload_n hx hb dX10_two_132 rfl (lv_at hl 0 rfl) ?_
        refine va_get (D := D) (ci := 7) (v := .ref (ad_M 14)) (C := RX10) (T := TX10) (N := 58) hx hb hts hin10 hown hK hP 0 rfl rfl 29 (by decide) (hts _ zm_144) (fun _ h9 => h9) rfl dX10_two_133 ?_
        refine lv_iload_n hx hb dX10_two_136 rfl (lv_at hl 2 rfl) ?_
        refine va_iald hx hb hK hP 14 0 rfl rfl h_11 dX10_two_137 ?_
        refine z_iast hx hb hK hP hD hS 24 0 rfl rfl h_18 dX10_two_138 (fun g => (wX10_M ca ad_M M_guests M_kind M_figure M_told M_heaps M_holds M_back M_mistakes M_hooks M_letters M_rule M_at M_well M_sort M_text M_row M_field M_fields M_begins M_ruleLetters o_15.1 o_15.2 o_16.1 o_16.2 M_minute_14 o_17.2.1 o_17.2.2.1 o_17.2.2.2.1 o_17.2.2.2.2.1 o_17.2.2.2.2.2.1 o_17.2.2.2.2.2.2.1 o_17.2.2.2.2.2.2.2.1 o_17.2.2.2.2.2.2.2.2.1 o_17.2.2.2.2.2.2.2.2.2.1 o_17.2.2.2.2.2.2.2.2.2.2.1 o_17.2.2.2.2.2.2.2.2.2.2.2.1 o_17.2.2.2.2.2.2.2.2.2.2.2.2.1 o_17.2.2.2.2.2.2.2.2.2.2.2.2.2 M_longest M_onto M_worst M_best M_orders M_together M_ofOne_19 g M_seed M_then M_was M_kept M_held M_kindOn M_figureOn M_sorts M_size M_items M_moved M_thrown)) (fun _ => rfl) hF (fun M_ofOther_20 H locs hF hP hD hS => ?_)
        refine z_iinc (kv := 1) hx hb 3 dX10_two_139 hl rfl (by decide) (by decide) (fun g => [(3, .int g), (0, .ref (ad_M 0)), (1, .int p1), (2, .int p2)]) (fun _ => rfl) hF (fun v3_21 ls hF hl => ?_)
        refine lv_goto (tgt := 25) hx hb dX10_two_142 (by decide) ?_
        exact ih25 v3_21 o_15.1 o_15.2 o_16.1 o_16.2 M_minute_14 o_17.2.1 o_17.2.2.1 o_17.2.2.2.1 o_17.2.2.2.2.1 o_17.2.2.2.2.2.1 o_17.2.2.2.2.2.2.1 o_17.2.2.2.2.2.2.2.1 o_17.2.2.2.2.2.2.2.2.1 o_17.2.2.2.2.2.2.2.2.2.1 o_17.2.2.2.2.2.2.2.2.2.2.1 o_17.2.2.2.2.2.2.2.2.2.2.2.1 o_17.2.2.2.2.2.2.2.2.2.2.2.2.1 o_17.2.2.2.2.2.2.2.2.2.2.2.2.2 M_ofOne_19 M_ofOther_20 _ _ hF hP hD hS ls (lv_sub hl [1, 2, 3, 0] rfl)
  unfold fX10_two at hF
  refine lv_aload_n hx hb dX10_two_0 rfl (lv_at hl 0 rfl) ?_
  refine lv_iload_n hx hb dX10_two_1 rfl (lv_at hl 1 rfl) ?_
  obtain ⟨o_1, hc_1, hF⟩ := zb hF
  refine zcVR (rest := []) (kX10_isGuest l D ca t ad_M M_guests M_kind M_figure M_told M_heaps M_holds M_back M_mistakes M_hooks M_letters M_rule M_at M_well M_sort M_text M_row M_field M_fields M_begins M_ruleLetters M_coming M_comingMany M_going M_goingMany M_minute M_pile M_high M_where M_latest M_lifts M_begun M_left M_has M_lifted M_taken M_above M_allLifts M_busy M_longest M_onto M_worst M_best M_orders M_together M_ofOne M_ofOther M_seed M_then M_was M_kept M_held M_kindOn M_figureOn M_sorts M_size M_items M_moved M_thrown p1 fuel _ hc_1) ⟨hx, hb, hml, hown, hts⟩ (zcwV hts zm_63 zm_64 zm_65 zm_19 zm_62 rfl rfl zdv_X10_isGuest ⟨Nat.le_of_ble_eq_true rfl, Nat.le_of_ble_eq_true rfl⟩) hA hK hZ hP hD hS [0, 1, 2, 3, 4, 5, 6, 7, 8, 9, 10, 11, 12, 13, 14, 15, 16, 17, 18, 19, 20, 21, 22, 23, 24, 25, 26, 27, 28, 29, 30, 31, 32, 33] rfl rfl 7 0 rfl rfl rfl hl.1 (Nat.le_of_ble_eq_true rfl) dX10_two_2 rfl ?_
  refine lv_if_eq (tgt := 21) hx hb dX10_two_5 (by decide) (fun c_2 => ?_) (fun c_2 => ?_)
  · have hF := zt c_2 hF
    refine lv_iconst (v := (-1)) hx hb dX10_two_21 (by decide) ?_
    obtain rfl := Option.some.inj hF
    exact hret _ _ _ _ hP hD hS rfl dX10_two_22
  · have hF := zf c_2 hF
    refine lv_aload_n hx hb dX10_two_8 rfl (lv_at hl 0 rfl) ?_
    refine lv_iload_n hx hb dX10_two_9 rfl (lv_at hl 2 rfl) ?_
    obtain ⟨o_3, hc_3, hF⟩ := zb hF
    refine zcVR (rest := []) (kX10_isGuest l D ca t ad_M M_guests M_kind M_figure M_told M_heaps M_holds M_back M_mistakes M_hooks M_letters M_rule M_at M_well M_sort M_text M_row M_field M_fields M_begins M_ruleLetters M_coming M_comingMany M_going M_goingMany M_minute M_pile M_high M_where M_latest M_lifts M_begun M_left M_has M_lifted M_taken M_above M_allLifts M_busy M_longest M_onto M_worst M_best M_orders M_together M_ofOne M_ofOther M_seed M_then M_was M_kept M_held M_kindOn M_figureOn M_sorts M_size M_items M_moved M_thrown p2 fuel _ hc_3) ⟨hx, hb, hml, hown, hts⟩ (zcwV hts zm_63 zm_64 zm_65 zm_19 zm_62 rfl rfl zdv_X10_isGuest ⟨Nat.le_of_ble_eq_true rfl, Nat.le_of_ble_eq_true rfl⟩) hA hK hZ hP hD hS [0, 1, 2, 3, 4, 5, 6, 7, 8, 9, 10, 11, 12, 13, 14, 15, 16, 17, 18, 19, 20, 21, 22, 23, 24, 25, 26, 27, 28, 29, 30, 31, 32, 33] rfl rfl 7 0 rfl rfl rfl hl.1 (Nat.le_of_ble_eq_true rfl) dX10_two_10 rfl ?_
    refine lv_if_eq (tgt := 21) hx hb dX10_two_13 (by decide) (fun c_4 => ?_) (fun c_4 => ?_)
    · have hF := zt c_4 hF
      refine lv_iconst (v := (-1)) hx hb dX10_two_21 (by decide) ?_
      obtain rfl := Option.some.inj hF
      exact hret _ _ _ _ hP hD hS rfl dX10_two_22
    · have hF := zf c_4 hF
      refine lv_iload_n hx hb dX10_two_16 rfl (lv_at hl 1 rfl) ?_
      refine lv_iload_n hx hb dX10_two_17 rfl (lv_at hl 2 rfl) ?_
      refine lv_icmp_ne (tgt := 23) hx hb dX10_two_18 (by decide) (fun c_5 => ?_) (fun c_5 => ?_)
      · have hF := zf c_5 hF
        refine lv_iconst (v := 0) hx hb dX10_two_23 (by decide) ?_
        refine lv_istore_n (lv' := [(3, .int 0), (0, .ref (ad_M 0)), (1, .int p1), (2, .int p2)]) hx hb dX10_two_24 rfl hl (by decide) rfl (fun ls hl => ?_)
        exact l25 fuel 0 M_coming M_comingMany M_going M_goingMany M_minute M_pile M_high M_where M_latest M_lifts M_begun M_left M_has M_lifted M_taken M_above M_allLifts M_busy M_ofOne M_ofOther _ _ hF hP hD hS ls (lv_sub hl [1, 2, 3, 0] rfl)
      · have hF := zt c_5 hF
        refine lv_iconst (v := (-1)) hx hb dX10_two_21 (by decide) ?_
        obtain rfl := Option.some.inj hF
        exact hret _ _ _ _ hP hD hS rfl dX10_two_22
abbrev roX10_chain : Room := { frames := 8, cells := 0, slots := 0, locals := 178 }
set_option maxHeartbeats 4000000 in
set_option maxRecDepth 100000 in
theorem kX10_chain (l : Launch) (D : va_G) (ca : Nat → ClassId) (t : Nat → Nat) (ad_M : Nat → Nat) (M_guests : Int32) (M_kind : Nat → Int32) (M_figure : Nat → Int32) (M_told : Nat → Int32) (M_heaps : Int32) (M_holds : Int32) (M_back : Int32) (M_mistakes : Int32) (M_hooks : Int32) (M_letters : Int32) (M_rule : Nat → Int32) (M_at : Int32) (M_well : Int32) (M_sort : Int32) (M_text : Int32) (M_row : Int32) (M_field : Nat → Int32) (M_fields : Int32) (M_begins : Nat → Int32) (M_ruleLetters : Nat → Int32) (M_coming : Nat → Int32) (M_comingMany : Int32) (M_going : Nat → Int32) (M_goingMany : Int32) (M_minute : Nat → Int32) (M_pile : Nat → Int32) (M_high : Nat → Int32) (M_where : Nat → Int32) (M_latest : Int32) (M_lifts : Nat → Int32) (M_begun : Nat → Int32) (M_left : Nat → Int32) (M_has : Nat → Int32) (M_lifted : Nat → Int32) (M_taken : Nat → Int32) (M_above : Nat → Int32) (M_allLifts : Int32) (M_busy : Int32) (M_longest : Nat → Int32) (M_onto : Nat → Int32) (M_worst : Int32) (M_best : Int32) (M_orders : Int32) (M_together : Int32) (M_ofOne : Nat → Int32) (M_ofOther : Nat → Int32) (M_seed : Int32) (M_then : Nat → Int32) (M_was : Nat → Int32) (M_kept : Int32) (M_held : Nat → Int32) (M_kindOn : Nat → Int32) (M_figureOn : Nat → Int32) (M_sorts : Nat → Int32) (M_size : Nat → Int32) (M_items : Nat → Int32) (M_moved : Nat → Int32) (M_thrown : Int32) (p1 : Int32) (fuel : Nat) (o : Int32 × (Nat → Int32) × Int32 × (Nat → Int32) × Int32 × (Nat → Int32) × (Nat → Int32) × (Nat → Int32) × (Nat → Int32) × Int32 × (Nat → Int32) × (Nat → Int32) × (Nat → Int32) × (Nat → Int32) × (Nat → Int32) × (Nat → Int32) × (Nat → Int32) × Int32 × Int32) (hF : fX10_chain fuel M_guests M_kind M_figure M_told M_heaps M_holds M_back M_mistakes M_hooks M_letters M_rule M_coming M_comingMany M_going M_goingMany M_minute M_pile M_high M_where M_latest M_lifts M_begun M_left M_has M_lifted M_taken M_above M_allLifts M_busy p1 = some o) : zMi l D (zT ca) t yX10_chain (.code yX10_chain cX10_chain 4 (some .int) :: zW) roX10_chain [.ref (ad_M 0), .int p1] (wX10_M ca ad_M M_guests M_kind M_figure M_told M_heaps M_holds M_back M_mistakes M_hooks M_letters M_rule M_at M_well M_sort M_text M_row M_field M_fields M_begins M_ruleLetters M_coming M_comingMany M_going M_goingMany M_minute M_pile M_high M_where M_latest M_lifts M_begun M_left M_has M_lifted M_taken M_above M_allLifts M_busy M_longest M_onto M_worst M_best M_orders M_together M_ofOne M_ofOther M_seed M_then M_was M_kept M_held M_kindOn M_figureOn M_sorts M_size M_items M_moved M_thrown) (wX10_M ca ad_M M_guests M_kind M_figure M_told M_heaps M_holds M_back M_mistakes M_hooks M_letters M_rule M_at M_well M_sort M_text M_row M_field M_fields M_begins M_ruleLetters o.2.1 o.2.2.1 o.2.2.2.1 o.2.2.2.2.1 o.2.2.2.2.2.1 o.2.2.2.2.2.2.1 o.2.2.2.2.2.2.2.1 o.2.2.2.2.2.2.2.2.1 o.2.2.2.2.2.2.2.2.2.1 o.2.2.2.2.2.2.2.2.2.2.1 o.2.2.2.2.2.2.2.2.2.2.2.1 o.2.2.2.2.2.2.2.2.2.2.2.2.1 o.2.2.2.2.2.2.2.2.2.2.2.2.2.1 o.2.2.2.2.2.2.2.2.2.2.2.2.2.2.1 o.2.2.2.2.2.2.2.2.2.2.2.2.2.2.2.1 o.2.2.2.2.2.2.2.2.2.2.2.2.2.2.2.2.1 o.2.2.2.2.2.2.2.2.2.2.2.2.2.2.2.2.2.1 o.2.2.2.2.2.2.2.2.2.2.2.2.2.2.2.2.2.2 M_longest M_onto M_worst M_best M_orders M_together M_ofOne M_ofOther M_seed M_then M_was M_kept M_held M_kindOn M_figureOn M_sorts M_size M_items M_moved M_thrown) o.1 := by
  refine zMi_of (cc := cX10_chain) (maxL := 4) (by decide) rfl (Nat.le_of_ble_eq_true rfl) ?_
  intro p e s m args below meth c A Q ls ⟨hx, hb, hml, hown, hts, hA, hK, hZ, hS⟩ hret hP hD hl
  have hts := fun w h => hts w (List.mem_cons_of_mem _ h)
  have hown : s.vm.findClass RX10 = some m.cls := hown
  have hl : lv_has ls 4 [(0, .ref (ad_M 0)), (1, .int p1)] := hl
  have hin10 := zin_X10
  have j54 : ∀ (v2 : Int32) (v3 : Int32) (M_coming : Nat → Int32) (M_comingMany : Int32) (M_going : Nat → Int32) (M_goingMany : Int32) (M_minute : Nat → Int32) (M_pile : Nat → Int32) (M_high : Nat → Int32) (M_where : Nat → Int32) (M_latest : Int32) (M_lifts : Nat → Int32) (M_begun : Nat → Int32) (M_left : Nat → Int32) (M_has : Nat → Int32) (M_lifted : Nat → Int32) (M_taken : Nat → Int32) (M_above : Nat → Int32) (M_allLifts : Int32) (M_busy : Int32) (H : Heap) (locs : List Loc), fX10_chain_J54 p1 v2 v3 M_coming M_comingMany M_going M_goingMany M_minute M_pile M_high M_where M_latest M_lifts M_begun M_left M_has M_lifted M_taken M_above M_allLifts M_busy = some o → va_P D vwCl (wX10_M ca ad_M M_guests M_kind M_figure M_told M_heaps M_holds M_back M_mistakes M_hooks M_letters M_rule M_at M_well M_sort M_text M_row M_field M_fields M_begins M_ruleLetters M_coming M_comingMany M_going M_goingMany M_minute M_pile M_high M_where M_latest M_lifts M_begun M_left M_has M_lifted M_taken M_above M_allLifts M_busy M_longest M_onto M_worst M_best M_orders M_together M_ofOne M_ofOther M_seed M_then M_was M_kept M_held M_kindOn M_figureOn M_sorts M_size M_items M_moved M_thrown) H → va_D A (wX10_M ca ad_M M_guests M_kind M_figure M_told M_heaps M_holds M_back M_mistakes M_hooks M_letters M_rule M_at M_well M_sort M_text M_row M_field M_fields M_begins M_ruleLetters M_coming M_comingMany M_going M_goingMany M_minute M_pile M_high M_where M_latest M_lifts M_begun M_left M_has M_lifted M_taken M_above M_allLifts M_busy M_longest M_onto M_worst M_best M_orders M_together M_ofOne M_ofOther M_seed M_then M_was M_kept M_held M_kindOn M_figureOn M_sorts M_size M_items M_moved M_thrown) → va_S A s.heap H locs → ∀ ls : Array Slot, lv_has ls 4 [(1, .int p1), (2, .int v2), (3, .int v3)] → W p l e roX10_chain s m args below meth c H locs 0 0 Q (F0 m 54 ls []) := by
    intro v2 v3 M_coming M_comingMany M_going M_goingMany M_minute M_pile M_high M_where M_latest M_lifts M_begun M_left M_has M_lifted M_taken M_above M_allLifts M_busy H locs hF hP hD hS ls hl
    unfold fX10_chain_J54 at hF
    refine lv_iload_n hx hb dX10_chain_54 rfl (lv_at hl 1 rfl) ?_
    refine lv_iload_n hx hb dX10_chain_55 rfl (lv_at hl 0 rfl) ?_
    refine lv_icmp_ne (tgt := 63) hx hb dX10_chain_56 (by decide) (fun c_12 => ?_) (fun c_12 => ?_)
    · have hF := zf c_12 hF
      refine lv_iconst (v := 0) hx hb dX10_chain_63 (by decide) ?_
      obtain rfl := Option.some.inj hF
      exact hret _ _ _ _ hP hD hS rfl dX10_chain_64
    · have hF := zt c_12 hF
      refine lv_iload_n hx hb dX10_chain_59 rfl (lv_at hl 2 rfl) ?_
      refine lv_goto (tgt := 64) hx hb dX10_chain_60 (by decide) ?_
      obtain rfl := Option.some.inj hF
      exact hret _ _ _ _ hP hD hS rfl dX10_chain_64
  have l24 : ∀ (n24 : Nat) (v2 : Int32) (v3 : Int32) (M_coming : Nat → Int32) (M_comingMany : Int32) (M_going : Nat → Int32) (M_goingMany : Int32) (M_minute : Nat → Int32) (M_pile : Nat → Int32) (M_high : Nat → Int32) (M_where : Nat → Int32) (M_latest : Int32) (M_lifts : Nat → Int32) (M_begun : Nat → Int32) (M_left : Nat → Int32) (M_has : Nat → Int32) (M_lifted : Nat → Int32) (M_taken : Nat → Int32) (M_above : Nat → Int32) (M_allLifts : Int32) (M_busy : Int32) (H : Heap) (locs : List Loc), fX10_chain_L24 p1 n24 v2 v3 M_coming M_comingMany M_going M_goingMany M_minute M_pile M_high M_where M_latest M_lifts M_begun M_left M_has M_lifted M_taken M_above M_allLifts M_busy = some o → va_P D vwCl (wX10_M ca ad_M M_guests M_kind M_figure M_told M_heaps M_holds M_back M_mistakes M_hooks M_letters M_rule M_at M_well M_sort M_text M_row M_field M_fields M_begins M_ruleLetters M_coming M_comingMany M_going M_goingMany M_minute M_pile M_high M_where M_latest M_lifts M_begun M_left M_has M_lifted M_taken M_above M_allLifts M_busy M_longest M_onto M_worst M_best M_orders M_together M_ofOne M_ofOther M_seed M_then M_was M_kept M_held M_kindOn M_figureOn M_sorts M_size M_items M_moved M_thrown) H → va_D A (wX10_M ca ad_M M_guests M_kind M_figure M_told M_heaps M_holds M_back M_mistakes M_hooks M_letters M_rule M_at M_well M_sort M_text M_row M_field M_fields M_begins M_ruleLetters M_coming M_comingMany M_going M_goingMany M_minute M_pile M_high M_where M_latest M_lifts M_begun M_left M_has M_lifted M_taken M_above M_allLifts M_busy M_longest M_onto M_worst M_best M_orders M_together M_ofOne M_ofOther M_seed M_then M_was M_kept M_held M_kindOn M_figureOn M_sorts M_size M_items M_moved M_thrown) → va_S A s.heap H locs → ∀ ls : Array Slot, lv_has ls 4 [(0, .ref (ad_M 0)), (1, .int p1), (2, .int v2), (3, .int v3)] → W p l e roX10_chain s m args below meth c H locs 0 0 Q (F0 m 24 ls []) := by
    intro n24
    induction n24 with
    | zero =>
      intro v2 v3 M_coming M_comingMany M_going M_goingMany M_minute M_pile M_high M_where M_latest M_lifts M_begun M_left M_has M_lifted M_taken M_above M_allLifts M_busy H locs hF
      rw [fX10_chain_L24] at hF
      cases hF
    | succ n24 ih24 =>
      intro v2 v3 M_coming M_comingMany M_going M_goingMany M_minute M_pile M_high M_where M_latest M_lifts M_begun M_left M_has M_lifted M_taken M_above M_allLifts M_busy H locs hF hP hD hS ls hl
      rw [fX10_chain_L24] at hF
      refine lv_iload_n hx hb dX10_chain_24 rfl (lv_at hl 2 rfl) ?_
      refine lv_bipush (v := (-4)) hx hb dX10_chain_25 (by decide) ?_
      refine lv_icmp_eq (tgt := 54) hx hb dX10_chain_27 (by decide) (fun c_6 => ?_) (fun c_6 => ?_)
      · have hF := zt c_6 hF
        exact j54 v2 v3 M_coming M_comingMany M_going M_goingMany M_minute M_pile M_high M_where M_latest M_lifts M_begun M_left M_has M_lifted M_taken M_above M_allLifts M_busy _ _ hF hP hD hS ls (lv_sub hl [1, 2, 3] rfl)
      · have hF := zf c_6 hF
        refine lv_iload_n hx hb dX10_chain_30 rfl (lv_at hl 2 rfl) ?_
        refine lv_iload_n hx hb dX10_chain_31 rfl (lv_at hl 1 rfl) ?_
        refine lv_icmp_eq (tgt := 54) hx hb dX10_chain_32 (by decide) (fun c_7 => ?_) (fun c_7 => ?_)
        · have hF := zt c_7 hF
          exact j54 v2 v3 M_coming M_comingMany M_going M_goingMany M_minute M_pile M_high M_where M_latest M_lifts M_begun M_left M_has M_lifted M_taken M_above M_allLifts M_busy _ _ hF hP hD hS ls (lv_sub hl [1, 2, 3] rfl)
        · have hF := zf c_7 hF
          refine lv_iload_n hx hb dX10_chain_35 rfl (lv_at hl 3 rfl) ?_
          refine lv_bipush (v := 10) hx hb dX10_chain_36 (by decide) ?_
          refine lv_icmp_gt (tgt := 54) hx hb dX10_chain_38 (by decide) (fun c_8 => ?_) (fun c_8 => ?_)
          · have hF := zt c_8 hF
            exact j54 v2 v3 M_coming M_comingMany M_going M_goingMany M_minute M_pile M_high M_where M_latest M_lifts M_begun M_left M_has M_lifted M_taken M_above M_allLifts M_busy _ _ hF hP hD hS ls (lv_sub hl [1, 2, 3] rfl)
          · have hF := zf c_8 hF
            refine lv_aload_n hx hb dX10_chain_41 rfl (lv_at hl 0 rfl) ?_
            refine va_get (D := D) (ci := 7) (v := .ref (ad_M 17)) (C := RX10) (T := TX10) (N := 58) hx hb hts hin10 hown hK hP 0 rfl rfl 32 (by decide) (hts _ zm_146) (fun _ h9 => h9) rfl dX10_chain_42 ?_
            refine lv_iload_n hx hb dX10_chain_45 rfl (lv_at hl 2 rfl) ?_
            obtain ⟨h_9, hF⟩ := zgi hF
            refine va_iald hx hb hK hP 17 0 rfl rfl h_9 dX10_chain_46 ?_
            refine z_let hF (fun v2_10 hF => ?_)
            refine lv_istore_n (lv' := [(2, .int v2_10), (0, .ref (ad_M 0)), (1, .int p1), (3, .int v3)]) hx hb dX10_chain_47 rfl hl (by decide) rfl (fun ls hl => ?_)
            refine z_iinc (kv := 1) hx hb 3 dX10_chain_48 hl rfl (by decide) (by decide) (fun g => [(3, .int g), (2, .int v2_10), (0, .ref (ad_M 0)), (1, .int p1)]) (fun _ => rfl) hF (fun v3_11 ls hF hl => ?_)
            refine lv_goto (tgt := 24) hx hb dX10_chain_51 (by decide) ?_
            exact ih24 v2_10 v3_11 M_coming M_comingMany M_going M_goingMany M_minute M_pile M_high M_where M_latest M_lifts M_begun M_left M_has M_lifted M_taken M_above M_allLifts M_busy _ _ hF hP hD hS ls (lv_sub hl [2, 3, 1, 0] rfl)
  unfold fX10_chain at hF
  refine lv_aload_n hx hb dX10_chain_0 rfl (lv_at hl 0 rfl) ?_
  refine lv_iload_n hx hb dX10_chain_1 rfl (lv_at hl 1 rfl) ?_
  obtain ⟨o_1, hc_1, hF⟩ := zb hF
  refine zcVR (rest := []) (kX10_isGuest l D ca t ad_M M_guests M_kind M_figure M_told M_heaps M_holds M_back M_mistakes M_hooks M_letters M_rule M_at M_well M_sort M_text M_row M_field M_fields M_begins M_ruleLetters M_coming M_comingMany M_going M_goingMany M_minute M_pile M_high M_where M_latest M_lifts M_begun M_left M_has M_lifted M_taken M_above M_allLifts M_busy M_longest M_onto M_worst M_best M_orders M_together M_ofOne M_ofOther M_seed M_then M_was M_kept M_held M_kindOn M_figureOn M_sorts M_size M_items M_moved M_thrown p1 fuel _ hc_1) ⟨hx, hb, hml, hown, hts⟩ (zcwV hts zm_63 zm_64 zm_65 zm_19 zm_62 rfl rfl zdv_X10_isGuest ⟨Nat.le_of_ble_eq_true rfl, Nat.le_of_ble_eq_true rfl⟩) hA hK hZ hP hD hS [0, 1, 2, 3, 4, 5, 6, 7, 8, 9, 10, 11, 12, 13, 14, 15, 16, 17, 18, 19, 20, 21, 22, 23, 24, 25, 26, 27, 28, 29, 30, 31, 32, 33] rfl rfl 7 0 rfl rfl rfl hl.1 (Nat.le_of_ble_eq_true rfl) dX10_chain_2 rfl ?_
  refine lv_if_ne (tgt := 10) hx hb dX10_chain_5 (by decide) (fun c_2 => ?_) (fun c_2 => ?_)
  · have hF := zf c_2 hF
    refine lv_aload_n hx hb dX10_chain_10 rfl (lv_at hl 0 rfl) ?_
    obtain ⟨o_3, hc_3, hF⟩ := zb hF
    refine zcVi (rest := []) (ws' := (wX10_M ca ad_M M_guests M_kind M_figure M_told M_heaps M_holds M_back M_mistakes M_hooks M_letters M_rule M_at M_well M_sort M_text M_row M_field M_fields M_begins M_ruleLetters o_3.2.1 o_3.2.2.1 o_3.2.2.2.1 o_3.2.2.2.2.1 o_3.2.2.2.2.2.1 o_3.2.2.2.2.2.2.1 o_3.2.2.2.2.2.2.2.1 o_3.2.2.2.2.2.2.2.2.1 o_3.2.2.2.2.2.2.2.2.2.1 o_3.2.2.2.2.2.2.2.2.2.2.1 o_3.2.2.2.2.2.2.2.2.2.2.2.1 o_3.2.2.2.2.2.2.2.2.2.2.2.2.1 o_3.2.2.2.2.2.2.2.2.2.2.2.2.2.1 o_3.2.2.2.2.2.2.2.2.2.2.2.2.2.2.1 o_3.2.2.2.2.2.2.2.2.2.2.2.2.2.2.2.1 o_3.2.2.2.2.2.2.2.2.2.2.2.2.2.2.2.2.1 o_3.2.2.2.2.2.2.2.2.2.2.2.2.2.2.2.2.2.1 o_3.2.2.2.2.2.2.2.2.2.2.2.2.2.2.2.2.2.2 M_longest M_onto M_worst M_best M_orders M_together M_ofOne M_ofOther M_seed M_then M_was M_kept M_held M_kindOn M_figureOn M_sorts M_size M_items M_moved M_thrown)) (kX10_night l D ca t ad_M M_guests M_kind M_figure M_told M_heaps M_holds M_back M_mistakes M_hooks M_letters M_rule M_at M_well M_sort M_text M_row M_field M_fields M_begins M_ruleLetters M_coming M_comingMany M_going M_goingMany M_minute M_pile M_high M_where M_latest M_lifts M_begun M_left M_has M_lifted M_taken M_above M_allLifts M_busy M_longest M_onto M_worst M_best M_orders M_together M_ofOne M_ofOther M_seed M_then M_was M_kept M_held M_kindOn M_figureOn M_sorts M_size M_items M_moved M_thrown fuel _ hc_3) ⟨hx, hb, hml, hown, hts⟩ (zcwV hts zm_194 zm_195 zm_196 zm_19 zm_193 rfl rfl zdv_X10_night ⟨Nat.le_of_ble_eq_true rfl, Nat.le_of_ble_eq_true rfl⟩) hA hK hZ hP hD hS [0, 1, 2, 3, 4, 5, 6, 7, 8, 9, 10, 11, 12, 13, 14, 15, 16, 17, 18, 19, 20, 21, 22, 23, 24, 25, 26, 27, 28, 29, 30, 31, 32, 33] [] [0, 1, 2, 3, 4, 5, 6, 7, 8, 9, 10, 11, 12, 13, 14, 15, 16, 17, 18, 19, 20, 21, 22, 23, 24, 25, 26, 27, 28, 29, 30, 31, 32, 33] rfl rfl rfl rfl rfl rfl rfl 7 0 rfl rfl rfl hl.1 (Nat.le_of_ble_eq_true rfl) dX10_chain_11 rfl (fun H locs hP hD hS => ?_)
    refine lv_pop hx hb dX10_chain_14 rfl ?_
    refine lv_aload_n hx hb dX10_chain_15 rfl (lv_at hl 0 rfl) ?_
    refine va_get (D := D) (ci := 7) (v := .ref (ad_M 17)) (C := RX10) (T := TX10) (N := 58) hx hb hts hin10 hown hK hP 0 rfl rfl 32 (by decide) (hts _ zm_146) (fun _ h9 => h9) rfl dX10_chain_16 ?_
    refine lv_iload_n hx hb dX10_chain_19 rfl (lv_at hl 1 rfl) ?_
    obtain ⟨h_4, hF⟩ := zgi hF
    refine va_iald hx hb hK hP 17 0 rfl rfl h_4 dX10_chain_20 ?_
    refine z_let hF (fun v2_5 hF => ?_)
    refine lv_istore_n (lv' := [(2, .int v2_5), (0, .ref (ad_M 0)), (1, .int p1)]) hx hb dX10_chain_21 rfl hl (by decide) rfl (fun ls hl => ?_)
    refine lv_iconst (v := 1) hx hb dX10_chain_22 (by decide) ?_
    refine lv_istore_n (lv' := [(3, .int 1), (2, .int v2_5), (0, .ref (ad_M 0)), (1, .int p1)]) hx hb dX10_chain_23 rfl hl (by decide) rfl (fun ls hl => ?_)
    exact l24 fuel v2_5 1 o_3.2.1 o_3.2.2.1 o_3.2.2.2.1 o_3.2.2.2.2.1 o_3.2.2.2.2.2.1 o_3.2.2.2.2.2.2.1 o_3.2.2.2.2.2.2.2.1 o_3.2.2.2.2.2.2.2.2.1 o_3.2.2.2.2.2.2.2.2.2.1 o_3.2.2.2.2.2.2.2.2.2.2.1 o_3.2.2.2.2.2.2.2.2.2.2.2.1 o_3.2.2.2.2.2.2.2.2.2.2.2.2.1 o_3.2.2.2.2.2.2.2.2.2.2.2.2.2.1 o_3.2.2.2.2.2.2.2.2.2.2.2.2.2.2.1 o_3.2.2.2.2.2.2.2.2.2.2.2.2.2.2.2.1 o_3.2.2.2.2.2.2.2.2.2.2.2.2.2.2.2.2.1 o_3.2.2.2.2.2.2.2.2.2.2.2.2.2.2.2.2.2.1 o_3.2.2.2.2.2.2.2.2.2.2.2.2.2.2.2.2.2.2 _ _ hF hP hD hS ls (lv_sub hl [2, 3, 1, 0] rfl)
  · have hF := zt c_2 hF
    refine lv_iconst (v := (-1)) hx hb dX10_chain_8 (by decide) ?_
    obtain rfl := Option.some.inj hF
    exact hret _ _ _ _ hP hD hS rfl dX10_chain_9
abbrev roX10_isLaidSo : Room := { frames := 0, cells := 0, slots := 0, locals := 0 }
set_option maxHeartbeats 4000000 in
set_option maxRecDepth 100000 in
theorem kX10_isLaidSo (l : Launch) (D : va_G) (ca : Nat → ClassId) (t : Nat → Nat) (ad_M : Nat → Nat) (M_guests : Int32) (M_kind : Nat → Int32) (M_figure : Nat → Int32) (M_told : Nat → Int32) (M_heaps : Int32) (M_holds : Int32) (M_back : Int32) (M_mistakes : Int32) (M_hooks : Int32) (M_letters : Int32) (M_rule : Nat → Int32) (M_at : Int32) (M_well : Int32) (M_sort : Int32) (M_text : Int32) (M_row : Int32) (M_field : Nat → Int32) (M_fields : Int32) (M_begins : Nat → Int32) (M_ruleLetters : Nat → Int32) (M_coming : Nat → Int32) (M_comingMany : Int32) (M_going : Nat → Int32) (M_goingMany : Int32) (M_minute : Nat → Int32) (M_pile : Nat → Int32) (M_high : Nat → Int32) (M_where : Nat → Int32) (M_latest : Int32) (M_lifts : Nat → Int32) (M_begun : Nat → Int32) (M_left : Nat → Int32) (M_has : Nat → Int32) (M_lifted : Nat → Int32) (M_taken : Nat → Int32) (M_above : Nat → Int32) (M_allLifts : Int32) (M_busy : Int32) (M_longest : Nat → Int32) (M_onto : Nat → Int32) (M_worst : Int32) (M_best : Int32) (M_orders : Int32) (M_together : Int32) (M_ofOne : Nat → Int32) (M_ofOther : Nat → Int32) (M_seed : Int32) (M_then : Nat → Int32) (M_was : Nat → Int32) (M_kept : Int32) (M_held : Nat → Int32) (M_kindOn : Nat → Int32) (M_figureOn : Nat → Int32) (M_sorts : Nat → Int32) (M_size : Nat → Int32) (M_items : Nat → Int32) (M_moved : Nat → Int32) (M_thrown : Int32) (p1 : Int32) (fuel : Nat) (o : Int32) (hF : fX10_isLaidSo fuel M_pile M_high M_size M_items p1 = some o) : zRi l D (zT ca) t yX10_isLaidSo (.code yX10_isLaidSo cX10_isLaidSo 4 (some .boolean) :: zW) roX10_isLaidSo [.ref (ad_M 0), .int p1] (wX10_M ca ad_M M_guests M_kind M_figure M_told M_heaps M_holds M_back M_mistakes M_hooks M_letters M_rule M_at M_well M_sort M_text M_row M_field M_fields M_begins M_ruleLetters M_coming M_comingMany M_going M_goingMany M_minute M_pile M_high M_where M_latest M_lifts M_begun M_left M_has M_lifted M_taken M_above M_allLifts M_busy M_longest M_onto M_worst M_best M_orders M_together M_ofOne M_ofOther M_seed M_then M_was M_kept M_held M_kindOn M_figureOn M_sorts M_size M_items M_moved M_thrown) o := by
  refine zRi_of (cc := cX10_isLaidSo) (maxL := 4) (by decide) rfl (Nat.le_of_ble_eq_true rfl) ?_
  intro p e s m args below meth c A Q ls ⟨hx, hb, hml, hown, hts, hA, hK, hZ, hS⟩ hret hP hD hl
  have hts := fun w h => hts w (List.mem_cons_of_mem _ h)
  have hown : s.vm.findClass RX10 = some m.cls := hown
  have hl : lv_has ls 4 [(0, .ref (ad_M 0)), (1, .int p1)] := hl
  have hin10 := zin_X10
  have l23 : ∀ (n23 : Nat) (v2 : Int32) (v3 : Int32), fX10_isLaidSo_L23 M_pile M_high M_items p1 n23 v2 v3 = some o → ∀ ls : Array Slot, lv_has ls 4 [(0, .ref (ad_M 0)), (1, .int p1), (2, .int v2), (3, .int v3)] → W p l e roX10_isLaidSo s m args below meth c s.heap [] 0 0 Q (F0 m 23 ls []) := by
    intro n23
    induction n23 with
    | zero =>
      intro v2 v3 hF
      rw [fX10_isLaidSo_L23] at hF
      cases hF
    | succ n23 ih23 =>
      intro v2 v3 hF ls hl
      rw [fX10_isLaidSo_L23] at hF
      refine lv_iload_n hx hb dX10_isLaidSo_23 rfl (lv_at hl 3 rfl) ?_
      refine lv_aload_n hx hb dX10_isLaidSo_24 rfl (lv_at hl 0 rfl) ?_
      refine va_get (D := D) (ci := 7) (v := .ref (ad_M 12)) (C := RX10) (T := TX10) (N := 58) hx hb hts hin10 hown hK hP 0 rfl rfl 26 (by decide) (hts _ zm_107) (fun _ h9 => h9) rfl dX10_isLaidSo_25 ?_
      refine lv_iconst (v := 0) hx hb dX10_isLaidSo_28 (by decide) ?_
      refine z_ialdK 0 hx hb hK hP 12 0 rfl rfl (zin_ok (by decide)) (by decide) dX10_isLaidSo_29 ?_
      refine lv_icmp_ge (tgt := 69) hx hb dX10_isLaidSo_30 (by decide) (fun c_3 => ?_) (fun c_3 => ?_)
      · have hF := zt c_3 hF
        refine lv_iload_n hx hb dX10_isLaidSo_69 rfl (lv_at hl 2 rfl) ?_
        obtain ⟨h_4, hF⟩ := zgp hF
        obtain rfl := Option.some.inj hF
        exact hret _ _ (zbool h_4) dX10_isLaidSo_70
      · have hF := zf c_3 hF
        refine lv_iload_n hx hb dX10_isLaidSo_33 rfl (lv_at hl 2 rfl) ?_
        refine lv_if_eq (tgt := 69) hx hb dX10_isLaidSo_34 (by decide) (fun c_5 => ?_) (fun c_5 => ?_)
        · have hF := zt c_5 hF
          refine lv_iload_n hx hb dX10_isLaidSo_69 rfl (lv_at hl 2 rfl) ?_
          obtain ⟨h_6, hF⟩ := zgp hF
          obtain rfl := Option.some.inj hF
          exact hret _ _ (zbool h_6) dX10_isLaidSo_70
        · have hF := zf c_5 hF
          refine lv_aload_n hx hb dX10_isLaidSo_37 rfl (lv_at hl 0 rfl) ?_
          refine va_get (D := D) (ci := 7) (v := .ref (ad_M 11)) (C := RX10) (T := TX10) (N := 58) hx hb hts hin10 hown hK hP 0 rfl rfl 25 (by decide) (hts _ zm_108) (fun _ h9 => h9) rfl dX10_isLaidSo_38 ?_
          refine lv_iload_n hx hb dX10_isLaidSo_41 rfl (lv_at hl 3 rfl) ?_
          obtain ⟨h_7, hF⟩ := zgi hF
          refine va_iald hx hb hK hP 11 0 rfl rfl h_7 dX10_isLaidSo_42 ?_
          refine lv_aload_n hx hb dX10_isLaidSo_43 rfl (lv_at hl 0 rfl) ?_
          refine va_get (D := D) (ci := 7) (v := .ref (ad_M 32)) (C := RX10) (T := TX10) (N := 58) hx hb hts hin10 hown hK hP 0 rfl rfl 55 (by decide) (hts _ zm_34) (fun _ h9 => h9) rfl dX10_isLaidSo_44 ?_
          refine lv_bipush (v := 100) hx hb dX10_isLaidSo_47 (by decide) ?_
          refine lv_iload_n hx hb dX10_isLaidSo_49 rfl (lv_at hl 1 rfl) ?_
          refine lv_imul hx hb dX10_isLaidSo_50 ?_
          refine lv_iload_n hx hb dX10_isLaidSo_51 rfl (lv_at hl 3 rfl) ?_
          refine lv_iadd hx hb dX10_isLaidSo_52 ?_
          obtain ⟨h_8, hF⟩ := zgi hF
          refine va_iald hx hb hK hP 32 0 rfl rfl h_8 dX10_isLaidSo_53 ?_
          refine lv_icmp_ne (tgt := 61) hx hb dX10_isLaidSo_54 (by decide) (fun c_9 => ?_) (fun c_9 => ?_)
          · have hF := zf c_9 hF
            refine lv_iconst (v := 0) hx hb dX10_isLaidSo_61 (by decide) ?_
            refine lv_istore_n (lv' := [(2, .int 0), (0, .ref (ad_M 0)), (1, .int p1), (3, .int v3)]) hx hb dX10_isLaidSo_62 rfl hl (by decide) rfl (fun ls hl => ?_)
            refine z_iinc (kv := 1) hx hb 3 dX10_isLaidSo_63 hl rfl (by decide) (by decide) (fun g => [(3, .int g), (2, .int 0), (0, .ref (ad_M 0)), (1, .int p1)]) (fun _ => rfl) hF (fun v3_10 ls hF hl => ?_)
            refine lv_goto (tgt := 23) hx hb dX10_isLaidSo_66 (by decide) ?_
            exact ih23 0 v3_10 hF ls (lv_sub hl [2, 3, 1, 0] rfl)
          · have hF := zt c_9 hF
            refine lv_iconst (v := 1) hx hb dX10_isLaidSo_57 (by decide) ?_
            refine lv_goto (tgt := 62) hx hb dX10_isLaidSo_58 (by decide) ?_
            refine lv_istore_n (lv' := [(2, .int 1), (0, .ref (ad_M 0)), (1, .int p1), (3, .int v3)]) hx hb dX10_isLaidSo_62 rfl hl (by decide) rfl (fun ls hl => ?_)
            refine z_iinc (kv := 1) hx hb 3 dX10_isLaidSo_63 hl rfl (by decide) (by decide) (fun g => [(3, .int g), (2, .int 1), (0, .ref (ad_M 0)), (1, .int p1)]) (fun _ => rfl) hF (fun v3_11 ls hF hl => ?_)
            refine lv_goto (tgt := 23) hx hb dX10_isLaidSo_66 (by decide) ?_
            exact ih23 1 v3_11 hF ls (lv_sub hl [2, 3, 1, 0] rfl)
  unfold fX10_isLaidSo at hF
  refine lv_aload_n hx hb dX10_isLaidSo_0 rfl (lv_at hl 0 rfl) ?_
  refine va_get (D := D) (ci := 7) (v := .ref (ad_M 12)) (C := RX10) (T := TX10) (N := 58) hx hb hts hin10 hown hK hP 0 rfl rfl 26 (by decide) (hts _ zm_107) (fun _ h9 => h9) rfl dX10_isLaidSo_1 ?_
  refine lv_iconst (v := 0) hx hb dX10_isLaidSo_4 (by decide) ?_
  refine z_ialdK 0 hx hb hK hP 12 0 rfl rfl (zin_ok (by decide)) (by decide) dX10_isLaidSo_5 ?_
  refine lv_aload_n hx hb dX10_isLaidSo_6 rfl (lv_at hl 0 rfl) ?_
  refine va_get (D := D) (ci := 7) (v := .ref (ad_M 31)) (C := RX10) (T := TX10) (N := 58) hx hb hts hin10 hown hK hP 0 rfl rfl 54 (by decide) (hts _ zm_270) (fun _ h9 => h9) rfl dX10_isLaidSo_7 ?_
  refine lv_iload_n hx hb dX10_isLaidSo_10 rfl (lv_at hl 1 rfl) ?_
  obtain ⟨h_1, hF⟩ := zgi hF
  refine va_iald hx hb hK hP 31 0 rfl rfl h_1 dX10_isLaidSo_11 ?_
  refine lv_icmp_ne (tgt := 19) hx hb dX10_isLaidSo_12 (by decide) (fun c_2 => ?_) (fun c_2 => ?_)
  · have hF := zf c_2 hF
    refine lv_iconst (v := 0) hx hb dX10_isLaidSo_19 (by decide) ?_
    refine lv_istore_n (lv' := [(2, .int 0), (0, .ref (ad_M 0)), (1, .int p1)]) hx hb dX10_isLaidSo_20 rfl hl (by decide) rfl (fun ls hl => ?_)
    refine lv_iconst (v := 0) hx hb dX10_isLaidSo_21 (by decide) ?_
    refine lv_istore_n (lv' := [(3, .int 0), (2, .int 0), (0, .ref (ad_M 0)), (1, .int p1)]) hx hb dX10_isLaidSo_22 rfl hl (by decide) rfl (fun ls hl => ?_)
    exact l23 fuel 0 0 hF ls (lv_sub hl [2, 3, 1, 0] rfl)
  · have hF := zt c_2 hF
    refine lv_iconst (v := 1) hx hb dX10_isLaidSo_15 (by decide) ?_
    refine lv_goto (tgt := 20) hx hb dX10_isLaidSo_16 (by decide) ?_
    refine lv_istore_n (lv' := [(2, .int 1), (0, .ref (ad_M 0)), (1, .int p1)]) hx hb dX10_isLaidSo_20 rfl hl (by decide) rfl (fun ls hl => ?_)
    refine lv_iconst (v := 0) hx hb dX10_isLaidSo_21 (by decide) ?_
    refine lv_istore_n (lv' := [(3, .int 0), (2, .int 1), (0, .ref (ad_M 0)), (1, .int p1)]) hx hb dX10_isLaidSo_22 rfl hl (by decide) rfl (fun ls hl => ?_)
    exact l23 fuel 1 0 hF ls (lv_sub hl [2, 3, 1, 0] rfl)
abbrev roX10_draw : Room := { frames := 0, cells := 0, slots := 0, locals := 0 }
set_option maxHeartbeats 4000000 in
set_option maxRecDepth 100000 in
theorem kX10_draw (l : Launch) (D : va_G) (ca : Nat → ClassId) (t : Nat → Nat) (ad_M : Nat → Nat) (M_guests : Int32) (M_kind : Nat → Int32) (M_figure : Nat → Int32) (M_told : Nat → Int32) (M_heaps : Int32) (M_holds : Int32) (M_back : Int32) (M_mistakes : Int32) (M_hooks : Int32) (M_letters : Int32) (M_rule : Nat → Int32) (M_at : Int32) (M_well : Int32) (M_sort : Int32) (M_text : Int32) (M_row : Int32) (M_field : Nat → Int32) (M_fields : Int32) (M_begins : Nat → Int32) (M_ruleLetters : Nat → Int32) (M_coming : Nat → Int32) (M_comingMany : Int32) (M_going : Nat → Int32) (M_goingMany : Int32) (M_minute : Nat → Int32) (M_pile : Nat → Int32) (M_high : Nat → Int32) (M_where : Nat → Int32) (M_latest : Int32) (M_lifts : Nat → Int32) (M_begun : Nat → Int32) (M_left : Nat → Int32) (M_has : Nat → Int32) (M_lifted : Nat → Int32) (M_taken : Nat → Int32) (M_above : Nat → Int32) (M_allLifts : Int32) (M_busy : Int32) (M_longest : Nat → Int32) (M_onto : Nat → Int32) (M_worst : Int32) (M_best : Int32) (M_orders : Int32) (M_together : Int32) (M_ofOne : Nat → Int32) (M_ofOther : Nat → Int32) (M_seed : Int32) (M_then : Nat → Int32) (M_was : Nat → Int32) (M_kept : Int32) (M_held : Nat → Int32) (M_kindOn : Nat → Int32) (M_figureOn : Nat → Int32) (M_sorts : Nat → Int32) (M_size : Nat → Int32) (M_items : Nat → Int32) (M_moved : Nat → Int32) (M_thrown : Int32) (p1 : Int32) (fuel : Nat) (o : Int32 × Int32) (hF : fX10_draw fuel M_seed p1 = some o) : zMi l D (zT ca) t yX10_draw (.code yX10_draw cX10_draw 2 (some .int) :: zW) roX10_draw [.ref (ad_M 0), .int p1] (wX10_M ca ad_M M_guests M_kind M_figure M_told M_heaps M_holds M_back M_mistakes M_hooks M_letters M_rule M_at M_well M_sort M_text M_row M_field M_fields M_begins M_ruleLetters M_coming M_comingMany M_going M_goingMany M_minute M_pile M_high M_where M_latest M_lifts M_begun M_left M_has M_lifted M_taken M_above M_allLifts M_busy M_longest M_onto M_worst M_best M_orders M_together M_ofOne M_ofOther M_seed M_then M_was M_kept M_held M_kindOn M_figureOn M_sorts M_size M_items M_moved M_thrown) (wX10_M ca ad_M M_guests M_kind M_figure M_told M_heaps M_holds M_back M_mistakes M_hooks M_letters M_rule M_at M_well M_sort M_text M_row M_field M_fields M_begins M_ruleLetters M_coming M_comingMany M_going M_goingMany M_minute M_pile M_high M_where M_latest M_lifts M_begun M_left M_has M_lifted M_taken M_above M_allLifts M_busy M_longest M_onto M_worst M_best M_orders M_together M_ofOne M_ofOther o.2 M_then M_was M_kept M_held M_kindOn M_figureOn M_sorts M_size M_items M_moved M_thrown) o.1 := by
  refine zMi_of (cc := cX10_draw) (maxL := 2) (by decide) rfl (Nat.le_of_ble_eq_true rfl) ?_
  intro p e s m args below meth c A Q ls ⟨hx, hb, hml, hown, hts, hA, hK, hZ, hS⟩ hret hP hD hl
  have hts := fun w h => hts w (List.mem_cons_of_mem _ h)
  have hown : s.vm.findClass RX10 = some m.cls := hown
  have hl : lv_has ls 2 [(0, .ref (ad_M 0)), (1, .int p1)] := hl
  have hin10 := zin_X10
  unfold fX10_draw at hF
  refine lv_aload_n hx hb dX10_draw_0 rfl (lv_at hl 0 rfl) ?_
  refine lv_aload_n hx hb dX10_draw_1 rfl (lv_at hl 0 rfl) ?_
  refine va_get (D := D) (ci := 7) (v := .int M_seed) (C := RX10) (T := TX10) (N := 58) hx hb hts hin10 hown hK hP 0 rfl rfl 46 (by decide) (hts _ zm_271) (fun _ h9 => h9) rfl dX10_draw_2 ?_
  refine lv_ldcw hx hb hown (hts _ zm_272) dX10_draw_5 ?_
  refine lv_imul hx hb dX10_draw_8 ?_
  refine lv_sipush (v := 12345) hx hb dX10_draw_9 (by decide) ?_
  refine lv_iadd hx hb dX10_draw_12 ?_
  refine z_let hF (fun seed_1 hF => ?_)
  refine va_put (D := D) (ci := 7) (v := .int seed_1) (C := RX10) (T := TX10) (N := 58) hx hb hts hin10 tyX10 tyX10_ok nmX10 hown hK hP hD hS 0 rfl rfl 46 (by decide) (hts _ zm_271) (fun _ h9 => h9) rfl (tyX10_ok 46 (by decide)) rfl rfl (Nat.le_of_ble_eq_true rfl) dX10_draw_13 (fun H locs hP hD hS => ?_)
  have hP : va_P D vwCl (wX10_M ca ad_M M_guests M_kind M_figure M_told M_heaps M_holds M_back M_mistakes M_hooks M_letters M_rule M_at M_well M_sort M_text M_row M_field M_fields M_begins M_ruleLetters M_coming M_comingMany M_going M_goingMany M_minute M_pile M_high M_where M_latest M_lifts M_begun M_left M_has M_lifted M_taken M_above M_allLifts M_busy M_longest M_onto M_worst M_best M_orders M_together M_ofOne M_ofOther seed_1 M_then M_was M_kept M_held M_kindOn M_figureOn M_sorts M_size M_items M_moved M_thrown) H := hP
  have hD : va_D A (wX10_M ca ad_M M_guests M_kind M_figure M_told M_heaps M_holds M_back M_mistakes M_hooks M_letters M_rule M_at M_well M_sort M_text M_row M_field M_fields M_begins M_ruleLetters M_coming M_comingMany M_going M_goingMany M_minute M_pile M_high M_where M_latest M_lifts M_begun M_left M_has M_lifted M_taken M_above M_allLifts M_busy M_longest M_onto M_worst M_best M_orders M_together M_ofOne M_ofOther seed_1 M_then M_was M_kept M_held M_kindOn M_figureOn M_sorts M_size M_items M_moved M_thrown) := hD
  refine lv_aload_n hx hb dX10_draw_16 rfl (lv_at hl 0 rfl) ?_
  refine va_get (D := D) (ci := 7) (v := .int seed_1) (C := RX10) (T := TX10) (N := 58) hx hb hts hin10 hown hK hP 0 rfl rfl 46 (by decide) (hts _ zm_271) (fun _ h9 => h9) rfl dX10_draw_17 ?_
  refine lv_ldcw hx hb hown (hts _ zm_273) dX10_draw_20 ?_
  refine lv_iand hx hb dX10_draw_23 ?_
  refine lv_ldcw hx hb hown (hts _ zm_274) dX10_draw_24 ?_
  refine lv_idiv hx hb dX10_draw_27 (by decide) ?_
  refine lv_iload_n hx hb dX10_draw_28 rfl (lv_at hl 1 rfl) ?_
  obtain ⟨h_2, hF⟩ := zgd hF
  refine lv_irem hx hb dX10_draw_29 h_2 ?_
  refine z_let hF (fun x_3 hF => ?_)
  obtain rfl := Option.some.inj hF
  exact hret _ _ _ _ hP hD hS rfl dX10_draw_30
theorem zdv_X10_draw : yX10_draw.cls = RX10 ∧ yX10_draw.cls ≠ "java/lang/invoke/MethodHandle" ∧ yX10_draw.cls ≠ "java/lang/invoke/VarHandle" ∧ (parseMethodDescriptor yX10_draw.desc).map (fun d => d.parameters.length) = some 1 := by decide +kernel
abbrev roX10_nights : Room := { frames := 7, cells := 0, slots := 0, locals := 158 }
set_option maxHeartbeats 4000000 in
set_option maxRecDepth 100000 in
theorem kX10_nights (l : Launch) (D : va_G) (ca : Nat → ClassId) (t : Nat → Nat) (ad_M : Nat → Nat) (M_guests : Int32) (M_kind : Nat → Int32) (M_figure : Nat → Int32) (M_told : Nat → Int32) (M_heaps : Int32) (M_holds : Int32) (M_back : Int32) (M_mistakes : Int32) (M_hooks : Int32) (M_letters : Int32) (M_rule : Nat → Int32) (M_at : Int32) (M_well : Int32) (M_sort : Int32) (M_text : Int32) (M_row : Int32) (M_field : Nat → Int32) (M_fields : Int32) (M_begins : Nat → Int32) (M_ruleLetters : Nat → Int32) (M_coming : Nat → Int32) (M_comingMany : Int32) (M_going : Nat → Int32) (M_goingMany : Int32) (M_minute : Nat → Int32) (M_pile : Nat → Int32) (M_high : Nat → Int32) (M_where : Nat → Int32) (M_latest : Int32) (M_lifts : Nat → Int32) (M_begun : Nat → Int32) (M_left : Nat → Int32) (M_has : Nat → Int32) (M_lifted : Nat → Int32) (M_taken : Nat → Int32) (M_above : Nat → Int32) (M_allLifts : Int32) (M_busy : Int32) (M_longest : Nat → Int32) (M_onto : Nat → Int32) (M_worst : Int32) (M_best : Int32) (M_orders : Int32) (M_together : Int32) (M_ofOne : Nat → Int32) (M_ofOther : Nat → Int32) (M_seed : Int32) (M_then : Nat → Int32) (M_was : Nat → Int32) (M_kept : Int32) (M_held : Nat → Int32) (M_kindOn : Nat → Int32) (M_figureOn : Nat → Int32) (M_sorts : Nat → Int32) (M_size : Nat → Int32) (M_items : Nat → Int32) (M_moved : Nat → Int32) (M_thrown : Int32) (p1 : Int32) (p2 : Int32) (p3 : Int32) (fuel : Nat) (o : Int32 × (Nat → Int32) × Int32 × (Nat → Int32) × Int32 × (Nat → Int32) × (Nat → Int32) × (Nat → Int32) × (Nat → Int32) × Int32 × (Nat → Int32) × (Nat → Int32) × (Nat → Int32) × (Nat → Int32) × (Nat → Int32) × (Nat → Int32) × (Nat → Int32) × Int32 × Int32 × Int32) (hF : fX10_nights fuel M_guests M_kind M_figure M_heaps M_holds M_back M_mistakes M_hooks M_letters M_rule M_coming M_comingMany M_going M_goingMany M_minute M_pile M_high M_where M_latest M_lifts M_begun M_left M_has M_lifted M_taken M_above M_allLifts M_busy M_seed p1 p2 p3 = some o) : zMi l D (zT ca) t yX10_nights (.code yX10_nights cX10_nights 8 (some .int) :: zW) roX10_nights [.ref (ad_M 0), .int p1, .int p2, .int p3] (wX10_M ca ad_M M_guests M_kind M_figure M_told M_heaps M_holds M_back M_mistakes M_hooks M_letters M_rule M_at M_well M_sort M_text M_row M_field M_fields M_begins M_ruleLetters M_coming M_comingMany M_going M_goingMany M_minute M_pile M_high M_where M_latest M_lifts M_begun M_left M_has M_lifted M_taken M_above M_allLifts M_busy M_longest M_onto M_worst M_best M_orders M_together M_ofOne M_ofOther M_seed M_then M_was M_kept M_held M_kindOn M_figureOn M_sorts M_size M_items M_moved M_thrown) (wX10_M ca ad_M M_guests M_kind M_figure M_told M_heaps M_holds M_back M_mistakes M_hooks M_letters M_rule M_at M_well M_sort M_text M_row M_field M_fields M_begins M_ruleLetters o.2.1 o.2.2.1 o.2.2.2.1 o.2.2.2.2.1 o.2.2.2.2.2.1 o.2.2.2.2.2.2.1 o.2.2.2.2.2.2.2.1 o.2.2.2.2.2.2.2.2.1 o.2.2.2.2.2.2.2.2.2.1 o.2.2.2.2.2.2.2.2.2.2.1 o.2.2.2.2.2.2.2.2.2.2.2.1 o.2.2.2.2.2.2.2.2.2.2.2.2.1 o.2.2.2.2.2.2.2.2.2.2.2.2.2.1 o.2.2.2.2.2.2.2.2.2.2.2.2.2.2.1 o.2.2.2.2.2.2.2.2.2.2.2.2.2.2.2.1 o.2.2.2.2.2.2.2.2.2.2.2.2.2.2.2.2.1 o.2.2.2.2.2.2.2.2.2.2.2.2.2.2.2.2.2.1 o.2.2.2.2.2.2.2.2.2.2.2.2.2.2.2.2.2.2.1 M_longest M_onto M_worst M_best M_orders M_together M_ofOne M_ofOther o.2.2.2.2.2.2.2.2.2.2.2.2.2.2.2.2.2.2.2 M_then M_was M_kept M_held M_kindOn M_figureOn M_sorts M_size M_items M_moved M_thrown) o.1 := by
  refine zMi_of (cc := cX10_nights) (maxL := 8) (by decide) rfl (Nat.le_of_ble_eq_true rfl) ?_
  intro p e s m args below meth c A Q ls ⟨hx, hb, hml, hown, hts, hA, hK, hZ, hS⟩ hret hP hD hl
  have hts := fun w h => hts w (List.mem_cons_of_mem _ h)
  have hown : s.vm.findClass RX10 = some m.cls := hown
  have hl : lv_has ls 8 [(0, .ref (ad_M 0)), (1, .int p1), (2, .int p2), (3, .int p3)] := hl
  have hin10 := zin_X10
  have j150 : ∀ (v4 : Int32) (v5 : Int32) (M_coming : Nat → Int32) (M_comingMany : Int32) (M_going : Nat → Int32) (M_goingMany : Int32) (M_minute : Nat → Int32) (M_pile : Nat → Int32) (M_high : Nat → Int32) (M_where : Nat → Int32) (M_latest : Int32) (M_lifts : Nat → Int32) (M_begun : Nat → Int32) (M_left : Nat → Int32) (M_has : Nat → Int32) (M_lifted : Nat → Int32) (M_taken : Nat → Int32) (M_above : Nat → Int32) (M_allLifts : Int32) (M_busy : Int32) (M_seed : Int32) (H : Heap) (locs : List Loc), fX10_nights_J150 p3 v4 v5 M_coming M_comingMany M_going M_goingMany M_minute M_pile M_high M_where M_latest M_lifts M_begun M_left M_has M_lifted M_taken M_above M_allLifts M_busy M_seed = some o → va_P D vwCl (wX10_M ca ad_M M_guests M_kind M_figure M_told M_heaps M_holds M_back M_mistakes M_hooks M_letters M_rule M_at M_well M_sort M_text M_row M_field M_fields M_begins M_ruleLetters M_coming M_comingMany M_going M_goingMany M_minute M_pile M_high M_where M_latest M_lifts M_begun M_left M_has M_lifted M_taken M_above M_allLifts M_busy M_longest M_onto M_worst M_best M_orders M_together M_ofOne M_ofOther M_seed M_then M_was M_kept M_held M_kindOn M_figureOn M_sorts M_size M_items M_moved M_thrown) H → va_D A (wX10_M ca ad_M M_guests M_kind M_figure M_told M_heaps M_holds M_back M_mistakes M_hooks M_letters M_rule M_at M_well M_sort M_text M_row M_field M_fields M_begins M_ruleLetters M_coming M_comingMany M_going M_goingMany M_minute M_pile M_high M_where M_latest M_lifts M_begun M_left M_has M_lifted M_taken M_above M_allLifts M_busy M_longest M_onto M_worst M_best M_orders M_together M_ofOne M_ofOther M_seed M_then M_was M_kept M_held M_kindOn M_figureOn M_sorts M_size M_items M_moved M_thrown) → va_S A s.heap H locs → ∀ ls : Array Slot, lv_has ls 8 [(3, .int p3), (4, .int v4), (5, .int v5)] → W p l e roX10_nights s m args below meth c H locs 0 0 Q (F0 m 150 ls []) := by
    intro v4 v5 M_coming M_comingMany M_going M_goingMany M_minute M_pile M_high M_where M_latest M_lifts M_begun M_left M_has M_lifted M_taken M_above M_allLifts M_busy M_seed H locs hF hP hD hS ls hl
    unfold fX10_nights_J150 at hF
    refine lv_iload_n hx hb dX10_nights_150 rfl (lv_at hl 0 rfl) ?_
    refine lv_if_ne (tgt := 159) hx hb dX10_nights_151 (by decide) (fun c_6 => ?_) (fun c_6 => ?_)
    · have hF := zf c_6 hF
      refine lv_iload hx hb dX10_nights_159 (lv_at hl 2 rfl) ?_
      obtain rfl := Option.some.inj hF
      exact hret _ _ _ _ hP hD hS rfl dX10_nights_161
    · have hF := zt c_6 hF
      refine lv_iload hx hb dX10_nights_154 (lv_at hl 1 rfl) ?_
      refine lv_goto (tgt := 161) hx hb dX10_nights_156 (by decide) ?_
      obtain rfl := Option.some.inj hF
      exact hret _ _ _ _ hP hD hS rfl dX10_nights_161
  have l35 : ∀ (n35 : Nat) (v4 : Int32) (v5 : Int32) (v6 : Int32) (M_coming : Nat → Int32) (M_comingMany : Int32) (M_going : Nat → Int32) (M_goingMany : Int32) (M_minute : Nat → Int32) (M_pile : Nat → Int32) (M_high : Nat → Int32) (M_where : Nat → Int32) (M_latest : Int32) (M_lifts : Nat → Int32) (M_begun : Nat → Int32) (M_left : Nat → Int32) (M_has : Nat → Int32) (M_lifted : Nat → Int32) (M_taken : Nat → Int32) (M_above : Nat → Int32) (M_allLifts : Int32) (M_busy : Int32) (M_seed : Int32) (H : Heap) (locs : List Loc), fX10_nights_L35 fuel M_guests M_kind M_figure M_heaps M_holds M_back M_mistakes M_hooks M_letters M_rule p1 p3 n35 v4 v5 v6 M_coming M_comingMany M_going M_goingMany M_minute M_pile M_high M_where M_latest M_lifts M_begun M_left M_has M_lifted M_taken M_above M_allLifts M_busy M_seed = some o → va_P D vwCl (wX10_M ca ad_M M_guests M_kind M_figure M_told M_heaps M_holds M_back M_mistakes M_hooks M_letters M_rule M_at M_well M_sort M_text M_row M_field M_fields M_begins M_ruleLetters M_coming M_comingMany M_going M_goingMany M_minute M_pile M_high M_where M_latest M_lifts M_begun M_left M_has M_lifted M_taken M_above M_allLifts M_busy M_longest M_onto M_worst M_best M_orders M_together M_ofOne M_ofOther M_seed M_then M_was M_kept M_held M_kindOn M_figureOn M_sorts M_size M_items M_moved M_thrown) H → va_D A (wX10_M ca ad_M M_guests M_kind M_figure M_told M_heaps M_holds M_back M_mistakes M_hooks M_letters M_rule M_at M_well M_sort M_text M_row M_field M_fields M_begins M_ruleLetters M_coming M_comingMany M_going M_goingMany M_minute M_pile M_high M_where M_latest M_lifts M_begun M_left M_has M_lifted M_taken M_above M_allLifts M_busy M_longest M_onto M_worst M_best M_orders M_together M_ofOne M_ofOther M_seed M_then M_was M_kept M_held M_kindOn M_figureOn M_sorts M_size M_items M_moved M_thrown) → va_S A s.heap H locs → ∀ ls : Array Slot, lv_has ls 8 [(0, .ref (ad_M 0)), (1, .int p1), (3, .int p3), (4, .int v4), (5, .int v5), (6, .int v6)] → W p l e roX10_nights s m args below meth c H locs 0 0 Q (F0 m 35 ls []) := by
    intro n35
    induction n35 with
    | zero =>
      intro v4 v5 v6 M_coming M_comingMany M_going M_goingMany M_minute M_pile M_high M_where M_latest M_lifts M_begun M_left M_has M_lifted M_taken M_above M_allLifts M_busy M_seed H locs hF
      rw [fX10_nights_L35] at hF
      cases hF
    | succ n35 ih35 =>
      have j144 : ∀ (v4 : Int32) (v5 : Int32) (v6 : Int32) (M_coming : Nat → Int32) (M_comingMany : Int32) (M_going : Nat → Int32) (M_goingMany : Int32) (M_minute : Nat → Int32) (M_pile : Nat → Int32) (M_high : Nat → Int32) (M_where : Nat → Int32) (M_latest : Int32) (M_lifts : Nat → Int32) (M_begun : Nat → Int32) (M_left : Nat → Int32) (M_has : Nat → Int32) (M_lifted : Nat → Int32) (M_taken : Nat → Int32) (M_above : Nat → Int32) (M_allLifts : Int32) (M_busy : Int32) (M_seed : Int32) (H : Heap) (locs : List Loc), fX10_nights_J144 (fX10_nights_L35 fuel M_guests M_kind M_figure M_heaps M_holds M_back M_mistakes M_hooks M_letters M_rule p1 p3 n35) v4 v5 v6 M_coming M_comingMany M_going M_goingMany M_minute M_pile M_high M_where M_latest M_lifts M_begun M_left M_has M_lifted M_taken M_above M_allLifts M_busy M_seed = some o → va_P D vwCl (wX10_M ca ad_M M_guests M_kind M_figure M_told M_heaps M_holds M_back M_mistakes M_hooks M_letters M_rule M_at M_well M_sort M_text M_row M_field M_fields M_begins M_ruleLetters M_coming M_comingMany M_going M_goingMany M_minute M_pile M_high M_where M_latest M_lifts M_begun M_left M_has M_lifted M_taken M_above M_allLifts M_busy M_longest M_onto M_worst M_best M_orders M_together M_ofOne M_ofOther M_seed M_then M_was M_kept M_held M_kindOn M_figureOn M_sorts M_size M_items M_moved M_thrown) H → va_D A (wX10_M ca ad_M M_guests M_kind M_figure M_told M_heaps M_holds M_back M_mistakes M_hooks M_letters M_rule M_at M_well M_sort M_text M_row M_field M_fields M_begins M_ruleLetters M_coming M_comingMany M_going M_goingMany M_minute M_pile M_high M_where M_latest M_lifts M_begun M_left M_has M_lifted M_taken M_above M_allLifts M_busy M_longest M_onto M_worst M_best M_orders M_together M_ofOne M_ofOther M_seed M_then M_was M_kept M_held M_kindOn M_figureOn M_sorts M_size M_items M_moved M_thrown) → va_S A s.heap H locs → ∀ ls : Array Slot, lv_has ls 8 [(0, .ref (ad_M 0)), (1, .int p1), (3, .int p3), (4, .int v4), (5, .int v5), (6, .int v6)] → W p l e roX10_nights s m args below meth c H locs 0 0 Q (F0 m 144 ls []) := by
        intro v4 v5 v6 M_coming M_comingMany M_going M_goingMany M_minute M_pile M_high M_where M_latest M_lifts M_begun M_left M_has M_lifted M_taken M_above M_allLifts M_busy M_seed H locs hF hP hD hS ls hl
        unfold fX10_nights_J144 at hF
        refine z_iinc (kv := 1) hx hb 5 dX10_nights_144 hl rfl (by decide) (by decide) (fun g => [(6, .int g), (0, .ref (ad_M 0)), (1, .int p1), (3, .int p3), (4, .int v4), (5, .int v5)]) (fun _ => rfl) hF (fun v6_24 ls hF hl => ?_)
        refine lv_goto (tgt := 35) hx hb dX10_nights_147 (by decide) ?_
        exact ih35 v4 v5 v6_24 M_coming M_comingMany M_going M_goingMany M_minute M_pile M_high M_where M_latest M_lifts M_begun M_left M_has M_lifted M_taken M_above M_allLifts M_busy M_seed _ _ hF hP hD hS ls (lv_sub hl [1, 2, 3, 4, 5, 0] rfl)
      have l110 : ∀ (n110 : Nat) (v4 : Int32) (v5 : Int32) (v6 : Int32) (v7 : Int32) (M_coming : Nat → Int32) (M_comingMany : Int32) (M_going : Nat → Int32) (M_goingMany : Int32) (M_minute : Nat → Int32) (M_pile : Nat → Int32) (M_high : Nat → Int32) (M_where : Nat → Int32) (M_latest : Int32) (M_lifts : Nat → Int32) (M_begun : Nat → Int32) (M_left : Nat → Int32) (M_has : Nat → Int32) (M_lifted : Nat → Int32) (M_taken : Nat → Int32) (M_above : Nat → Int32) (M_allLifts : Int32) (M_busy : Int32) (M_seed : Int32) (H : Heap) (locs : List Loc), fX10_nights_L110 fuel M_guests M_kind M_figure (fX10_nights_L35 fuel M_guests M_kind M_figure M_heaps M_holds M_back M_mistakes M_hooks M_letters M_rule p1 p3 n35) n110 v4 v5 v6 v7 M_coming M_comingMany M_going M_goingMany M_minute M_pile M_high M_where M_latest M_lifts M_begun M_left M_has M_lifted M_taken M_above M_allLifts M_busy M_seed = some o → va_P D vwCl (wX10_M ca ad_M M_guests M_kind M_figure M_told M_heaps M_holds M_back M_mistakes M_hooks M_letters M_rule M_at M_well M_sort M_text M_row M_field M_fields M_begins M_ruleLetters M_coming M_comingMany M_going M_goingMany M_minute M_pile M_high M_where M_latest M_lifts M_begun M_left M_has M_lifted M_taken M_above M_allLifts M_busy M_longest M_onto M_worst M_best M_orders M_together M_ofOne M_ofOther M_seed M_then M_was M_kept M_held M_kindOn M_figureOn M_sorts M_size M_items M_moved M_thrown) H → va_D A (wX10_M ca ad_M M_guests M_kind M_figure M_told M_heaps M_holds M_back M_mistakes M_hooks M_letters M_rule M_at M_well M_sort M_text M_row M_field M_fields M_begins M_ruleLetters M_coming M_comingMany M_going M_goingMany M_minute M_pile M_high M_where M_latest M_lifts M_begun M_left M_has M_lifted M_taken M_above M_allLifts M_busy M_longest M_onto M_worst M_best M_orders M_together M_ofOne M_ofOther M_seed M_then M_was M_kept M_held M_kindOn M_figureOn M_sorts M_size M_items M_moved M_thrown) → va_S A s.heap H locs → ∀ ls : Array Slot, lv_has ls 8 [(0, .ref (ad_M 0)), (1, .int p1), (3, .int p3), (4, .int v4), (5, .int v5), (6, .int v6), (7, .int v7)] → W p l e roX10_nights s m args below meth c H locs 0 0 Q (F0 m 110 ls []) := by
        intro n110
        induction n110 with
        | zero =>
          intro v4 v5 v6 v7 M_coming M_comingMany M_going M_goingMany M_minute M_pile M_high M_where M_latest M_lifts M_begun M_left M_has M_lifted M_taken M_above M_allLifts M_busy M_seed H locs hF
          rw [fX10_nights_L110] at hF
          cases hF
        | succ n110 ih110 =>
          intro v4 v5 v6 v7 M_coming M_comingMany M_going M_goingMany M_minute M_pile M_high M_where M_latest M_lifts M_begun M_left M_has M_lifted M_taken M_above M_allLifts M_busy M_seed H locs hF hP hD hS ls hl
          rw [fX10_nights_L110] at hF
          refine lv_iload hx hb dX10_nights_110 (lv_at hl 6 rfl) ?_
          refine lv_aload_n hx hb dX10_nights_112 rfl (lv_at hl 0 rfl) ?_
          refine va_get (D := D) (ci := 7) (v := .int M_guests) (C := RX10) (T := TX10) (N := 58) hx hb hts hin10 hown hK hP 0 rfl rfl 0 (by decide) (hts _ zm_16) (fun _ h9 => h9) rfl dX10_nights_113 ?_
          refine lv_icmp_ge (tgt := 144) hx hb dX10_nights_116 (by decide) (fun c_17 => ?_) (fun c_17 => ?_)
          · have hF := zt c_17 hF
            exact j144 v4 v5 v6 M_coming M_comingMany M_going M_goingMany M_minute M_pile M_high M_where M_latest M_lifts M_begun M_left M_has M_lifted M_taken M_above M_allLifts M_busy M_seed _ _ hF hP hD hS ls (lv_sub hl [0, 1, 2, 3, 4, 5] rfl)
          · have hF := zf c_17 hF
            refine lv_iload hx hb dX10_nights_119 (lv_at hl 4 rfl) ?_
            refine lv_aload_n hx hb dX10_nights_121 rfl (lv_at hl 0 rfl) ?_
            refine lv_iload hx hb dX10_nights_122 (lv_at hl 6 rfl) ?_
            obtain ⟨o_18, hc_18, hF⟩ := zb hF
            refine zcVR (rest := [.int v5]) (kX10_misses l D ca t ad_M M_guests M_kind M_figure M_told M_heaps M_holds M_back M_mistakes M_hooks M_letters M_rule M_at M_well M_sort M_text M_row M_field M_fields M_begins M_ruleLetters M_coming M_comingMany M_going M_goingMany M_minute M_pile M_high M_where M_latest M_lifts M_begun M_left M_has M_lifted M_taken M_above M_allLifts M_busy M_longest M_onto M_worst M_best M_orders M_together M_ofOne M_ofOther M_seed M_then M_was M_kept M_held M_kindOn M_figureOn M_sorts M_size M_items M_moved M_thrown v7 fuel _ hc_18) ⟨hx, hb, hml, hown, hts⟩ (zcwV hts zm_202 zm_203 zm_204 zm_19 zm_201 rfl rfl zdv_X10_misses ⟨Nat.le_of_ble_eq_true rfl, Nat.le_of_ble_eq_true rfl⟩) hA hK hZ hP hD hS [0, 1, 2, 3, 4, 5, 6, 7, 8, 9, 10, 11, 12, 13, 14, 15, 16, 17, 18, 19, 20, 21, 22, 23, 24, 25, 26, 27, 28, 29, 30, 31, 32, 33] rfl rfl 7 0 rfl rfl rfl hl.1 (Nat.le_of_ble_eq_true rfl) dX10_nights_124 rfl ?_
            refine lv_if_eq (tgt := 134) hx hb dX10_nights_127 (by decide) (fun c_19 => ?_) (fun c_19 => ?_)
            · have hF := zt c_19 hF
              refine lv_iconst (v := 0) hx hb dX10_nights_134 (by decide) ?_
              refine lv_iadd hx hb dX10_nights_135 ?_
              refine z_let hF (fun v5_20 hF => ?_)
              refine lv_istore (lv' := [(5, .int v5_20), (0, .ref (ad_M 0)), (1, .int p1), (3, .int p3), (4, .int v4), (6, .int v6), (7, .int v7)]) hx hb dX10_nights_136 hl (by decide) rfl (fun ls hl => ?_)
              refine z_iinc (kv := 1) hx hb 6 dX10_nights_138 hl rfl (by decide) (by decide) (fun g => [(7, .int g), (5, .int v5_20), (0, .ref (ad_M 0)), (1, .int p1), (3, .int p3), (4, .int v4), (6, .int v6)]) (fun _ => rfl) hF (fun v7_21 ls hF hl => ?_)
              refine lv_goto (tgt := 110) hx hb dX10_nights_141 (by decide) ?_
              exact ih110 v4 v5_20 v6 v7_21 M_coming M_comingMany M_going M_goingMany M_minute M_pile M_high M_where M_latest M_lifts M_begun M_left M_has M_lifted M_taken M_above M_allLifts M_busy M_seed _ _ hF hP hD hS ls (lv_sub hl [2, 3, 4, 5, 1, 6, 0] rfl)
            · have hF := zf c_19 hF
              refine lv_iconst (v := 1) hx hb dX10_nights_130 (by decide) ?_
              refine lv_goto (tgt := 135) hx hb dX10_nights_131 (by decide) ?_
              refine lv_iadd hx hb dX10_nights_135 ?_
              refine z_let hF (fun v5_22 hF => ?_)
              refine lv_istore (lv' := [(5, .int v5_22), (0, .ref (ad_M 0)), (1, .int p1), (3, .int p3), (4, .int v4), (6, .int v6), (7, .int v7)]) hx hb dX10_nights_136 hl (by decide) rfl (fun ls hl => ?_)
              refine z_iinc (kv := 1) hx hb 6 dX10_nights_138 hl rfl (by decide) (by decide) (fun g => [(7, .int g), (5, .int v5_22), (0, .ref (ad_M 0)), (1, .int p1), (3, .int p3), (4, .int v4), (6, .int v6)]) (fun _ => rfl) hF (fun v7_23 ls hF hl => ?_)
              refine lv_goto (tgt := 110) hx hb dX10_nights_141 (by decide) ?_
              exact ih110 v4 v5_22 v6 v7_23 M_coming M_comingMany M_going M_goingMany M_minute M_pile M_high M_where M_latest M_lifts M_begun M_left M_has M_lifted M_taken M_above M_allLifts M_busy M_seed _ _ hF hP hD hS ls (lv_sub hl [2, 3, 4, 5, 1, 6, 0] rfl)
      have j89 : ∀ (v4 : Int32) (v5 : Int32) (v6 : Int32) (M_coming : Nat → Int32) (M_comingMany : Int32) (M_going : Nat → Int32) (M_goingMany : Int32) (M_minute : Nat → Int32) (M_pile : Nat → Int32) (M_high : Nat → Int32) (M_where : Nat → Int32) (M_latest : Int32) (M_lifts : Nat → Int32) (M_begun : Nat → Int32) (M_left : Nat → Int32) (M_has : Nat → Int32) (M_lifted : Nat → Int32) (M_taken : Nat → Int32) (M_above : Nat → Int32) (M_allLifts : Int32) (M_busy : Int32) (M_seed : Int32) (H : Heap) (locs : List Loc), fX10_nights_J89 fuel M_guests M_kind M_figure M_heaps M_holds M_back M_mistakes M_hooks M_letters M_rule (fX10_nights_L35 fuel M_guests M_kind M_figure M_heaps M_holds M_back M_mistakes M_hooks M_letters M_rule p1 p3 n35) v4 v5 v6 M_coming M_comingMany M_going M_goingMany M_minute M_pile M_high M_where M_latest M_lifts M_begun M_left M_has M_lifted M_taken M_above M_allLifts M_busy M_seed = some o → va_P D vwCl (wX10_M ca ad_M M_guests M_kind M_figure M_told M_heaps M_holds M_back M_mistakes M_hooks M_letters M_rule M_at M_well M_sort M_text M_row M_field M_fields M_begins M_ruleLetters M_coming M_comingMany M_going M_goingMany M_minute M_pile M_high M_where M_latest M_lifts M_begun M_left M_has M_lifted M_taken M_above M_allLifts M_busy M_longest M_onto M_worst M_best M_orders M_together M_ofOne M_ofOther M_seed M_then M_was M_kept M_held M_kindOn M_figureOn M_sorts M_size M_items M_moved M_thrown) H → va_D A (wX10_M ca ad_M M_guests M_kind M_figure M_told M_heaps M_holds M_back M_mistakes M_hooks M_letters M_rule M_at M_well M_sort M_text M_row M_field M_fields M_begins M_ruleLetters M_coming M_comingMany M_going M_goingMany M_minute M_pile M_high M_where M_latest M_lifts M_begun M_left M_has M_lifted M_taken M_above M_allLifts M_busy M_longest M_onto M_worst M_best M_orders M_together M_ofOne M_ofOther M_seed M_then M_was M_kept M_held M_kindOn M_figureOn M_sorts M_size M_items M_moved M_thrown) → va_S A s.heap H locs → ∀ ls : Array Slot, lv_has ls 8 [(0, .ref (ad_M 0)), (1, .int p1), (3, .int p3), (4, .int v4), (5, .int v5), (6, .int v6)] → W p l e roX10_nights s m args below meth c H locs 0 0 Q (F0 m 89 ls []) := by
        intro v4 v5 v6 M_coming M_comingMany M_going M_goingMany M_minute M_pile M_high M_where M_latest M_lifts M_begun M_left M_has M_lifted M_taken M_above M_allLifts M_busy M_seed H locs hF hP hD hS ls hl
        unfold fX10_nights_J89 at hF
        refine lv_aload_n hx hb dX10_nights_89 rfl (lv_at hl 0 rfl) ?_
        refine lv_iconst (v := (-1)) hx hb dX10_nights_90 (by decide) ?_
        obtain ⟨o_13, hc_13, hF⟩ := zb hF
        refine zcVv (rest := []) (ws' := (wX10_M ca ad_M M_guests M_kind M_figure M_told M_heaps M_holds M_back M_mistakes M_hooks M_letters M_rule M_at M_well M_sort M_text M_row M_field M_fields M_begins M_ruleLetters o_13.1 o_13.2 M_going M_goingMany M_minute M_pile M_high M_where M_latest M_lifts M_begun M_left M_has M_lifted M_taken M_above M_allLifts M_busy M_longest M_onto M_worst M_best M_orders M_together M_ofOne M_ofOther M_seed M_then M_was M_kept M_held M_kindOn M_figureOn M_sorts M_size M_items M_moved M_thrown)) (kX10_allCome l D ca t ad_M M_guests M_kind M_figure M_told M_heaps M_holds M_back M_mistakes M_hooks M_letters M_rule M_at M_well M_sort M_text M_row M_field M_fields M_begins M_ruleLetters M_coming M_comingMany M_going M_goingMany M_minute M_pile M_high M_where M_latest M_lifts M_begun M_left M_has M_lifted M_taken M_above M_allLifts M_busy M_longest M_onto M_worst M_best M_orders M_together M_ofOne M_ofOther M_seed M_then M_was M_kept M_held M_kindOn M_figureOn M_sorts M_size M_items M_moved M_thrown (-1) fuel _ hc_13) ⟨hx, hb, hml, hown, hts⟩ (zcwV hts zm_100 zm_101 zm_102 zm_19 zm_99 rfl rfl zdv_X10_allCome ⟨Nat.le_of_ble_eq_true rfl, Nat.le_of_ble_eq_true rfl⟩) hA hK hZ hP hD hS [0, 1, 2, 3, 4, 5, 6, 7, 8, 9, 10, 11, 12, 13, 14, 15, 16, 17, 18, 19, 20, 21, 22, 23, 24, 25, 26, 27, 28, 29, 30, 31, 32, 33] [] [0, 1, 2, 3, 4, 5, 6, 7, 8, 9, 10, 11, 12, 13, 14, 15, 16, 17, 18, 19, 20, 21, 22, 23, 24, 25, 26, 27, 28, 29, 30, 31, 32, 33] rfl rfl rfl rfl rfl rfl rfl 7 0 rfl rfl rfl hl.1 (Nat.le_of_ble_eq_true rfl) dX10_nights_91 rfl (fun H locs hP hD hS => ?_)
        refine lv_aload_n hx hb dX10_nights_94 rfl (lv_at hl 0 rfl) ?_
        obtain ⟨o_14, hc_14, hF⟩ := zb hF
        refine zcVv (rest := []) (ws' := (wX10_M ca ad_M M_guests M_kind M_figure M_told M_heaps M_holds M_back M_mistakes M_hooks M_letters M_rule M_at M_well M_sort M_text M_row M_field M_fields M_begins M_ruleLetters o_13.1 o_13.2 o_14.1 o_14.2 M_minute M_pile M_high M_where M_latest M_lifts M_begun M_left M_has M_lifted M_taken M_above M_allLifts M_busy M_longest M_onto M_worst M_best M_orders M_together M_ofOne M_ofOther M_seed M_then M_was M_kept M_held M_kindOn M_figureOn M_sorts M_size M_items M_moved M_thrown)) (kX10_allGo l D ca t ad_M M_guests M_kind M_figure M_told M_heaps M_holds M_back M_mistakes M_hooks M_letters M_rule M_at M_well M_sort M_text M_row M_field M_fields M_begins M_ruleLetters o_13.1 o_13.2 M_going M_goingMany M_minute M_pile M_high M_where M_latest M_lifts M_begun M_left M_has M_lifted M_taken M_above M_allLifts M_busy M_longest M_onto M_worst M_best M_orders M_together M_ofOne M_ofOther M_seed M_then M_was M_kept M_held M_kindOn M_figureOn M_sorts M_size M_items M_moved M_thrown fuel _ hc_14) ⟨hx, hb, hml, hown, hts⟩ (zcwV hts zm_104 zm_105 zm_106 zm_19 zm_103 rfl rfl zdv_X10_allGo ⟨Nat.le_of_ble_eq_true rfl, Nat.le_of_ble_eq_true rfl⟩) hA hK hZ hP hD hS [0, 1, 2, 3, 4, 5, 6, 7, 8, 9, 10, 11, 12, 13, 14, 15, 16, 17, 18, 19, 20, 21, 22, 23, 24, 25, 26, 27, 28, 29, 30, 31, 32, 33] [] [0, 1, 2, 3, 4, 5, 6, 7, 8, 9, 10, 11, 12, 13, 14, 15, 16, 17, 18, 19, 20, 21, 22, 23, 24, 25, 26, 27, 28, 29, 30, 31, 32, 33] rfl rfl rfl rfl rfl rfl rfl 7 0 rfl rfl rfl hl.1 (Nat.le_of_ble_eq_true rfl) dX10_nights_95 rfl (fun H locs hP hD hS => ?_)
        refine lv_iload hx hb dX10_nights_98 (lv_at hl 3 rfl) ?_
        refine lv_aload_n hx hb dX10_nights_100 rfl (lv_at hl 0 rfl) ?_
        obtain ⟨o_15, hc_15, hF⟩ := zb hF
        refine zcVi (rest := [.int v4]) (ws' := (wX10_M ca ad_M M_guests M_kind M_figure M_told M_heaps M_holds M_back M_mistakes M_hooks M_letters M_rule M_at M_well M_sort M_text M_row M_field M_fields M_begins M_ruleLetters o_13.1 o_13.2 o_14.1 o_14.2 M_minute o_15.2.1 o_15.2.2.1 o_15.2.2.2.1 o_15.2.2.2.2.1 o_15.2.2.2.2.2.1 o_15.2.2.2.2.2.2.1 o_15.2.2.2.2.2.2.2.1 o_15.2.2.2.2.2.2.2.2.1 o_15.2.2.2.2.2.2.2.2.2.1 o_15.2.2.2.2.2.2.2.2.2.2.1 o_15.2.2.2.2.2.2.2.2.2.2.2.1 o_15.2.2.2.2.2.2.2.2.2.2.2.2.1 o_15.2.2.2.2.2.2.2.2.2.2.2.2.2 M_longest M_onto M_worst M_best M_orders M_together M_ofOne M_ofOther M_seed M_then M_was M_kept M_held M_kindOn M_figureOn M_sorts M_size M_items M_moved M_thrown)) (kX10_layAndGo l D ca t ad_M M_guests M_kind M_figure M_told M_heaps M_holds M_back M_mistakes M_hooks M_letters M_rule M_at M_well M_sort M_text M_row M_field M_fields M_begins M_ruleLetters o_13.1 o_13.2 o_14.1 o_14.2 M_minute M_pile M_high M_where M_latest M_lifts M_begun M_left M_has M_lifted M_taken M_above M_allLifts M_busy M_longest M_onto M_worst M_best M_orders M_together M_ofOne M_ofOther M_seed M_then M_was M_kept M_held M_kindOn M_figureOn M_sorts M_size M_items M_moved M_thrown fuel _ hc_15) ⟨hx, hb, hml, hown, hts⟩ (zcwV hts zm_190 zm_191 zm_192 zm_19 zm_189 rfl rfl zdv_X10_layAndGo ⟨Nat.le_of_ble_eq_true rfl, Nat.le_of_ble_eq_true rfl⟩) hA hK hZ hP hD hS [0, 1, 2, 3, 4, 5, 6, 7, 8, 9, 10, 11, 12, 13, 14, 15, 16, 17, 18, 19, 20, 21, 22, 23, 24, 25, 26, 27, 28, 29, 30, 31, 32, 33] [] [0, 1, 2, 3, 4, 5, 6, 7, 8, 9, 10, 11, 12, 13, 14, 15, 16, 17, 18, 19, 20, 21, 22, 23, 24, 25, 26, 27, 28, 29, 30, 31, 32, 33] rfl rfl rfl rfl rfl rfl rfl 7 0 rfl rfl rfl hl.1 (Nat.le_of_ble_eq_true rfl) dX10_nights_101 rfl (fun H locs hP hD hS => ?_)
        refine lv_iadd hx hb dX10_nights_104 ?_
        refine z_let hF (fun v4_16 hF => ?_)
        refine lv_istore (lv' := [(4, .int v4_16), (0, .ref (ad_M 0)), (1, .int p1), (3, .int p3), (5, .int v5), (6, .int v6)]) hx hb dX10_nights_105 hl (by decide) rfl (fun ls hl => ?_)
        refine lv_iconst (v := 0) hx hb dX10_nights_107 (by decide) ?_
        refine lv_istore (lv' := [(7, .int 0), (4, .int v4_16), (0, .ref (ad_M 0)), (1, .int p1), (3, .int p3), (5, .int v5), (6, .int v6)]) hx hb dX10_nights_108 hl (by decide) rfl (fun ls hl => ?_)
        exact l110 fuel v4_16 v5 v6 0 o_13.1 o_13.2 o_14.1 o_14.2 M_minute o_15.2.1 o_15.2.2.1 o_15.2.2.2.1 o_15.2.2.2.2.1 o_15.2.2.2.2.2.1 o_15.2.2.2.2.2.2.1 o_15.2.2.2.2.2.2.2.1 o_15.2.2.2.2.2.2.2.2.1 o_15.2.2.2.2.2.2.2.2.2.1 o_15.2.2.2.2.2.2.2.2.2.2.1 o_15.2.2.2.2.2.2.2.2.2.2.2.1 o_15.2.2.2.2.2.2.2.2.2.2.2.2.1 o_15.2.2.2.2.2.2.2.2.2.2.2.2.2 M_seed _ _ hF hP hD hS ls (lv_sub hl [2, 3, 4, 1, 5, 6, 0] rfl)
      have l44 : ∀ (n44 : Nat) (v4 : Int32) (v5 : Int32) (v6 : Int32) (v7 : Int32) (M_coming : Nat → Int32) (M_comingMany : Int32) (M_going : Nat → Int32) (M_goingMany : Int32) (M_minute : Nat → Int32) (M_pile : Nat → Int32) (M_high : Nat → Int32) (M_where : Nat → Int32) (M_latest : Int32) (M_lifts : Nat → Int32) (M_begun : Nat → Int32) (M_left : Nat → Int32) (M_has : Nat → Int32) (M_lifted : Nat → Int32) (M_taken : Nat → Int32) (M_above : Nat → Int32) (M_allLifts : Int32) (M_busy : Int32) (M_seed : Int32) (H : Heap) (locs : List Loc), fX10_nights_L44 fuel M_guests M_kind M_figure M_heaps M_holds M_back M_mistakes M_hooks M_letters M_rule (fX10_nights_L35 fuel M_guests M_kind M_figure M_heaps M_holds M_back M_mistakes M_hooks M_letters M_rule p1 p3 n35) n44 v4 v5 v6 v7 M_coming M_comingMany M_going M_goingMany M_minute M_pile M_high M_where M_latest M_lifts M_begun M_left M_has M_lifted M_taken M_above M_allLifts M_busy M_seed = some o → va_P D vwCl (wX10_M ca ad_M M_guests M_kind M_figure M_told M_heaps M_holds M_back M_mistakes M_hooks M_letters M_rule M_at M_well M_sort M_text M_row M_field M_fields M_begins M_ruleLetters M_coming M_comingMany M_going M_goingMany M_minute M_pile M_high M_where M_latest M_lifts M_begun M_left M_has M_lifted M_taken M_above M_allLifts M_busy M_longest M_onto M_worst M_best M_orders M_together M_ofOne M_ofOther M_seed M_then M_was M_kept M_held M_kindOn M_figureOn M_sorts M_size M_items M_moved M_thrown) H → va_D A (wX10_M ca ad_M M_guests M_kind M_figure M_told M_heaps M_holds M_back M_mistakes M_hooks M_letters M_rule M_at M_well M_sort M_text M_row M_field M_fields M_begins M_ruleLetters M_coming M_comingMany M_going M_goingMany M_minute M_pile M_high M_where M_latest M_lifts M_begun M_left M_has M_lifted M_taken M_above M_allLifts M_busy M_longest M_onto M_worst M_best M_orders M_together M_ofOne M_ofOther M_seed M_then M_was M_kept M_held M_kindOn M_figureOn M_sorts M_size M_items M_moved M_thrown) → va_S A s.heap H locs → ∀ ls : Array Slot, lv_has ls 8 [(0, .ref (ad_M 0)), (1, .int p1), (3, .int p3), (4, .int v4), (5, .int v5), (6, .int v6), (7, .int v7)] → W p l e roX10_nights s m args below meth c H locs 0 0 Q (F0 m 44 ls []) := by
        intro n44
        induction n44 with
        | zero =>
          intro v4 v5 v6 v7 M_coming M_comingMany M_going M_goingMany M_minute M_pile M_high M_where M_latest M_lifts M_begun M_left M_has M_lifted M_taken M_above M_allLifts M_busy M_seed H locs hF
          rw [fX10_nights_L44] at hF
          cases hF
        | succ n44 ih44 =>
          intro v4 v5 v6 v7 M_coming M_comingMany M_going M_goingMany M_minute M_pile M_high M_where M_latest M_lifts M_begun M_left M_has M_lifted M_taken M_above M_allLifts M_busy M_seed H locs hF hP hD hS ls hl
          rw [fX10_nights_L44] at hF
          refine lv_iload hx hb dX10_nights_44 (lv_at hl 6 rfl) ?_
          refine lv_aload_n hx hb dX10_nights_46 rfl (lv_at hl 0 rfl) ?_
          refine va_get (D := D) (ci := 7) (v := .int M_guests) (C := RX10) (T := TX10) (N := 58) hx hb hts hin10 hown hK hP 0 rfl rfl 0 (by decide) (hts _ zm_16) (fun _ h9 => h9) rfl dX10_nights_47 ?_
          refine lv_icmp_ge (tgt := 89) hx hb dX10_nights_50 (by decide) (fun c_7 => ?_) (fun c_7 => ?_)
          · have hF := zt c_7 hF
            exact j89 v4 v5 v6 M_coming M_comingMany M_going M_goingMany M_minute M_pile M_high M_where M_latest M_lifts M_begun M_left M_has M_lifted M_taken M_above M_allLifts M_busy M_seed _ _ hF hP hD hS ls (lv_sub hl [0, 1, 2, 3, 4, 5] rfl)
          · have hF := zf c_7 hF
            refine lv_aload_n hx hb dX10_nights_53 rfl (lv_at hl 0 rfl) ?_
            refine va_get (D := D) (ci := 7) (v := .ref (ad_M 10)) (C := RX10) (T := TX10) (N := 58) hx hb hts hin10 hown hK hP 0 rfl rfl 24 (by decide) (hts _ zm_85) (fun _ h9 => h9) rfl dX10_nights_54 ?_
            refine lv_iload hx hb dX10_nights_57 (lv_at hl 6 rfl) ?_
            refine lv_aload_n hx hb dX10_nights_59 rfl (lv_at hl 0 rfl) ?_
            refine va_get (D := D) (ci := 7) (v := .ref (ad_M 1)) (C := RX10) (T := TX10) (N := 58) hx hb hts hin10 hown hK hP 0 rfl rfl 1 (by decide) (hts _ zm_25) (fun _ h9 => h9) rfl dX10_nights_60 ?_
            refine lv_iload hx hb dX10_nights_63 (lv_at hl 6 rfl) ?_
            obtain ⟨h_8, hF⟩ := zgi hF
            refine va_iald hx hb hK hP 1 0 rfl rfl h_8 dX10_nights_65 ?_
            refine lv_aload_n hx hb dX10_nights_66 rfl (lv_at hl 0 rfl) ?_
            refine va_get (D := D) (ci := 7) (v := .ref (ad_M 2)) (C := RX10) (T := TX10) (N := 58) hx hb hts hin10 hown hK hP 0 rfl rfl 2 (by decide) (hts _ zm_26) (fun _ h9 => h9) rfl dX10_nights_67 ?_
            refine lv_iload hx hb dX10_nights_70 (lv_at hl 6 rfl) ?_
            refine va_iald hx hb hK hP 2 0 rfl rfl h_8 dX10_nights_72 ?_
            refine lv_aload_n hx hb dX10_nights_73 rfl (lv_at hl 0 rfl) ?_
            refine lv_bipush (v := 60) hx hb dX10_nights_74 (by decide) ?_
            obtain ⟨o_9, hc_9, hF⟩ := zb hF
            refine zcVi (rest := [.int (M_figure v7.toNatClampNeg), .int (M_kind v7.toNatClampNeg), .int v7, .ref (ad_M 10)]) (ws' := (wX10_M ca ad_M M_guests M_kind M_figure M_told M_heaps M_holds M_back M_mistakes M_hooks M_letters M_rule M_at M_well M_sort M_text M_row M_field M_fields M_begins M_ruleLetters M_coming M_comingMany M_going M_goingMany M_minute M_pile M_high M_where M_latest M_lifts M_begun M_left M_has M_lifted M_taken M_above M_allLifts M_busy M_longest M_onto M_worst M_best M_orders M_together M_ofOne M_ofOther o_9.2 M_then M_was M_kept M_held M_kindOn M_figureOn M_sorts M_size M_items M_moved M_thrown)) (kX10_draw l D ca t ad_M M_guests M_kind M_figure M_told M_heaps M_holds M_back M_mistakes M_hooks M_letters M_rule M_at M_well M_sort M_text M_row M_field M_fields M_begins M_ruleLetters M_coming M_comingMany M_going M_goingMany M_minute M_pile M_high M_where M_latest M_lifts M_begun M_left M_has M_lifted M_taken M_above M_allLifts M_busy M_longest M_onto M_worst M_best M_orders M_together M_ofOne M_ofOther M_seed M_then M_was M_kept M_held M_kindOn M_figureOn M_sorts M_size M_items M_moved M_thrown 60 fuel _ hc_9) ⟨hx, hb, hml, hown, hts⟩ (zcwV hts zm_276 zm_277 zm_278 zm_19 zm_275 rfl rfl zdv_X10_draw ⟨Nat.le_of_ble_eq_true rfl, Nat.le_of_ble_eq_true rfl⟩) hA hK hZ hP hD hS [0, 1, 2, 3, 4, 5, 6, 7, 8, 9, 10, 11, 12, 13, 14, 15, 16, 17, 18, 19, 20, 21, 22, 23, 24, 25, 26, 27, 28, 29, 30, 31, 32, 33] [] [0, 1, 2, 3, 4, 5, 6, 7, 8, 9, 10, 11, 12, 13, 14, 15, 16, 17, 18, 19, 20, 21, 22, 23, 24, 25, 26, 27, 28, 29, 30, 31, 32, 33] rfl rfl rfl rfl rfl rfl rfl 7 0 rfl rfl rfl hl.1 (Nat.le_of_ble_eq_true rfl) dX10_nights_76 rfl (fun H locs hP hD hS => ?_)
            obtain ⟨o_10, hc_10, hF⟩ := zb hF
            refine zcSR (rest := [.int v7, .ref (ad_M 10)]) (kX10_goesBy l D ca t (M_kind v7.toNatClampNeg) (M_figure v7.toNatClampNeg) o_9.1 fuel _ hc_10) ⟨hx, hb, hml, hown, hts⟩ (zcwS hts zm_94 zm_93 zm_19 zm_92 rfl rfl zds_X10_goesBy ⟨Nat.le_of_ble_eq_true rfl, Nat.le_of_ble_eq_true rfl⟩) hA hK hZ hP hD hS [] rfl rfl rfl hl.1 (Nat.le_of_ble_eq_true rfl) dX10_nights_79 rfl ?_
            refine z_iast hx hb hK hP hD hS 10 0 rfl rfl h_8 dX10_nights_82 (fun g => (wX10_M ca ad_M M_guests M_kind M_figure M_told M_heaps M_holds M_back M_mistakes M_hooks M_letters M_rule M_at M_well M_sort M_text M_row M_field M_fields M_begins M_ruleLetters M_coming M_comingMany M_going M_goingMany g M_pile M_high M_where M_latest M_lifts M_begun M_left M_has M_lifted M_taken M_above M_allLifts M_busy M_longest M_onto M_worst M_best M_orders M_together M_ofOne M_ofOther o_9.2 M_then M_was M_kept M_held M_kindOn M_figureOn M_sorts M_size M_items M_moved M_thrown)) (fun _ => rfl) hF (fun M_minute_11 H locs hF hP hD hS => ?_)
            refine z_iinc (kv := 1) hx hb 6 dX10_nights_83 hl rfl (by decide) (by decide) (fun g => [(7, .int g), (0, .ref (ad_M 0)), (1, .int p1), (3, .int p3), (4, .int v4), (5, .int v5), (6, .int v6)]) (fun _ => rfl) hF (fun v7_12 ls hF hl => ?_)
            refine lv_goto (tgt := 44) hx hb dX10_nights_86 (by decide) ?_
            exact ih44 v4 v5 v6 v7_12 M_coming M_comingMany M_going M_goingMany M_minute_11 M_pile M_high M_where M_latest M_lifts M_begun M_left M_has M_lifted M_taken M_above M_allLifts M_busy o_9.2 _ _ hF hP hD hS ls (lv_sub hl [1, 2, 3, 4, 5, 6, 0] rfl)
      intro v4 v5 v6 M_coming M_comingMany M_going M_goingMany M_minute M_pile M_high M_where M_latest M_lifts M_begun M_left M_has M_lifted M_taken M_above M_allLifts M_busy M_seed H locs hF hP hD hS ls hl
      rw [fX10_nights_L35] at hF
      refine lv_iload hx hb dX10_nights_35 (lv_at hl 5 rfl) ?_
      refine lv_iload_n hx hb dX10_nights_37 rfl (lv_at hl 1 rfl) ?_
      refine lv_icmp_ge (tgt := 150) hx hb dX10_nights_38 (by decide) (fun c_5 => ?_) (fun c_5 => ?_)
      · have hF := zt c_5 hF
        exact j150 v4 v5 M_coming M_comingMany M_going M_goingMany M_minute M_pile M_high M_where M_latest M_lifts M_begun M_left M_has M_lifted M_taken M_above M_allLifts M_busy M_seed _ _ hF hP hD hS ls (lv_sub hl [2, 3, 4] rfl)
      · have hF := zf c_5 hF
        refine lv_iconst (v := 0) hx hb dX10_nights_41 (by decide) ?_
        refine lv_istore (lv' := [(7, .int 0), (0, .ref (ad_M 0)), (1, .int p1), (3, .int p3), (4, .int v4), (5, .int v5), (6, .int v6)]) hx hb dX10_nights_42 hl (by decide) rfl (fun ls hl => ?_)
        exact l44 fuel v4 v5 v6 0 M_coming M_comingMany M_going M_goingMany M_minute M_pile M_high M_where M_latest M_lifts M_begun M_left M_has M_lifted M_taken M_above M_allLifts M_busy M_seed _ _ hF hP hD hS ls (lv_sub hl [1, 2, 3, 4, 5, 6, 0] rfl)
  unfold fX10_nights at hF
  refine lv_iload_n hx hb dX10_nights_0 rfl (lv_at hl 1 rfl) ?_
  refine lv_iconst (v := 1) hx hb dX10_nights_1 (by decide) ?_
  refine lv_bipush (v := 20) hx hb dX10_nights_2 (by decide) ?_
  obtain ⟨o_1, hc_1, hF⟩ := zb hF
  refine zcSR (rest := []) (kX10_isIn l D ca t p1 1 20 fuel _ hc_1) ⟨hx, hb, hml, hown, hts⟩ (zcwS hts zm_20 zm_18 zm_19 zm_17 rfl rfl zds_X10_isIn ⟨Nat.le_of_ble_eq_true rfl, Nat.le_of_ble_eq_true rfl⟩) hA hK hZ hP hD hS [] rfl rfl rfl hl.1 (Nat.le_of_ble_eq_true rfl) dX10_nights_4 rfl ?_
  refine lv_if_eq (tgt := 19) hx hb dX10_nights_7 (by decide) (fun c_2 => ?_) (fun c_2 => ?_)
  · have hF := zt c_2 hF
    refine lv_iconst (v := (-1)) hx hb dX10_nights_19 (by decide) ?_
    obtain rfl := Option.some.inj hF
    exact hret _ _ _ _ hP hD hS rfl dX10_nights_20
  · have hF := zf c_2 hF
    refine lv_iload_n hx hb dX10_nights_10 rfl (lv_at hl 3 rfl) ?_
    refine lv_iconst (v := 0) hx hb dX10_nights_11 (by decide) ?_
    refine lv_iconst (v := 1) hx hb dX10_nights_12 (by decide) ?_
    obtain ⟨o_3, hc_3, hF⟩ := zb hF
    refine zcSR (rest := []) (kX10_isIn l D ca t p3 0 1 fuel _ hc_3) ⟨hx, hb, hml, hown, hts⟩ (zcwS hts zm_20 zm_18 zm_19 zm_17 rfl rfl zds_X10_isIn ⟨Nat.le_of_ble_eq_true rfl, Nat.le_of_ble_eq_true rfl⟩) hA hK hZ hP hD hS [] rfl rfl rfl hl.1 (Nat.le_of_ble_eq_true rfl) dX10_nights_13 rfl ?_
    refine lv_if_ne (tgt := 21) hx hb dX10_nights_16 (by decide) (fun c_4 => ?_) (fun c_4 => ?_)
    · have hF := zf c_4 hF
      refine lv_aload_n hx hb dX10_nights_21 rfl (lv_at hl 0 rfl) ?_
      refine lv_iload_n hx hb dX10_nights_22 rfl (lv_at hl 2 rfl) ?_
      refine va_put (D := D) (ci := 7) (v := .int p2) (C := RX10) (T := TX10) (N := 58) hx hb hts hin10 tyX10 tyX10_ok nmX10 hown hK hP hD hS 0 rfl rfl 46 (by decide) (hts _ zm_271) (fun _ h9 => h9) rfl (tyX10_ok 46 (by decide)) rfl rfl (Nat.le_of_ble_eq_true rfl) dX10_nights_23 (fun H locs hP hD hS => ?_)
      have hP : va_P D vwCl (wX10_M ca ad_M M_guests M_kind M_figure M_told M_heaps M_holds M_back M_mistakes M_hooks M_letters M_rule M_at M_well M_sort M_text M_row M_field M_fields M_begins M_ruleLetters M_coming M_comingMany M_going M_goingMany M_minute M_pile M_high M_where M_latest M_lifts M_begun M_left M_has M_lifted M_taken M_above M_allLifts M_busy M_longest M_onto M_worst M_best M_orders M_together M_ofOne M_ofOther p2 M_then M_was M_kept M_held M_kindOn M_figureOn M_sorts M_size M_items M_moved M_thrown) H := hP
      have hD : va_D A (wX10_M ca ad_M M_guests M_kind M_figure M_told M_heaps M_holds M_back M_mistakes M_hooks M_letters M_rule M_at M_well M_sort M_text M_row M_field M_fields M_begins M_ruleLetters M_coming M_comingMany M_going M_goingMany M_minute M_pile M_high M_where M_latest M_lifts M_begun M_left M_has M_lifted M_taken M_above M_allLifts M_busy M_longest M_onto M_worst M_best M_orders M_together M_ofOne M_ofOther p2 M_then M_was M_kept M_held M_kindOn M_figureOn M_sorts M_size M_items M_moved M_thrown) := hD
      refine lv_iconst (v := 0) hx hb dX10_nights_26 (by decide) ?_
      refine lv_istore (lv' := [(4, .int 0), (0, .ref (ad_M 0)), (1, .int p1), (2, .int p2), (3, .int p3)]) hx hb dX10_nights_27 hl (by decide) rfl (fun ls hl => ?_)
      refine lv_iconst (v := 0) hx hb dX10_nights_29 (by decide) ?_
      refine lv_istore (lv' := [(5, .int 0), (4, .int 0), (0, .ref (ad_M 0)), (1, .int p1), (2, .int p2), (3, .int p3)]) hx hb dX10_nights_30 hl (by decide) rfl (fun ls hl => ?_)
      refine lv_iconst (v := 0) hx hb dX10_nights_32 (by decide) ?_
      refine lv_istore (lv' := [(6, .int 0), (5, .int 0), (4, .int 0), (0, .ref (ad_M 0)), (1, .int p1), (2, .int p2), (3, .int p3)]) hx hb dX10_nights_33 hl (by decide) rfl (fun ls hl => ?_)
      exact l35 fuel 0 0 0 M_coming M_comingMany M_going M_goingMany M_minute M_pile M_high M_where M_latest M_lifts M_begun M_left M_has M_lifted M_taken M_above M_allLifts M_busy p2 _ _ hF hP hD hS ls (lv_sub hl [3, 4, 6, 2, 1, 0] rfl)
    · have hF := zt c_4 hF
      refine lv_iconst (v := (-1)) hx hb dX10_nights_19 (by decide) ?_
      obtain rfl := Option.some.inj hF
      exact hret _ _ _ _ hP hD hS rfl dX10_nights_20
abbrev roX10_keepAll_then : Room := { frames := 0, cells := 0, slots := 0, locals := 0 }
set_option maxHeartbeats 4000000 in
set_option maxRecDepth 100000 in
theorem kX10_keepAll_then (l : Launch) (D : va_G) (ca : Nat → ClassId) (t : Nat → Nat) (ad_M : Nat → Nat) (M_guests : Int32) (M_kind : Nat → Int32) (M_figure : Nat → Int32) (M_told : Nat → Int32) (M_heaps : Int32) (M_holds : Int32) (M_back : Int32) (M_mistakes : Int32) (M_hooks : Int32) (M_letters : Int32) (M_rule : Nat → Int32) (M_at : Int32) (M_well : Int32) (M_sort : Int32) (M_text : Int32) (M_row : Int32) (M_field : Nat → Int32) (M_fields : Int32) (M_begins : Nat → Int32) (M_ruleLetters : Nat → Int32) (M_coming : Nat → Int32) (M_comingMany : Int32) (M_going : Nat → Int32) (M_goingMany : Int32) (M_minute : Nat → Int32) (M_pile : Nat → Int32) (M_high : Nat → Int32) (M_where : Nat → Int32) (M_latest : Int32) (M_lifts : Nat → Int32) (M_begun : Nat → Int32) (M_left : Nat → Int32) (M_has : Nat → Int32) (M_lifted : Nat → Int32) (M_taken : Nat → Int32) (M_above : Nat → Int32) (M_allLifts : Int32) (M_busy : Int32) (M_longest : Nat → Int32) (M_onto : Nat → Int32) (M_worst : Int32) (M_best : Int32) (M_orders : Int32) (M_together : Int32) (M_ofOne : Nat → Int32) (M_ofOther : Nat → Int32) (M_seed : Int32) (M_then : Nat → Int32) (M_was : Nat → Int32) (M_kept : Int32) (M_held : Nat → Int32) (M_kindOn : Nat → Int32) (M_figureOn : Nat → Int32) (M_sorts : Nat → Int32) (M_size : Nat → Int32) (M_items : Nat → Int32) (M_moved : Nat → Int32) (M_thrown : Int32) (fuel : Nat) (o : (Nat → Int32)) (hF : fX10_keepAll_then fuel M_guests M_kind M_figure M_told M_heaps M_holds M_back M_mistakes M_hooks M_letters M_rule M_then = some o) : zMv l D (zT ca) t yX10_keepAll (.code yX10_keepAll cX10_keepAll 3 none :: zW) roX10_keepAll_then [.ref (ad_M 0), .ref (ad_M 25)] (wX10_M ca ad_M M_guests M_kind M_figure M_told M_heaps M_holds M_back M_mistakes M_hooks M_letters M_rule M_at M_well M_sort M_text M_row M_field M_fields M_begins M_ruleLetters M_coming M_comingMany M_going M_goingMany M_minute M_pile M_high M_where M_latest M_lifts M_begun M_left M_has M_lifted M_taken M_above M_allLifts M_busy M_longest M_onto M_worst M_best M_orders M_together M_ofOne M_ofOther M_seed M_then M_was M_kept M_held M_kindOn M_figureOn M_sorts M_size M_items M_moved M_thrown) (wX10_M ca ad_M M_guests M_kind M_figure M_told M_heaps M_holds M_back M_mistakes M_hooks M_letters M_rule M_at M_well M_sort M_text M_row M_field M_fields M_begins M_ruleLetters M_coming M_comingMany M_going M_goingMany M_minute M_pile M_high M_where M_latest M_lifts M_begun M_left M_has M_lifted M_taken M_above M_allLifts M_busy M_longest M_onto M_worst M_best M_orders M_together M_ofOne M_ofOther M_seed o M_was M_kept M_held M_kindOn M_figureOn M_sorts M_size M_items M_moved M_thrown) := by
  refine zMv_of (cc := cX10_keepAll) (maxL := 3) (by decide) rfl (Nat.le_of_ble_eq_true rfl) ?_
  intro p e s m args below meth c A Q ls ⟨hx, hb, hml, hown, hts, hA, hK, hZ, hS⟩ hret hP hD hl
  have hts := fun w h => hts w (List.mem_cons_of_mem _ h)
  have hown : s.vm.findClass RX10 = some m.cls := hown
  have hl : lv_has ls 3 [(0, .ref (ad_M 0)), (1, .ref (ad_M 25))] := hl
  have hin10 := zin_X10
  have l78 : ∀ (n78 : Nat) (v2 : Int32) (M_then : Nat → Int32) (H : Heap) (locs : List Loc), fX10_keepAll_then_L78 M_kind M_figure M_told n78 v2 M_then = some o → va_P D vwCl (wX10_M ca ad_M M_guests M_kind M_figure M_told M_heaps M_holds M_back M_mistakes M_hooks M_letters M_rule M_at M_well M_sort M_text M_row M_field M_fields M_begins M_ruleLetters M_coming M_comingMany M_going M_goingMany M_minute M_pile M_high M_where M_latest M_lifts M_begun M_left M_has M_lifted M_taken M_above M_allLifts M_busy M_longest M_onto M_worst M_best M_orders M_together M_ofOne M_ofOther M_seed M_then M_was M_kept M_held M_kindOn M_figureOn M_sorts M_size M_items M_moved M_thrown) H → va_D A (wX10_M ca ad_M M_guests M_kind M_figure M_told M_heaps M_holds M_back M_mistakes M_hooks M_letters M_rule M_at M_well M_sort M_text M_row M_field M_fields M_begins M_ruleLetters M_coming M_comingMany M_going M_goingMany M_minute M_pile M_high M_where M_latest M_lifts M_begun M_left M_has M_lifted M_taken M_above M_allLifts M_busy M_longest M_onto M_worst M_best M_orders M_together M_ofOne M_ofOther M_seed M_then M_was M_kept M_held M_kindOn M_figureOn M_sorts M_size M_items M_moved M_thrown) → va_S A s.heap H locs → ∀ ls : Array Slot, lv_has ls 3 [(0, .ref (ad_M 0)), (1, .ref (ad_M 25)), (2, .int v2)] → W p l e roX10_keepAll_then s m args below meth c H locs 0 0 Q (F0 m 78 ls []) := by
    intro n78
    induction n78 with
    | zero =>
      intro v2 M_then H locs hF
      rw [fX10_keepAll_then_L78] at hF
      cases hF
    | succ n78 ih78 =>
      intro v2 M_then H locs hF hP hD hS ls hl
      rw [fX10_keepAll_then_L78] at hF
      refine lv_iload_n hx hb dX10_keepAll_78 rfl (lv_at hl 2 rfl) ?_
      refine lv_bipush (v := 10) hx hb dX10_keepAll_79 (by decide) ?_
      refine lv_icmp_ge (tgt := 126) hx hb dX10_keepAll_81 (by decide) (fun c_13 => ?_) (fun c_13 => ?_)
      · have hF := zt c_13 hF
        obtain rfl := Option.some.inj hF
        exact hret _ _ _ _ hP hD hS dX10_keepAll_126
      · have hF := zf c_13 hF
        refine lv_aload_n hx hb dX10_keepAll_84 rfl (lv_at hl 1 rfl) ?_
        refine lv_bipush (v := 20) hx hb dX10_keepAll_85 (by decide) ?_
        refine lv_iload_n hx hb dX10_keepAll_87 rfl (lv_at hl 2 rfl) ?_
        refine lv_iadd hx hb dX10_keepAll_88 ?_
        refine lv_aload_n hx hb dX10_keepAll_89 rfl (lv_at hl 0 rfl) ?_
        refine va_get (D := D) (ci := 7) (v := .ref (ad_M 1)) (C := RX10) (T := TX10) (N := 58) hx hb hts hin10 hown hK hP 0 rfl rfl 1 (by decide) (hts _ zm_25) (fun _ h9 => h9) rfl dX10_keepAll_90 ?_
        refine lv_iload_n hx hb dX10_keepAll_93 rfl (lv_at hl 2 rfl) ?_
        obtain ⟨h_14, hF⟩ := zgi hF
        refine va_iald hx hb hK hP 1 0 rfl rfl h_14 dX10_keepAll_94 ?_
        obtain ⟨h_15, hF⟩ := zgi hF
        refine z_iast hx hb hK hP hD hS 25 0 rfl rfl h_15 dX10_keepAll_95 (fun g => (wX10_M ca ad_M M_guests M_kind M_figure M_told M_heaps M_holds M_back M_mistakes M_hooks M_letters M_rule M_at M_well M_sort M_text M_row M_field M_fields M_begins M_ruleLetters M_coming M_comingMany M_going M_goingMany M_minute M_pile M_high M_where M_latest M_lifts M_begun M_left M_has M_lifted M_taken M_above M_allLifts M_busy M_longest M_onto M_worst M_best M_orders M_together M_ofOne M_ofOther M_seed g M_was M_kept M_held M_kindOn M_figureOn M_sorts M_size M_items M_moved M_thrown)) (fun _ => rfl) hF (fun M_then_16 H locs hF hP hD hS => ?_)
        refine lv_aload_n hx hb dX10_keepAll_96 rfl (lv_at hl 1 rfl) ?_
        refine lv_bipush (v := 30) hx hb dX10_keepAll_97 (by decide) ?_
        refine lv_iload_n hx hb dX10_keepAll_99 rfl (lv_at hl 2 rfl) ?_
        refine lv_iadd hx hb dX10_keepAll_100 ?_
        refine lv_aload_n hx hb dX10_keepAll_101 rfl (lv_at hl 0 rfl) ?_
        refine va_get (D := D) (ci := 7) (v := .ref (ad_M 2)) (C := RX10) (T := TX10) (N := 58) hx hb hts hin10 hown hK hP 0 rfl rfl 2 (by decide) (hts _ zm_26) (fun _ h9 => h9) rfl dX10_keepAll_102 ?_
        refine lv_iload_n hx hb dX10_keepAll_105 rfl (lv_at hl 2 rfl) ?_
        refine va_iald hx hb hK hP 2 0 rfl rfl h_14 dX10_keepAll_106 ?_
        obtain ⟨h_17, hF⟩ := zgi hF
        refine z_iast hx hb hK hP hD hS 25 0 rfl rfl h_17 dX10_keepAll_107 (fun g => (wX10_M ca ad_M M_guests M_kind M_figure M_told M_heaps M_holds M_back M_mistakes M_hooks M_letters M_rule M_at M_well M_sort M_text M_row M_field M_fields M_begins M_ruleLetters M_coming M_comingMany M_going M_goingMany M_minute M_pile M_high M_where M_latest M_lifts M_begun M_left M_has M_lifted M_taken M_above M_allLifts M_busy M_longest M_onto M_worst M_best M_orders M_together M_ofOne M_ofOther M_seed g M_was M_kept M_held M_kindOn M_figureOn M_sorts M_size M_items M_moved M_thrown)) (fun _ => rfl) hF (fun M_then_18 H locs hF hP hD hS => ?_)
        refine lv_aload_n hx hb dX10_keepAll_108 rfl (lv_at hl 1 rfl) ?_
        refine lv_bipush (v := 40) hx hb dX10_keepAll_109 (by decide) ?_
        refine lv_iload_n hx hb dX10_keepAll_111 rfl (lv_at hl 2 rfl) ?_
        refine lv_iadd hx hb dX10_keepAll_112 ?_
        refine lv_aload_n hx hb dX10_keepAll_113 rfl (lv_at hl 0 rfl) ?_
        refine va_get (D := D) (ci := 7) (v := .ref (ad_M 3)) (C := RX10) (T := TX10) (N := 58) hx hb hts hin10 hown hK hP 0 rfl rfl 3 (by decide) (hts _ zm_31) (fun _ h9 => h9) rfl dX10_keepAll_114 ?_
        refine lv_iload_n hx hb dX10_keepAll_117 rfl (lv_at hl 2 rfl) ?_
        refine va_iald hx hb hK hP 3 0 rfl rfl h_14 dX10_keepAll_118 ?_
        obtain ⟨h_19, hF⟩ := zgi hF
        refine z_iast hx hb hK hP hD hS 25 0 rfl rfl h_19 dX10_keepAll_119 (fun g => (wX10_M ca ad_M M_guests M_kind M_figure M_told M_heaps M_holds M_back M_mistakes M_hooks M_letters M_rule M_at M_well M_sort M_text M_row M_field M_fields M_begins M_ruleLetters M_coming M_comingMany M_going M_goingMany M_minute M_pile M_high M_where M_latest M_lifts M_begun M_left M_has M_lifted M_taken M_above M_allLifts M_busy M_longest M_onto M_worst M_best M_orders M_together M_ofOne M_ofOther M_seed g M_was M_kept M_held M_kindOn M_figureOn M_sorts M_size M_items M_moved M_thrown)) (fun _ => rfl) hF (fun M_then_20 H locs hF hP hD hS => ?_)
        refine z_iinc (kv := 1) hx hb 2 dX10_keepAll_120 hl rfl (by decide) (by decide) (fun g => [(2, .int g), (0, .ref (ad_M 0)), (1, .ref (ad_M 25))]) (fun _ => rfl) hF (fun v2_21 ls hF hl => ?_)
        refine lv_goto (tgt := 78) hx hb dX10_keepAll_123 (by decide) ?_
        exact ih78 v2_21 M_then_20 _ _ hF hP hD hS ls (lv_sub hl [1, 2, 0] rfl)
  have j76 : ∀ (M_then : Nat → Int32) (H : Heap) (locs : List Loc), fX10_keepAll_then_J76 fuel M_kind M_figure M_told M_then = some o → va_P D vwCl (wX10_M ca ad_M M_guests M_kind M_figure M_told M_heaps M_holds M_back M_mistakes M_hooks M_letters M_rule M_at M_well M_sort M_text M_row M_field M_fields M_begins M_ruleLetters M_coming M_comingMany M_going M_goingMany M_minute M_pile M_high M_where M_latest M_lifts M_begun M_left M_has M_lifted M_taken M_above M_allLifts M_busy M_longest M_onto M_worst M_best M_orders M_together M_ofOne M_ofOther M_seed M_then M_was M_kept M_held M_kindOn M_figureOn M_sorts M_size M_items M_moved M_thrown) H → va_D A (wX10_M ca ad_M M_guests M_kind M_figure M_told M_heaps M_holds M_back M_mistakes M_hooks M_letters M_rule M_at M_well M_sort M_text M_row M_field M_fields M_begins M_ruleLetters M_coming M_comingMany M_going M_goingMany M_minute M_pile M_high M_where M_latest M_lifts M_begun M_left M_has M_lifted M_taken M_above M_allLifts M_busy M_longest M_onto M_worst M_best M_orders M_together M_ofOne M_ofOther M_seed M_then M_was M_kept M_held M_kindOn M_figureOn M_sorts M_size M_items M_moved M_thrown) → va_S A s.heap H locs → ∀ ls : Array Slot, lv_has ls 3 [(0, .ref (ad_M 0)), (1, .ref (ad_M 25))] → W p l e roX10_keepAll_then s m args below meth c H locs 0 0 Q (F0 m 76 ls []) := by
    intro M_then H locs hF hP hD hS ls hl
    unfold fX10_keepAll_then_J76 at hF
    refine lv_iconst (v := 0) hx hb dX10_keepAll_76 (by decide) ?_
    refine lv_istore_n (lv' := [(2, .int 0), (0, .ref (ad_M 0)), (1, .ref (ad_M 25))]) hx hb dX10_keepAll_77 rfl hl (by decide) rfl (fun ls hl => ?_)
    exact l78 fuel 0 M_then _ _ hF hP hD hS ls (lv_sub hl [1, 2, 0] rfl)
  have l52 : ∀ (n52 : Nat) (v2 : Int32) (M_then : Nat → Int32) (H : Heap) (locs : List Loc), fX10_keepAll_then_L52 fuel M_kind M_figure M_told M_rule n52 v2 M_then = some o → va_P D vwCl (wX10_M ca ad_M M_guests M_kind M_figure M_told M_heaps M_holds M_back M_mistakes M_hooks M_letters M_rule M_at M_well M_sort M_text M_row M_field M_fields M_begins M_ruleLetters M_coming M_comingMany M_going M_goingMany M_minute M_pile M_high M_where M_latest M_lifts M_begun M_left M_has M_lifted M_taken M_above M_allLifts M_busy M_longest M_onto M_worst M_best M_orders M_together M_ofOne M_ofOther M_seed M_then M_was M_kept M_held M_kindOn M_figureOn M_sorts M_size M_items M_moved M_thrown) H → va_D A (wX10_M ca ad_M M_guests M_kind M_figure M_told M_heaps M_holds M_back M_mistakes M_hooks M_letters M_rule M_at M_well M_sort M_text M_row M_field M_fields M_begins M_ruleLetters M_coming M_comingMany M_going M_goingMany M_minute M_pile M_high M_where M_latest M_lifts M_begun M_left M_has M_lifted M_taken M_above M_allLifts M_busy M_longest M_onto M_worst M_best M_orders M_together M_ofOne M_ofOther M_seed M_then M_was M_kept M_held M_kindOn M_figureOn M_sorts M_size M_items M_moved M_thrown) → va_S A s.heap H locs → ∀ ls : Array Slot, lv_has ls 3 [(0, .ref (ad_M 0)), (1, .ref (ad_M 25)), (2, .int v2)] → W p l e roX10_keepAll_then s m args below meth c H locs 0 0 Q (F0 m 52 ls []) := by
    intro n52
    induction n52 with
    | zero =>
      intro v2 M_then H locs hF
      rw [fX10_keepAll_then_L52] at hF
      cases hF
    | succ n52 ih52 =>
      intro v2 M_then H locs hF hP hD hS ls hl
      rw [fX10_keepAll_then_L52] at hF
      refine lv_iload_n hx hb dX10_keepAll_52 rfl (lv_at hl 2 rfl) ?_
      refine lv_bipush (v := 6) hx hb dX10_keepAll_53 (by decide) ?_
      refine lv_icmp_ge (tgt := 76) hx hb dX10_keepAll_55 (by decide) (fun c_8 => ?_) (fun c_8 => ?_)
      · have hF := zt c_8 hF
        exact j76 M_then _ _ hF hP hD hS ls (lv_sub hl [0, 1] rfl)
      · have hF := zf c_8 hF
        refine lv_aload_n hx hb dX10_keepAll_58 rfl (lv_at hl 1 rfl) ?_
        refine lv_bipush (v := 8) hx hb dX10_keepAll_59 (by decide) ?_
        refine lv_iload_n hx hb dX10_keepAll_61 rfl (lv_at hl 2 rfl) ?_
        refine lv_iadd hx hb dX10_keepAll_62 ?_
        refine lv_aload_n hx hb dX10_keepAll_63 rfl (lv_at hl 0 rfl) ?_
        refine va_get (D := D) (ci := 7) (v := .ref (ad_M 4)) (C := RX10) (T := TX10) (N := 58) hx hb hts hin10 hown hK hP 0 rfl rfl 10 (by decide) (hts _ zm_78) (fun _ h9 => h9) rfl dX10_keepAll_64 ?_
        refine lv_iload_n hx hb dX10_keepAll_67 rfl (lv_at hl 2 rfl) ?_
        obtain ⟨h_9, hF⟩ := zgi hF
        refine va_iald hx hb hK hP 4 0 rfl rfl h_9 dX10_keepAll_68 ?_
        obtain ⟨h_10, hF⟩ := zgi hF
        refine z_iast hx hb hK hP hD hS 25 0 rfl rfl h_10 dX10_keepAll_69 (fun g => (wX10_M ca ad_M M_guests M_kind M_figure M_told M_heaps M_holds M_back M_mistakes M_hooks M_letters M_rule M_at M_well M_sort M_text M_row M_field M_fields M_begins M_ruleLetters M_coming M_comingMany M_going M_goingMany M_minute M_pile M_high M_where M_latest M_lifts M_begun M_left M_has M_lifted M_taken M_above M_allLifts M_busy M_longest M_onto M_worst M_best M_orders M_together M_ofOne M_ofOther M_seed g M_was M_kept M_held M_kindOn M_figureOn M_sorts M_size M_items M_moved M_thrown)) (fun _ => rfl) hF (fun M_then_11 H locs hF hP hD hS => ?_)
        refine z_iinc (kv := 1) hx hb 2 dX10_keepAll_70 hl rfl (by decide) (by decide) (fun g => [(2, .int g), (0, .ref (ad_M 0)), (1, .ref (ad_M 25))]) (fun _ => rfl) hF (fun v2_12 ls hF hl => ?_)
        refine lv_goto (tgt := 52) hx hb dX10_keepAll_73 (by decide) ?_
        exact ih52 v2_12 M_then_11 _ _ hF hP hD hS ls (lv_sub hl [1, 2, 0] rfl)
  unfold fX10_keepAll_then at hF
  refine lv_aload_n hx hb dX10_keepAll_0 rfl (lv_at hl 1 rfl) ?_
  refine lv_iconst (v := 0) hx hb dX10_keepAll_1 (by decide) ?_
  refine lv_aload_n hx hb dX10_keepAll_2 rfl (lv_at hl 0 rfl) ?_
  refine va_get (D := D) (ci := 7) (v := .int M_guests) (C := RX10) (T := TX10) (N := 58) hx hb hts hin10 hown hK hP 0 rfl rfl 0 (by decide) (hts _ zm_16) (fun _ h9 => h9) rfl dX10_keepAll_3 ?_
  refine z_iastK 0 hx hb hK hP hD hS 25 0 rfl rfl (zin_ok (by decide)) (by decide) dX10_keepAll_6 (fun g => (wX10_M ca ad_M M_guests M_kind M_figure M_told M_heaps M_holds M_back M_mistakes M_hooks M_letters M_rule M_at M_well M_sort M_text M_row M_field M_fields M_begins M_ruleLetters M_coming M_comingMany M_going M_goingMany M_minute M_pile M_high M_where M_latest M_lifts M_begun M_left M_has M_lifted M_taken M_above M_allLifts M_busy M_longest M_onto M_worst M_best M_orders M_together M_ofOne M_ofOther M_seed g M_was M_kept M_held M_kindOn M_figureOn M_sorts M_size M_items M_moved M_thrown)) (fun _ => rfl) hF (fun M_then_1 H locs hF hP hD hS => ?_)
  refine lv_aload_n hx hb dX10_keepAll_7 rfl (lv_at hl 1 rfl) ?_
  refine lv_iconst (v := 1) hx hb dX10_keepAll_8 (by decide) ?_
  refine lv_aload_n hx hb dX10_keepAll_9 rfl (lv_at hl 0 rfl) ?_
  refine va_get (D := D) (ci := 7) (v := .int M_heaps) (C := RX10) (T := TX10) (N := 58) hx hb hts hin10 hown hK hP 0 rfl rfl 4 (by decide) (hts _ zm_58) (fun _ h9 => h9) rfl dX10_keepAll_10 ?_
  refine z_iastK 1 hx hb hK hP hD hS 25 0 rfl rfl (zin_ok (by decide)) (by decide) dX10_keepAll_13 (fun g => (wX10_M ca ad_M M_guests M_kind M_figure M_told M_heaps M_holds M_back M_mistakes M_hooks M_letters M_rule M_at M_well M_sort M_text M_row M_field M_fields M_begins M_ruleLetters M_coming M_comingMany M_going M_goingMany M_minute M_pile M_high M_where M_latest M_lifts M_begun M_left M_has M_lifted M_taken M_above M_allLifts M_busy M_longest M_onto M_worst M_best M_orders M_together M_ofOne M_ofOther M_seed g M_was M_kept M_held M_kindOn M_figureOn M_sorts M_size M_items M_moved M_thrown)) (fun _ => rfl) hF (fun M_then_2 H locs hF hP hD hS => ?_)
  refine lv_aload_n hx hb dX10_keepAll_14 rfl (lv_at hl 1 rfl) ?_
  refine lv_iconst (v := 2) hx hb dX10_keepAll_15 (by decide) ?_
  refine lv_aload_n hx hb dX10_keepAll_16 rfl (lv_at hl 0 rfl) ?_
  refine va_get (D := D) (ci := 7) (v := .int M_holds) (C := RX10) (T := TX10) (N := 58) hx hb hts hin10 hown hK hP 0 rfl rfl 5 (by decide) (hts _ zm_59) (fun _ h9 => h9) rfl dX10_keepAll_17 ?_
  refine z_iastK 2 hx hb hK hP hD hS 25 0 rfl rfl (zin_ok (by decide)) (by decide) dX10_keepAll_20 (fun g => (wX10_M ca ad_M M_guests M_kind M_figure M_told M_heaps M_holds M_back M_mistakes M_hooks M_letters M_rule M_at M_well M_sort M_text M_row M_field M_fields M_begins M_ruleLetters M_coming M_comingMany M_going M_goingMany M_minute M_pile M_high M_where M_latest M_lifts M_begun M_left M_has M_lifted M_taken M_above M_allLifts M_busy M_longest M_onto M_worst M_best M_orders M_together M_ofOne M_ofOther M_seed g M_was M_kept M_held M_kindOn M_figureOn M_sorts M_size M_items M_moved M_thrown)) (fun _ => rfl) hF (fun M_then_3 H locs hF hP hD hS => ?_)
  refine lv_aload_n hx hb dX10_keepAll_21 rfl (lv_at hl 1 rfl) ?_
  refine lv_iconst (v := 3) hx hb dX10_keepAll_22 (by decide) ?_
  refine lv_aload_n hx hb dX10_keepAll_23 rfl (lv_at hl 0 rfl) ?_
  refine va_get (D := D) (ci := 7) (v := .int M_back) (C := RX10) (T := TX10) (N := 58) hx hb hts hin10 hown hK hP 0 rfl rfl 6 (by decide) (hts _ zm_60) (fun _ h9 => h9) rfl dX10_keepAll_24 ?_
  refine z_iastK 3 hx hb hK hP hD hS 25 0 rfl rfl (zin_ok (by decide)) (by decide) dX10_keepAll_27 (fun g => (wX10_M ca ad_M M_guests M_kind M_figure M_told M_heaps M_holds M_back M_mistakes M_hooks M_letters M_rule M_at M_well M_sort M_text M_row M_field M_fields M_begins M_ruleLetters M_coming M_comingMany M_going M_goingMany M_minute M_pile M_high M_where M_latest M_lifts M_begun M_left M_has M_lifted M_taken M_above M_allLifts M_busy M_longest M_onto M_worst M_best M_orders M_together M_ofOne M_ofOther M_seed g M_was M_kept M_held M_kindOn M_figureOn M_sorts M_size M_items M_moved M_thrown)) (fun _ => rfl) hF (fun M_then_4 H locs hF hP hD hS => ?_)
  refine lv_aload_n hx hb dX10_keepAll_28 rfl (lv_at hl 1 rfl) ?_
  refine lv_iconst (v := 4) hx hb dX10_keepAll_29 (by decide) ?_
  refine lv_aload_n hx hb dX10_keepAll_30 rfl (lv_at hl 0 rfl) ?_
  refine va_get (D := D) (ci := 7) (v := .int M_mistakes) (C := RX10) (T := TX10) (N := 58) hx hb hts hin10 hown hK hP 0 rfl rfl 7 (by decide) (hts _ zm_61) (fun _ h9 => h9) rfl dX10_keepAll_31 ?_
  refine z_iastK 4 hx hb hK hP hD hS 25 0 rfl rfl (zin_ok (by decide)) (by decide) dX10_keepAll_34 (fun g => (wX10_M ca ad_M M_guests M_kind M_figure M_told M_heaps M_holds M_back M_mistakes M_hooks M_letters M_rule M_at M_well M_sort M_text M_row M_field M_fields M_begins M_ruleLetters M_coming M_comingMany M_going M_goingMany M_minute M_pile M_high M_where M_latest M_lifts M_begun M_left M_has M_lifted M_taken M_above M_allLifts M_busy M_longest M_onto M_worst M_best M_orders M_together M_ofOne M_ofOther M_seed g M_was M_kept M_held M_kindOn M_figureOn M_sorts M_size M_items M_moved M_thrown)) (fun _ => rfl) hF (fun M_then_5 H locs hF hP hD hS => ?_)
  refine lv_aload_n hx hb dX10_keepAll_35 rfl (lv_at hl 1 rfl) ?_
  refine lv_iconst (v := 5) hx hb dX10_keepAll_36 (by decide) ?_
  refine lv_aload_n hx hb dX10_keepAll_37 rfl (lv_at hl 0 rfl) ?_
  refine va_get (D := D) (ci := 7) (v := .int M_hooks) (C := RX10) (T := TX10) (N := 58) hx hb hts hin10 hown hK hP 0 rfl rfl 8 (by decide) (hts _ zm_30) (fun _ h9 => h9) rfl dX10_keepAll_38 ?_
  refine z_iastK 5 hx hb hK hP hD hS 25 0 rfl rfl (zin_ok (by decide)) (by decide) dX10_keepAll_41 (fun g => (wX10_M ca ad_M M_guests M_kind M_figure M_told M_heaps M_holds M_back M_mistakes M_hooks M_letters M_rule M_at M_well M_sort M_text M_row M_field M_fields M_begins M_ruleLetters M_coming M_comingMany M_going M_goingMany M_minute M_pile M_high M_where M_latest M_lifts M_begun M_left M_has M_lifted M_taken M_above M_allLifts M_busy M_longest M_onto M_worst M_best M_orders M_together M_ofOne M_ofOther M_seed g M_was M_kept M_held M_kindOn M_figureOn M_sorts M_size M_items M_moved M_thrown)) (fun _ => rfl) hF (fun M_then_6 H locs hF hP hD hS => ?_)
  refine lv_aload_n hx hb dX10_keepAll_42 rfl (lv_at hl 1 rfl) ?_
  refine lv_bipush (v := 6) hx hb dX10_keepAll_43 (by decide) ?_
  refine lv_aload_n hx hb dX10_keepAll_45 rfl (lv_at hl 0 rfl) ?_
  refine va_get (D := D) (ci := 7) (v := .int M_letters) (C := RX10) (T := TX10) (N := 58) hx hb hts hin10 hown hK hP 0 rfl rfl 9 (by decide) (hts _ zm_73) (fun _ h9 => h9) rfl dX10_keepAll_46 ?_
  refine z_iastK 6 hx hb hK hP hD hS 25 0 rfl rfl (zin_ok (by decide)) (by decide) dX10_keepAll_49 (fun g => (wX10_M ca ad_M M_guests M_kind M_figure M_told M_heaps M_holds M_back M_mistakes M_hooks M_letters M_rule M_at M_well M_sort M_text M_row M_field M_fields M_begins M_ruleLetters M_coming M_comingMany M_going M_goingMany M_minute M_pile M_high M_where M_latest M_lifts M_begun M_left M_has M_lifted M_taken M_above M_allLifts M_busy M_longest M_onto M_worst M_best M_orders M_together M_ofOne M_ofOther M_seed g M_was M_kept M_held M_kindOn M_figureOn M_sorts M_size M_items M_moved M_thrown)) (fun _ => rfl) hF (fun M_then_7 H locs hF hP hD hS => ?_)
  refine lv_iconst (v := 0) hx hb dX10_keepAll_50 (by decide) ?_
  refine lv_istore_n (lv' := [(2, .int 0), (0, .ref (ad_M 0)), (1, .ref (ad_M 25))]) hx hb dX10_keepAll_51 rfl hl (by decide) rfl (fun ls hl => ?_)
  exact l52 fuel 0 M_then_7 _ _ hF hP hD hS ls (lv_sub hl [1, 2, 0] rfl)
abbrev roX10_keepAll_was : Room := { frames := 0, cells := 0, slots := 0, locals := 0 }
set_option maxHeartbeats 4000000 in
set_option maxRecDepth 100000 in
theorem kX10_keepAll_was (l : Launch) (D : va_G) (ca : Nat → ClassId) (t : Nat → Nat) (ad_M : Nat → Nat) (M_guests : Int32) (M_kind : Nat → Int32) (M_figure : Nat → Int32) (M_told : Nat → Int32) (M_heaps : Int32) (M_holds : Int32) (M_back : Int32) (M_mistakes : Int32) (M_hooks : Int32) (M_letters : Int32) (M_rule : Nat → Int32) (M_at : Int32) (M_well : Int32) (M_sort : Int32) (M_text : Int32) (M_row : Int32) (M_field : Nat → Int32) (M_fields : Int32) (M_begins : Nat → Int32) (M_ruleLetters : Nat → Int32) (M_coming : Nat → Int32) (M_comingMany : Int32) (M_going : Nat → Int32) (M_goingMany : Int32) (M_minute : Nat → Int32) (M_pile : Nat → Int32) (M_high : Nat → Int32) (M_where : Nat → Int32) (M_latest : Int32) (M_lifts : Nat → Int32) (M_begun : Nat → Int32) (M_left : Nat → Int32) (M_has : Nat → Int32) (M_lifted : Nat → Int32) (M_taken : Nat → Int32) (M_above : Nat → Int32) (M_allLifts : Int32) (M_busy : Int32) (M_longest : Nat → Int32) (M_onto : Nat → Int32) (M_worst : Int32) (M_best : Int32) (M_orders : Int32) (M_together : Int32) (M_ofOne : Nat → Int32) (M_ofOther : Nat → Int32) (M_seed : Int32) (M_then : Nat → Int32) (M_was : Nat → Int32) (M_kept : Int32) (M_held : Nat → Int32) (M_kindOn : Nat → Int32) (M_figureOn : Nat → Int32) (M_sorts : Nat → Int32) (M_size : Nat → Int32) (M_items : Nat → Int32) (M_moved : Nat → Int32) (M_thrown : Int32) (fuel : Nat) (o : (Nat → Int32)) (hF : fX10_keepAll_was fuel M_guests M_kind M_figure M_told M_heaps M_holds M_back M_mistakes M_hooks M_letters M_rule M_was = some o) : zMv l D (zT ca) t yX10_keepAll (.code yX10_keepAll cX10_keepAll 3 none :: zW) roX10_keepAll_was [.ref (ad_M 0), .ref (ad_M 26)] (wX10_M ca ad_M M_guests M_kind M_figure M_told M_heaps M_holds M_back M_mistakes M_hooks M_letters M_rule M_at M_well M_sort M_text M_row M_field M_fields M_begins M_ruleLetters M_coming M_comingMany M_going M_goingMany M_minute M_pile M_high M_where M_latest M_lifts M_begun M_left M_has M_lifted M_taken M_above M_allLifts M_busy M_longest M_onto M_worst M_best M_orders M_together M_ofOne M_ofOther M_seed M_then M_was M_kept M_held M_kindOn M_figureOn M_sorts M_size M_items M_moved M_thrown) (wX10_M ca ad_M M_guests M_kind M_figure M_told M_heaps M_holds M_back M_mistakes M_hooks M_letters M_rule M_at M_well M_sort M_text M_row M_field M_fields M_begins M_ruleLetters M_coming M_comingMany M_going M_goingMany M_minute M_pile M_high M_where M_latest M_lifts M_begun M_left M_has M_lifted M_taken M_above M_allLifts M_busy M_longest M_onto M_worst M_best M_orders M_together M_ofOne M_ofOther M_seed M_then o M_kept M_held M_kindOn M_figureOn M_sorts M_size M_items M_moved M_thrown) := by
  refine zMv_of (cc := cX10_keepAll) (maxL := 3) (by decide) rfl (Nat.le_of_ble_eq_true rfl) ?_
  intro p e s m args below meth c A Q ls ⟨hx, hb, hml, hown, hts, hA, hK, hZ, hS⟩ hret hP hD hl
  have hts := fun w h => hts w (List.mem_cons_of_mem _ h)
  have hown : s.vm.findClass RX10 = some m.cls := hown
  have hl : lv_has ls 3 [(0, .ref (ad_M 0)), (1, .ref (ad_M 26))] := hl
  have hin10 := zin_X10
  have l78 : ∀ (n78 : Nat) (v2 : Int32) (M_was : Nat → Int32) (H : Heap) (locs : List Loc), fX10_keepAll_was_L78 M_kind M_figure M_told n78 v2 M_was = some o → va_P D vwCl (wX10_M ca ad_M M_guests M_kind M_figure M_told M_heaps M_holds M_back M_mistakes M_hooks M_letters M_rule M_at M_well M_sort M_text M_row M_field M_fields M_begins M_ruleLetters M_coming M_comingMany M_going M_goingMany M_minute M_pile M_high M_where M_latest M_lifts M_begun M_left M_has M_lifted M_taken M_above M_allLifts M_busy M_longest M_onto M_worst M_best M_orders M_together M_ofOne M_ofOther M_seed M_then M_was M_kept M_held M_kindOn M_figureOn M_sorts M_size M_items M_moved M_thrown) H → va_D A (wX10_M ca ad_M M_guests M_kind M_figure M_told M_heaps M_holds M_back M_mistakes M_hooks M_letters M_rule M_at M_well M_sort M_text M_row M_field M_fields M_begins M_ruleLetters M_coming M_comingMany M_going M_goingMany M_minute M_pile M_high M_where M_latest M_lifts M_begun M_left M_has M_lifted M_taken M_above M_allLifts M_busy M_longest M_onto M_worst M_best M_orders M_together M_ofOne M_ofOther M_seed M_then M_was M_kept M_held M_kindOn M_figureOn M_sorts M_size M_items M_moved M_thrown) → va_S A s.heap H locs → ∀ ls : Array Slot, lv_has ls 3 [(0, .ref (ad_M 0)), (1, .ref (ad_M 26)), (2, .int v2)] → W p l e roX10_keepAll_was s m args below meth c H locs 0 0 Q (F0 m 78 ls []) := by
    intro n78
    induction n78 with
    | zero =>
      intro v2 M_was H locs hF
      rw [fX10_keepAll_was_L78] at hF
      cases hF
    | succ n78 ih78 =>
      intro v2 M_was H locs hF hP hD hS ls hl
      rw [fX10_keepAll_was_L78] at hF
      refine lv_iload_n hx hb dX10_keepAll_78 rfl (lv_at hl 2 rfl) ?_
      refine lv_bipush (v := 10) hx hb dX10_keepAll_79 (by decide) ?_
      refine lv_icmp_ge (tgt := 126) hx hb dX10_keepAll_81 (by decide) (fun c_13 => ?_) (fun c_13 => ?_)
      · have hF := zt c_13 hF
        obtain rfl := Option.some.inj hF
        exact hret _ _ _ _ hP hD hS dX10_keepAll_126
      · have hF := zf c_13 hF
        refine lv_aload_n hx hb dX10_keepAll_84 rfl (lv_at hl 1 rfl) ?_
        refine lv_bipush (v := 20) hx hb dX10_keepAll_85 (by decide) ?_
        refine lv_iload_n hx hb dX10_keepAll_87 rfl (lv_at hl 2 rfl) ?_
        refine lv_iadd hx hb dX10_keepAll_88 ?_
        refine lv_aload_n hx hb dX10_keepAll_89 rfl (lv_at hl 0 rfl) ?_
        refine va_get (D := D) (ci := 7) (v := .ref (ad_M 1)) (C := RX10) (T := TX10) (N := 58) hx hb hts hin10 hown hK hP 0 rfl rfl 1 (by decide) (hts _ zm_25) (fun _ h9 => h9) rfl dX10_keepAll_90 ?_
        refine lv_iload_n hx hb dX10_keepAll_93 rfl (lv_at hl 2 rfl) ?_
        obtain ⟨h_14, hF⟩ := zgi hF
        refine va_iald hx hb hK hP 1 0 rfl rfl h_14 dX10_keepAll_94 ?_
        obtain ⟨h_15, hF⟩ := zgi hF
        refine z_iast hx hb hK hP hD hS 26 0 rfl rfl h_15 dX10_keepAll_95 (fun g => (wX10_M ca ad_M M_guests M_kind M_figure M_told M_heaps M_holds M_back M_mistakes M_hooks M_letters M_rule M_at M_well M_sort M_text M_row M_field M_fields M_begins M_ruleLetters M_coming M_comingMany M_going M_goingMany M_minute M_pile M_high M_where M_latest M_lifts M_begun M_left M_has M_lifted M_taken M_above M_allLifts M_busy M_longest M_onto M_worst M_best M_orders M_together M_ofOne M_ofOther M_seed M_then g M_kept M_held M_kindOn M_figureOn M_sorts M_size M_items M_moved M_thrown)) (fun _ => rfl) hF (fun M_was_16 H locs hF hP hD hS => ?_)
        refine lv_aload_n hx hb dX10_keepAll_96 rfl (lv_at hl 1 rfl) ?_
        refine lv_bipush (v := 30) hx hb dX10_keepAll_97 (by decide) ?_
        refine lv_iload_n hx hb dX10_keepAll_99 rfl (lv_at hl 2 rfl) ?_
        refine lv_iadd hx hb dX10_keepAll_100 ?_
        refine lv_aload_n hx hb dX10_keepAll_101 rfl (lv_at hl 0 rfl) ?_
        refine va_get (D := D) (ci := 7) (v := .ref (ad_M 2)) (C := RX10) (T := TX10) (N := 58) hx hb hts hin10 hown hK hP 0 rfl rfl 2 (by decide) (hts _ zm_26) (fun _ h9 => h9) rfl dX10_keepAll_102 ?_
        refine lv_iload_n hx hb dX10_keepAll_105 rfl (lv_at hl 2 rfl) ?_
        refine va_iald hx hb hK hP 2 0 rfl rfl h_14 dX10_keepAll_106 ?_
        obtain ⟨h_17, hF⟩ := zgi hF
        refine z_iast hx hb hK hP hD hS 26 0 rfl rfl h_17 dX10_keepAll_107 (fun g => (wX10_M ca ad_M M_guests M_kind M_figure M_told M_heaps M_holds M_back M_mistakes M_hooks M_letters M_rule M_at M_well M_sort M_text M_row M_field M_fields M_begins M_ruleLetters M_coming M_comingMany M_going M_goingMany M_minute M_pile M_high M_where M_latest M_lifts M_begun M_left M_has M_lifted M_taken M_above M_allLifts M_busy M_longest M_onto M_worst M_best M_orders M_together M_ofOne M_ofOther M_seed M_then g M_kept M_held M_kindOn M_figureOn M_sorts M_size M_items M_moved M_thrown)) (fun _ => rfl) hF (fun M_was_18 H locs hF hP hD hS => ?_)
        refine lv_aload_n hx hb dX10_keepAll_108 rfl (lv_at hl 1 rfl) ?_
        refine lv_bipush (v := 40) hx hb dX10_keepAll_109 (by decide) ?_
        refine lv_iload_n hx hb dX10_keepAll_111 rfl (lv_at hl 2 rfl) ?_
        refine lv_iadd hx hb dX10_keepAll_112 ?_
        refine lv_aload_n hx hb dX10_keepAll_113 rfl (lv_at hl 0 rfl) ?_
        refine va_get (D := D) (ci := 7) (v := .ref (ad_M 3)) (C := RX10) (T := TX10) (N := 58) hx hb hts hin10 hown hK hP 0 rfl rfl 3 (by decide) (hts _ zm_31) (fun _ h9 => h9) rfl dX10_keepAll_114 ?_
        refine lv_iload_n hx hb dX10_keepAll_117 rfl (lv_at hl 2 rfl) ?_
        refine va_iald hx hb hK hP 3 0 rfl rfl h_14 dX10_keepAll_118 ?_
        obtain ⟨h_19, hF⟩ := zgi hF
        refine z_iast hx hb hK hP hD hS 26 0 rfl rfl h_19 dX10_keepAll_119 (fun g => (wX10_M ca ad_M M_guests M_kind M_figure M_told M_heaps M_holds M_back M_mistakes M_hooks M_letters M_rule M_at M_well M_sort M_text M_row M_field M_fields M_begins M_ruleLetters M_coming M_comingMany M_going M_goingMany M_minute M_pile M_high M_where M_latest M_lifts M_begun M_left M_has M_lifted M_taken M_above M_allLifts M_busy M_longest M_onto M_worst M_best M_orders M_together M_ofOne M_ofOther M_seed M_then g M_kept M_held M_kindOn M_figureOn M_sorts M_size M_items M_moved M_thrown)) (fun _ => rfl) hF (fun M_was_20 H locs hF hP hD hS => ?_)
        refine z_iinc (kv := 1) hx hb 2 dX10_keepAll_120 hl rfl (by decide) (by decide) (fun g => [(2, .int g), (0, .ref (ad_M 0)), (1, .ref (ad_M 26))]) (fun _ => rfl) hF (fun v2_21 ls hF hl => ?_)
        refine lv_goto (tgt := 78) hx hb dX10_keepAll_123 (by decide) ?_
        exact ih78 v2_21 M_was_20 _ _ hF hP hD hS ls (lv_sub hl [1, 2, 0] rfl)
  have j76 : ∀ (M_was : Nat → Int32) (H : Heap) (locs : List Loc), fX10_keepAll_was_J76 fuel M_kind M_figure M_told M_was = some o → va_P D vwCl (wX10_M ca ad_M M_guests M_kind M_figure M_told M_heaps M_holds M_back M_mistakes M_hooks M_letters M_rule M_at M_well M_sort M_text M_row M_field M_fields M_begins M_ruleLetters M_coming M_comingMany M_going M_goingMany M_minute M_pile M_high M_where M_latest M_lifts M_begun M_left M_has M_lifted M_taken M_above M_allLifts M_busy M_longest M_onto M_worst M_best M_orders M_together M_ofOne M_ofOther M_seed M_then M_was M_kept M_held M_kindOn M_figureOn M_sorts M_size M_items M_moved M_thrown) H → va_D A (wX10_M ca ad_M M_guests M_kind M_figure M_told M_heaps M_holds M_back M_mistakes M_hooks M_letters M_rule M_at M_well M_sort M_text M_row M_field M_fields M_begins M_ruleLetters M_coming M_comingMany M_going M_goingMany M_minute M_pile M_high M_where M_latest M_lifts M_begun M_left M_has M_lifted M_taken M_above M_allLifts M_busy M_longest M_onto M_worst M_best M_orders M_together M_ofOne M_ofOther M_seed M_then M_was M_kept M_held M_kindOn M_figureOn M_sorts M_size M_items M_moved M_thrown) → va_S A s.heap H locs → ∀ ls : Array Slot, lv_has ls 3 [(0, .ref (ad_M 0)), (1, .ref (ad_M 26))] → W p l e roX10_keepAll_was s m args below meth c H locs 0 0 Q (F0 m 76 ls []) := by
    intro M_was H locs hF hP hD hS ls hl
    unfold fX10_keepAll_was_J76 at hF
    refine lv_iconst (v := 0) hx hb dX10_keepAll_76 (by decide) ?_
    refine lv_istore_n (lv' := [(2, .int 0), (0, .ref (ad_M 0)), (1, .ref (ad_M 26))]) hx hb dX10_keepAll_77 rfl hl (by decide) rfl (fun ls hl => ?_)
    exact l78 fuel 0 M_was _ _ hF hP hD hS ls (lv_sub hl [1, 2, 0] rfl)
  have l52 : ∀ (n52 : Nat) (v2 : Int32) (M_was : Nat → Int32) (H : Heap) (locs : List Loc), fX10_keepAll_was_L52 fuel M_kind M_figure M_told M_rule n52 v2 M_was = some o → va_P D vwCl (wX10_M ca ad_M M_guests M_kind M_figure M_told M_heaps M_holds M_back M_mistakes M_hooks M_letters M_rule M_at M_well M_sort M_text M_row M_field M_fields M_begins M_ruleLetters M_coming M_comingMany M_going M_goingMany M_minute M_pile M_high M_where M_latest M_lifts M_begun M_left M_has M_lifted M_taken M_above M_allLifts M_busy M_longest M_onto M_worst M_best M_orders M_together M_ofOne M_ofOther M_seed M_then M_was M_kept M_held M_kindOn M_figureOn M_sorts M_size M_items M_moved M_thrown) H → va_D A (wX10_M ca ad_M M_guests M_kind M_figure M_told M_heaps M_holds M_back M_mistakes M_hooks M_letters M_rule M_at M_well M_sort M_text M_row M_field M_fields M_begins M_ruleLetters M_coming M_comingMany M_going M_goingMany M_minute M_pile M_high M_where M_latest M_lifts M_begun M_left M_has M_lifted M_taken M_above M_allLifts M_busy M_longest M_onto M_worst M_best M_orders M_together M_ofOne M_ofOther M_seed M_then M_was M_kept M_held M_kindOn M_figureOn M_sorts M_size M_items M_moved M_thrown) → va_S A s.heap H locs → ∀ ls : Array Slot, lv_has ls 3 [(0, .ref (ad_M 0)), (1, .ref (ad_M 26)), (2, .int v2)] → W p l e roX10_keepAll_was s m args below meth c H locs 0 0 Q (F0 m 52 ls []) := by
    intro n52
    induction n52 with
    | zero =>
      intro v2 M_was H locs hF
      rw [fX10_keepAll_was_L52] at hF
      cases hF
    | succ n52 ih52 =>
      intro v2 M_was H locs hF hP hD hS ls hl
      rw [fX10_keepAll_was_L52] at hF
      refine lv_iload_n hx hb dX10_keepAll_52 rfl (lv_at hl 2 rfl) ?_
      refine lv_bipush (v := 6) hx hb dX10_keepAll_53 (by decide) ?_
      refine lv_icmp_ge (tgt := 76) hx hb dX10_keepAll_55 (by decide) (fun c_8 => ?_) (fun c_8 => ?_)
      · have hF := zt c_8 hF
        exact j76 M_was _ _ hF hP hD hS ls (lv_sub hl [0, 1] rfl)
      · have hF := zf c_8 hF
        refine lv_aload_n hx hb dX10_keepAll_58 rfl (lv_at hl 1 rfl) ?_
        refine lv_bipush (v := 8) hx hb dX10_keepAll_59 (by decide) ?_
        refine lv_iload_n hx hb dX10_keepAll_61 rfl (lv_at hl 2 rfl) ?_
        refine lv_iadd hx hb dX10_keepAll_62 ?_
        refine lv_aload_n hx hb dX10_keepAll_63 rfl (lv_at hl 0 rfl) ?_
        refine va_get (D := D) (ci := 7) (v := .ref (ad_M 4)) (C := RX10) (T := TX10) (N := 58) hx hb hts hin10 hown hK hP 0 rfl rfl 10 (by decide) (hts _ zm_78) (fun _ h9 => h9) rfl dX10_keepAll_64 ?_
        refine lv_iload_n hx hb dX10_keepAll_67 rfl (lv_at hl 2 rfl) ?_
        obtain ⟨h_9, hF⟩ := zgi hF
        refine va_iald hx hb hK hP 4 0 rfl rfl h_9 dX10_keepAll_68 ?_
        obtain ⟨h_10, hF⟩ := zgi hF
        refine z_iast hx hb hK hP hD hS 26 0 rfl rfl h_10 dX10_keepAll_69 (fun g => (wX10_M ca ad_M M_guests M_kind M_figure M_told M_heaps M_holds M_back M_mistakes M_hooks M_letters M_rule M_at M_well M_sort M_text M_row M_field M_fields M_begins M_ruleLetters M_coming M_comingMany M_going M_goingMany M_minute M_pile M_high M_where M_latest M_lifts M_begun M_left M_has M_lifted M_taken M_above M_allLifts M_busy M_longest M_onto M_worst M_best M_orders M_together M_ofOne M_ofOther M_seed M_then g M_kept M_held M_kindOn M_figureOn M_sorts M_size M_items M_moved M_thrown)) (fun _ => rfl) hF (fun M_was_11 H locs hF hP hD hS => ?_)
        refine z_iinc (kv := 1) hx hb 2 dX10_keepAll_70 hl rfl (by decide) (by decide) (fun g => [(2, .int g), (0, .ref (ad_M 0)), (1, .ref (ad_M 26))]) (fun _ => rfl) hF (fun v2_12 ls hF hl => ?_)
        refine lv_goto (tgt := 52) hx hb dX10_keepAll_73 (by decide) ?_
        exact ih52 v2_12 M_was_11 _ _ hF hP hD hS ls (lv_sub hl [1, 2, 0] rfl)
  unfold fX10_keepAll_was at hF
  refine lv_aload_n hx hb dX10_keepAll_0 rfl (lv_at hl 1 rfl) ?_
  refine lv_iconst (v := 0) hx hb dX10_keepAll_1 (by decide) ?_
  refine lv_aload_n hx hb dX10_keepAll_2 rfl (lv_at hl 0 rfl) ?_
  refine va_get (D := D) (ci := 7) (v := .int M_guests) (C := RX10) (T := TX10) (N := 58) hx hb hts hin10 hown hK hP 0 rfl rfl 0 (by decide) (hts _ zm_16) (fun _ h9 => h9) rfl dX10_keepAll_3 ?_
  refine z_iastK 0 hx hb hK hP hD hS 26 0 rfl rfl (zin_ok (by decide)) (by decide) dX10_keepAll_6 (fun g => (wX10_M ca ad_M M_guests M_kind M_figure M_told M_heaps M_holds M_back M_mistakes M_hooks M_letters M_rule M_at M_well M_sort M_text M_row M_field M_fields M_begins M_ruleLetters M_coming M_comingMany M_going M_goingMany M_minute M_pile M_high M_where M_latest M_lifts M_begun M_left M_has M_lifted M_taken M_above M_allLifts M_busy M_longest M_onto M_worst M_best M_orders M_together M_ofOne M_ofOther M_seed M_then g M_kept M_held M_kindOn M_figureOn M_sorts M_size M_items M_moved M_thrown)) (fun _ => rfl) hF (fun M_was_1 H locs hF hP hD hS => ?_)
  refine lv_aload_n hx hb dX10_keepAll_7 rfl (lv_at hl 1 rfl) ?_
  refine lv_iconst (v := 1) hx hb dX10_keepAll_8 (by decide) ?_
  refine lv_aload_n hx hb dX10_keepAll_9 rfl (lv_at hl 0 rfl) ?_
  refine va_get (D := D) (ci := 7) (v := .int M_heaps) (C := RX10) (T := TX10) (N := 58) hx hb hts hin10 hown hK hP 0 rfl rfl 4 (by decide) (hts _ zm_58) (fun _ h9 => h9) rfl dX10_keepAll_10 ?_
  refine z_iastK 1 hx hb hK hP hD hS 26 0 rfl rfl (zin_ok (by decide)) (by decide) dX10_keepAll_13 (fun g => (wX10_M ca ad_M M_guests M_kind M_figure M_told M_heaps M_holds M_back M_mistakes M_hooks M_letters M_rule M_at M_well M_sort M_text M_row M_field M_fields M_begins M_ruleLetters M_coming M_comingMany M_going M_goingMany M_minute M_pile M_high M_where M_latest M_lifts M_begun M_left M_has M_lifted M_taken M_above M_allLifts M_busy M_longest M_onto M_worst M_best M_orders M_together M_ofOne M_ofOther M_seed M_then g M_kept M_held M_kindOn M_figureOn M_sorts M_size M_items M_moved M_thrown)) (fun _ => rfl) hF (fun M_was_2 H locs hF hP hD hS => ?_)
  refine lv_aload_n hx hb dX10_keepAll_14 rfl (lv_at hl 1 rfl) ?_
  refine lv_iconst (v := 2) hx hb dX10_keepAll_15 (by decide) ?_
  refine lv_aload_n hx hb dX10_keepAll_16 rfl (lv_at hl 0 rfl) ?_
  refine va_get (D := D) (ci := 7) (v := .int M_holds) (C := RX10) (T := TX10) (N := 58) hx hb hts hin10 hown hK hP 0 rfl rfl 5 (by decide) (hts _ zm_59) (fun _ h9 => h9) rfl dX10_keepAll_17 ?_
  refine z_iastK 2 hx hb hK hP hD hS 26 0 rfl rfl (zin_ok (by decide)) (by decide) dX10_keepAll_20 (fun g => (wX10_M ca ad_M M_guests M_kind M_figure M_told M_heaps M_holds M_back M_mistakes M_hooks M_letters M_rule M_at M_well M_sort M_text M_row M_field M_fields M_begins M_ruleLetters M_coming M_comingMany M_going M_goingMany M_minute M_pile M_high M_where M_latest M_lifts M_begun M_left M_has M_lifted M_taken M_above M_allLifts M_busy M_longest M_onto M_worst M_best M_orders M_together M_ofOne M_ofOther M_seed M_then g M_kept M_held M_kindOn M_figureOn M_sorts M_size M_items M_moved M_thrown)) (fun _ => rfl) hF (fun M_was_3 H locs hF hP hD hS => ?_)
  refine lv_aload_n hx hb dX10_keepAll_21 rfl (lv_at hl 1 rfl) ?_
  refine lv_iconst (v := 3) hx hb dX10_keepAll_22 (by decide) ?_
  refine lv_aload_n hx hb dX10_keepAll_23 rfl (lv_at hl 0 rfl) ?_
  refine va_get (D := D) (ci := 7) (v := .int M_back) (C := RX10) (T := TX10) (N := 58) hx hb hts hin10 hown hK hP 0 rfl rfl 6 (by decide) (hts _ zm_60) (fun _ h9 => h9) rfl dX10_keepAll_24 ?_
  refine z_iastK 3 hx hb hK hP hD hS 26 0 rfl rfl (zin_ok (by decide)) (by decide) dX10_keepAll_27 (fun g => (wX10_M ca ad_M M_guests M_kind M_figure M_told M_heaps M_holds M_back M_mistakes M_hooks M_letters M_rule M_at M_well M_sort M_text M_row M_field M_fields M_begins M_ruleLetters M_coming M_comingMany M_going M_goingMany M_minute M_pile M_high M_where M_latest M_lifts M_begun M_left M_has M_lifted M_taken M_above M_allLifts M_busy M_longest M_onto M_worst M_best M_orders M_together M_ofOne M_ofOther M_seed M_then g M_kept M_held M_kindOn M_figureOn M_sorts M_size M_items M_moved M_thrown)) (fun _ => rfl) hF (fun M_was_4 H locs hF hP hD hS => ?_)
  refine lv_aload_n hx hb dX10_keepAll_28 rfl (lv_at hl 1 rfl) ?_
  refine lv_iconst (v := 4) hx hb dX10_keepAll_29 (by decide) ?_
  refine lv_aload_n hx hb dX10_keepAll_30 rfl (lv_at hl 0 rfl) ?_
  refine va_get (D := D) (ci := 7) (v := .int M_mistakes) (C := RX10) (T := TX10) (N := 58) hx hb hts hin10 hown hK hP 0 rfl rfl 7 (by decide) (hts _ zm_61) (fun _ h9 => h9) rfl dX10_keepAll_31 ?_
  refine z_iastK 4 hx hb hK hP hD hS 26 0 rfl rfl (zin_ok (by decide)) (by decide) dX10_keepAll_34 (fun g => (wX10_M ca ad_M M_guests M_kind M_figure M_told M_heaps M_holds M_back M_mistakes M_hooks M_letters M_rule M_at M_well M_sort M_text M_row M_field M_fields M_begins M_ruleLetters M_coming M_comingMany M_going M_goingMany M_minute M_pile M_high M_where M_latest M_lifts M_begun M_left M_has M_lifted M_taken M_above M_allLifts M_busy M_longest M_onto M_worst M_best M_orders M_together M_ofOne M_ofOther M_seed M_then g M_kept M_held M_kindOn M_figureOn M_sorts M_size M_items M_moved M_thrown)) (fun _ => rfl) hF (fun M_was_5 H locs hF hP hD hS => ?_)
  refine lv_aload_n hx hb dX10_keepAll_35 rfl (lv_at hl 1 rfl) ?_
  refine lv_iconst (v := 5) hx hb dX10_keepAll_36 (by decide) ?_
  refine lv_aload_n hx hb dX10_keepAll_37 rfl (lv_at hl 0 rfl) ?_
  refine va_get (D := D) (ci := 7) (v := .int M_hooks) (C := RX10) (T := TX10) (N := 58) hx hb hts hin10 hown hK hP 0 rfl rfl 8 (by decide) (hts _ zm_30) (fun _ h9 => h9) rfl dX10_keepAll_38 ?_
  refine z_iastK 5 hx hb hK hP hD hS 26 0 rfl rfl (zin_ok (by decide)) (by decide) dX10_keepAll_41 (fun g => (wX10_M ca ad_M M_guests M_kind M_figure M_told M_heaps M_holds M_back M_mistakes M_hooks M_letters M_rule M_at M_well M_sort M_text M_row M_field M_fields M_begins M_ruleLetters M_coming M_comingMany M_going M_goingMany M_minute M_pile M_high M_where M_latest M_lifts M_begun M_left M_has M_lifted M_taken M_above M_allLifts M_busy M_longest M_onto M_worst M_best M_orders M_together M_ofOne M_ofOther M_seed M_then g M_kept M_held M_kindOn M_figureOn M_sorts M_size M_items M_moved M_thrown)) (fun _ => rfl) hF (fun M_was_6 H locs hF hP hD hS => ?_)
  refine lv_aload_n hx hb dX10_keepAll_42 rfl (lv_at hl 1 rfl) ?_
  refine lv_bipush (v := 6) hx hb dX10_keepAll_43 (by decide) ?_
  refine lv_aload_n hx hb dX10_keepAll_45 rfl (lv_at hl 0 rfl) ?_
  refine va_get (D := D) (ci := 7) (v := .int M_letters) (C := RX10) (T := TX10) (N := 58) hx hb hts hin10 hown hK hP 0 rfl rfl 9 (by decide) (hts _ zm_73) (fun _ h9 => h9) rfl dX10_keepAll_46 ?_
  refine z_iastK 6 hx hb hK hP hD hS 26 0 rfl rfl (zin_ok (by decide)) (by decide) dX10_keepAll_49 (fun g => (wX10_M ca ad_M M_guests M_kind M_figure M_told M_heaps M_holds M_back M_mistakes M_hooks M_letters M_rule M_at M_well M_sort M_text M_row M_field M_fields M_begins M_ruleLetters M_coming M_comingMany M_going M_goingMany M_minute M_pile M_high M_where M_latest M_lifts M_begun M_left M_has M_lifted M_taken M_above M_allLifts M_busy M_longest M_onto M_worst M_best M_orders M_together M_ofOne M_ofOther M_seed M_then g M_kept M_held M_kindOn M_figureOn M_sorts M_size M_items M_moved M_thrown)) (fun _ => rfl) hF (fun M_was_7 H locs hF hP hD hS => ?_)
  refine lv_iconst (v := 0) hx hb dX10_keepAll_50 (by decide) ?_
  refine lv_istore_n (lv' := [(2, .int 0), (0, .ref (ad_M 0)), (1, .ref (ad_M 26))]) hx hb dX10_keepAll_51 rfl hl (by decide) rfl (fun ls hl => ?_)
  exact l52 fuel 0 M_was_7 _ _ hF hP hD hS ls (lv_sub hl [1, 2, 0] rfl)
abbrev roX10_backTo_then : Room := { frames := 0, cells := 0, slots := 0, locals := 0 }
set_option maxHeartbeats 4000000 in
set_option maxRecDepth 100000 in
theorem kX10_backTo_then (l : Launch) (D : va_G) (ca : Nat → ClassId) (t : Nat → Nat) (ad_M : Nat → Nat) (M_guests : Int32) (M_kind : Nat → Int32) (M_figure : Nat → Int32) (M_told : Nat → Int32) (M_heaps : Int32) (M_holds : Int32) (M_back : Int32) (M_mistakes : Int32) (M_hooks : Int32) (M_letters : Int32) (M_rule : Nat → Int32) (M_at : Int32) (M_well : Int32) (M_sort : Int32) (M_text : Int32) (M_row : Int32) (M_field : Nat → Int32) (M_fields : Int32) (M_begins : Nat → Int32) (M_ruleLetters : Nat → Int32) (M_coming : Nat → Int32) (M_comingMany : Int32) (M_going : Nat → Int32) (M_goingMany : Int32) (M_minute : Nat → Int32) (M_pile : Nat → Int32) (M_high : Nat → Int32) (M_where : Nat → Int32) (M_latest : Int32) (M_lifts : Nat → Int32) (M_begun : Nat → Int32) (M_left : Nat → Int32) (M_has : Nat → Int32) (M_lifted : Nat → Int32) (M_taken : Nat → Int32) (M_above : Nat → Int32) (M_allLifts : Int32) (M_busy : Int32) (M_longest : Nat → Int32) (M_onto : Nat → Int32) (M_worst : Int32) (M_best : Int32) (M_orders : Int32) (M_together : Int32) (M_ofOne : Nat → Int32) (M_ofOther : Nat → Int32) (M_seed : Int32) (M_then : Nat → Int32) (M_was : Nat → Int32) (M_kept : Int32) (M_held : Nat → Int32) (M_kindOn : Nat → Int32) (M_figureOn : Nat → Int32) (M_sorts : Nat → Int32) (M_size : Nat → Int32) (M_items : Nat → Int32) (M_moved : Nat → Int32) (M_thrown : Int32) (fuel : Nat) (o : Int32 × (Nat → Int32) × (Nat → Int32) × (Nat → Int32) × Int32 × Int32 × Int32 × Int32 × Int32 × Int32 × (Nat → Int32)) (hF : fX10_backTo_then fuel M_guests M_kind M_figure M_told M_heaps M_holds M_back M_mistakes M_hooks M_letters M_rule M_then = some o) : zMv l D (zT ca) t yX10_backTo (.code yX10_backTo cX10_backTo 3 none :: zW) roX10_backTo_then [.ref (ad_M 0), .ref (ad_M 25)] (wX10_M ca ad_M M_guests M_kind M_figure M_told M_heaps M_holds M_back M_mistakes M_hooks M_letters M_rule M_at M_well M_sort M_text M_row M_field M_fields M_begins M_ruleLetters M_coming M_comingMany M_going M_goingMany M_minute M_pile M_high M_where M_latest M_lifts M_begun M_left M_has M_lifted M_taken M_above M_allLifts M_busy M_longest M_onto M_worst M_best M_orders M_together M_ofOne M_ofOther M_seed M_then M_was M_kept M_held M_kindOn M_figureOn M_sorts M_size M_items M_moved M_thrown) (wX10_M ca ad_M o.1 o.2.1 o.2.2.1 o.2.2.2.1 o.2.2.2.2.1 o.2.2.2.2.2.1 o.2.2.2.2.2.2.1 o.2.2.2.2.2.2.2.1 o.2.2.2.2.2.2.2.2.1 o.2.2.2.2.2.2.2.2.2.1 o.2.2.2.2.2.2.2.2.2.2 M_at M_well M_sort M_text M_row M_field M_fields M_begins M_ruleLetters M_coming M_comingMany M_going M_goingMany M_minute M_pile M_high M_where M_latest M_lifts M_begun M_left M_has M_lifted M_taken M_above M_allLifts M_busy M_longest M_onto M_worst M_best M_orders M_together M_ofOne M_ofOther M_seed M_then M_was M_kept M_held M_kindOn M_figureOn M_sorts M_size M_items M_moved M_thrown) := by
  refine zMv_of (cc := cX10_backTo) (maxL := 3) (by decide) rfl (Nat.le_of_ble_eq_true rfl) ?_
  intro p e s m args below meth c A Q ls ⟨hx, hb, hml, hown, hts, hA, hK, hZ, hS⟩ hret hP hD hl
  have hts := fun w h => hts w (List.mem_cons_of_mem _ h)
  have hown : s.vm.findClass RX10 = some m.cls := hown
  have hl : lv_has ls 3 [(0, .ref (ad_M 0)), (1, .ref (ad_M 25))] := hl
  have hin10 := zin_X10
  have l78 : ∀ (n78 : Nat) (v2 : Int32) (M_guests : Int32) (M_kind : Nat → Int32) (M_figure : Nat → Int32) (M_told : Nat → Int32) (M_heaps : Int32) (M_holds : Int32) (M_back : Int32) (M_mistakes : Int32) (M_hooks : Int32) (M_letters : Int32) (M_rule : Nat → Int32) (H : Heap) (locs : List Loc), fX10_backTo_then_L78 M_then n78 v2 M_guests M_kind M_figure M_told M_heaps M_holds M_back M_mistakes M_hooks M_letters M_rule = some o → va_P D vwCl (wX10_M ca ad_M M_guests M_kind M_figure M_told M_heaps M_holds M_back M_mistakes M_hooks M_letters M_rule M_at M_well M_sort M_text M_row M_field M_fields M_begins M_ruleLetters M_coming M_comingMany M_going M_goingMany M_minute M_pile M_high M_where M_latest M_lifts M_begun M_left M_has M_lifted M_taken M_above M_allLifts M_busy M_longest M_onto M_worst M_best M_orders M_together M_ofOne M_ofOther M_seed M_then M_was M_kept M_held M_kindOn M_figureOn M_sorts M_size M_items M_moved M_thrown) H → va_D A (wX10_M ca ad_M M_guests M_kind M_figure M_told M_heaps M_holds M_back M_mistakes M_hooks M_letters M_rule M_at M_well M_sort M_text M_row M_field M_fields M_begins M_ruleLetters M_coming M_comingMany M_going M_goingMany M_minute M_pile M_high M_where M_latest M_lifts M_begun M_left M_has M_lifted M_taken M_above M_allLifts M_busy M_longest M_onto M_worst M_best M_orders M_together M_ofOne M_ofOther M_seed M_then M_was M_kept M_held M_kindOn M_figureOn M_sorts M_size M_items M_moved M_thrown) → va_S A s.heap H locs → ∀ ls : Array Slot, lv_has ls 3 [(0, .ref (ad_M 0)), (1, .ref (ad_M 25)), (2, .int v2)] → W p l e roX10_backTo_then s m args below meth c H locs 0 0 Q (F0 m 78 ls []) := by
    intro n78
    induction n78 with
    | zero =>
      intro v2 M_guests M_kind M_figure M_told M_heaps M_holds M_back M_mistakes M_hooks M_letters M_rule H locs hF
      rw [fX10_backTo_then_L78] at hF
      cases hF
    | succ n78 ih78 =>
      intro v2 M_guests M_kind M_figure M_told M_heaps M_holds M_back M_mistakes M_hooks M_letters M_rule H locs hF hP hD hS ls hl
      rw [fX10_backTo_then_L78] at hF
      refine lv_iload_n hx hb dX10_backTo_78 rfl (lv_at hl 2 rfl) ?_
      refine lv_bipush (v := 10) hx hb dX10_backTo_79 (by decide) ?_
      refine lv_icmp_ge (tgt := 126) hx hb dX10_backTo_81 (by decide) (fun c_13 => ?_) (fun c_13 => ?_)
      · have hF := zt c_13 hF
        obtain rfl := Option.some.inj hF
        exact hret _ _ _ _ hP hD hS dX10_backTo_126
      · have hF := zf c_13 hF
        refine lv_aload_n hx hb dX10_backTo_84 rfl (lv_at hl 0 rfl) ?_
        refine va_get (D := D) (ci := 7) (v := .ref (ad_M 1)) (C := RX10) (T := TX10) (N := 58) hx hb hts hin10 hown hK hP 0 rfl rfl 1 (by decide) (hts _ zm_25) (fun _ h9 => h9) rfl dX10_backTo_85 ?_
        refine lv_iload_n hx hb dX10_backTo_88 rfl (lv_at hl 2 rfl) ?_
        refine lv_aload_n hx hb dX10_backTo_89 rfl (lv_at hl 1 rfl) ?_
        refine lv_bipush (v := 20) hx hb dX10_backTo_90 (by decide) ?_
        refine lv_iload_n hx hb dX10_backTo_92 rfl (lv_at hl 2 rfl) ?_
        refine lv_iadd hx hb dX10_backTo_93 ?_
        obtain ⟨h_14, hF⟩ := zgi hF
        refine va_iald hx hb hK hP 25 0 rfl rfl h_14 dX10_backTo_94 ?_
        obtain ⟨h_15, hF⟩ := zgi hF
        refine z_iast hx hb hK hP hD hS 1 0 rfl rfl h_15 dX10_backTo_95 (fun g => (wX10_M ca ad_M M_guests g M_figure M_told M_heaps M_holds M_back M_mistakes M_hooks M_letters M_rule M_at M_well M_sort M_text M_row M_field M_fields M_begins M_ruleLetters M_coming M_comingMany M_going M_goingMany M_minute M_pile M_high M_where M_latest M_lifts M_begun M_left M_has M_lifted M_taken M_above M_allLifts M_busy M_longest M_onto M_worst M_best M_orders M_together M_ofOne M_ofOther M_seed M_then M_was M_kept M_held M_kindOn M_figureOn M_sorts M_size M_items M_moved M_thrown)) (fun _ => rfl) hF (fun M_kind_16 H locs hF hP hD hS => ?_)
        refine lv_aload_n hx hb dX10_backTo_96 rfl (lv_at hl 0 rfl) ?_
        refine va_get (D := D) (ci := 7) (v := .ref (ad_M 2)) (C := RX10) (T := TX10) (N := 58) hx hb hts hin10 hown hK hP 0 rfl rfl 2 (by decide) (hts _ zm_26) (fun _ h9 => h9) rfl dX10_backTo_97 ?_
        refine lv_iload_n hx hb dX10_backTo_100 rfl (lv_at hl 2 rfl) ?_
        refine lv_aload_n hx hb dX10_backTo_101 rfl (lv_at hl 1 rfl) ?_
        refine lv_bipush (v := 30) hx hb dX10_backTo_102 (by decide) ?_
        refine lv_iload_n hx hb dX10_backTo_104 rfl (lv_at hl 2 rfl) ?_
        refine lv_iadd hx hb dX10_backTo_105 ?_
        obtain ⟨h_17, hF⟩ := zgi hF
        refine va_iald hx hb hK hP 25 0 rfl rfl h_17 dX10_backTo_106 ?_
        refine z_iast hx hb hK hP hD hS 2 0 rfl rfl h_15 dX10_backTo_107 (fun g => (wX10_M ca ad_M M_guests M_kind_16 g M_told M_heaps M_holds M_back M_mistakes M_hooks M_letters M_rule M_at M_well M_sort M_text M_row M_field M_fields M_begins M_ruleLetters M_coming M_comingMany M_going M_goingMany M_minute M_pile M_high M_where M_latest M_lifts M_begun M_left M_has M_lifted M_taken M_above M_allLifts M_busy M_longest M_onto M_worst M_best M_orders M_together M_ofOne M_ofOther M_seed M_then M_was M_kept M_held M_kindOn M_figureOn M_sorts M_size M_items M_moved M_thrown)) (fun _ => rfl) hF (fun M_figure_18 H locs hF hP hD hS => ?_)
        refine lv_aload_n hx hb dX10_backTo_108 rfl (lv_at hl 0 rfl) ?_
        refine va_get (D := D) (ci := 7) (v := .ref (ad_M 3)) (C := RX10) (T := TX10) (N := 58) hx hb hts hin10 hown hK hP 0 rfl rfl 3 (by decide) (hts _ zm_31) (fun _ h9 => h9) rfl dX10_backTo_109 ?_
        refine lv_iload_n hx hb dX10_backTo_112 rfl (lv_at hl 2 rfl) ?_
        refine lv_aload_n hx hb dX10_backTo_113 rfl (lv_at hl 1 rfl) ?_
        refine lv_bipush (v := 40) hx hb dX10_backTo_114 (by decide) ?_
        refine lv_iload_n hx hb dX10_backTo_116 rfl (lv_at hl 2 rfl) ?_
        refine lv_iadd hx hb dX10_backTo_117 ?_
        obtain ⟨h_19, hF⟩ := zgi hF
        refine va_iald hx hb hK hP 25 0 rfl rfl h_19 dX10_backTo_118 ?_
        refine z_iast hx hb hK hP hD hS 3 0 rfl rfl h_15 dX10_backTo_119 (fun g => (wX10_M ca ad_M M_guests M_kind_16 M_figure_18 g M_heaps M_holds M_back M_mistakes M_hooks M_letters M_rule M_at M_well M_sort M_text M_row M_field M_fields M_begins M_ruleLetters M_coming M_comingMany M_going M_goingMany M_minute M_pile M_high M_where M_latest M_lifts M_begun M_left M_has M_lifted M_taken M_above M_allLifts M_busy M_longest M_onto M_worst M_best M_orders M_together M_ofOne M_ofOther M_seed M_then M_was M_kept M_held M_kindOn M_figureOn M_sorts M_size M_items M_moved M_thrown)) (fun _ => rfl) hF (fun M_told_20 H locs hF hP hD hS => ?_)
        refine z_iinc (kv := 1) hx hb 2 dX10_backTo_120 hl rfl (by decide) (by decide) (fun g => [(2, .int g), (0, .ref (ad_M 0)), (1, .ref (ad_M 25))]) (fun _ => rfl) hF (fun v2_21 ls hF hl => ?_)
        refine lv_goto (tgt := 78) hx hb dX10_backTo_123 (by decide) ?_
        exact ih78 v2_21 M_guests M_kind_16 M_figure_18 M_told_20 M_heaps M_holds M_back M_mistakes M_hooks M_letters M_rule _ _ hF hP hD hS ls (lv_sub hl [1, 2, 0] rfl)
  have j76 : ∀ (M_guests : Int32) (M_kind : Nat → Int32) (M_figure : Nat → Int32) (M_told : Nat → Int32) (M_heaps : Int32) (M_holds : Int32) (M_back : Int32) (M_mistakes : Int32) (M_hooks : Int32) (M_letters : Int32) (M_rule : Nat → Int32) (H : Heap) (locs : List Loc), fX10_backTo_then_J76 fuel M_then M_guests M_kind M_figure M_told M_heaps M_holds M_back M_mistakes M_hooks M_letters M_rule = some o → va_P D vwCl (wX10_M ca ad_M M_guests M_kind M_figure M_told M_heaps M_holds M_back M_mistakes M_hooks M_letters M_rule M_at M_well M_sort M_text M_row M_field M_fields M_begins M_ruleLetters M_coming M_comingMany M_going M_goingMany M_minute M_pile M_high M_where M_latest M_lifts M_begun M_left M_has M_lifted M_taken M_above M_allLifts M_busy M_longest M_onto M_worst M_best M_orders M_together M_ofOne M_ofOther M_seed M_then M_was M_kept M_held M_kindOn M_figureOn M_sorts M_size M_items M_moved M_thrown) H → va_D A (wX10_M ca ad_M M_guests M_kind M_figure M_told M_heaps M_holds M_back M_mistakes M_hooks M_letters M_rule M_at M_well M_sort M_text M_row M_field M_fields M_begins M_ruleLetters M_coming M_comingMany M_going M_goingMany M_minute M_pile M_high M_where M_latest M_lifts M_begun M_left M_has M_lifted M_taken M_above M_allLifts M_busy M_longest M_onto M_worst M_best M_orders M_together M_ofOne M_ofOther M_seed M_then M_was M_kept M_held M_kindOn M_figureOn M_sorts M_size M_items M_moved M_thrown) → va_S A s.heap H locs → ∀ ls : Array Slot, lv_has ls 3 [(0, .ref (ad_M 0)), (1, .ref (ad_M 25))] → W p l e roX10_backTo_then s m args below meth c H locs 0 0 Q (F0 m 76 ls []) := by
    intro M_guests M_kind M_figure M_told M_heaps M_holds M_back M_mistakes M_hooks M_letters M_rule H locs hF hP hD hS ls hl
    unfold fX10_backTo_then_J76 at hF
    refine lv_iconst (v := 0) hx hb dX10_backTo_76 (by decide) ?_
    refine lv_istore_n (lv' := [(2, .int 0), (0, .ref (ad_M 0)), (1, .ref (ad_M 25))]) hx hb dX10_backTo_77 rfl hl (by decide) rfl (fun ls hl => ?_)
    exact l78 fuel 0 M_guests M_kind M_figure M_told M_heaps M_holds M_back M_mistakes M_hooks M_letters M_rule _ _ hF hP hD hS ls (lv_sub hl [1, 2, 0] rfl)
  have l52 : ∀ (n52 : Nat) (v2 : Int32) (M_guests : Int32) (M_kind : Nat → Int32) (M_figure : Nat → Int32) (M_told : Nat → Int32) (M_heaps : Int32) (M_holds : Int32) (M_back : Int32) (M_mistakes : Int32) (M_hooks : Int32) (M_letters : Int32) (M_rule : Nat → Int32) (H : Heap) (locs : List Loc), fX10_backTo_then_L52 fuel M_then n52 v2 M_guests M_kind M_figure M_told M_heaps M_holds M_back M_mistakes M_hooks M_letters M_rule = some o → va_P D vwCl (wX10_M ca ad_M M_guests M_kind M_figure M_told M_heaps M_holds M_back M_mistakes M_hooks M_letters M_rule M_at M_well M_sort M_text M_row M_field M_fields M_begins M_ruleLetters M_coming M_comingMany M_going M_goingMany M_minute M_pile M_high M_where M_latest M_lifts M_begun M_left M_has M_lifted M_taken M_above M_allLifts M_busy M_longest M_onto M_worst M_best M_orders M_together M_ofOne M_ofOther M_seed M_then M_was M_kept M_held M_kindOn M_figureOn M_sorts M_size M_items M_moved M_thrown) H → va_D A (wX10_M ca ad_M M_guests M_kind M_figure M_told M_heaps M_holds M_back M_mistakes M_hooks M_letters M_rule M_at M_well M_sort M_text M_row M_field M_fields M_begins M_ruleLetters M_coming M_comingMany M_going M_goingMany M_minute M_pile M_high M_where M_latest M_lifts M_begun M_left M_has M_lifted M_taken M_above M_allLifts M_busy M_longest M_onto M_worst M_best M_orders M_together M_ofOne M_ofOther M_seed M_then M_was M_kept M_held M_kindOn M_figureOn M_sorts M_size M_items M_moved M_thrown) → va_S A s.heap H locs → ∀ ls : Array Slot, lv_has ls 3 [(0, .ref (ad_M 0)), (1, .ref (ad_M 25)), (2, .int v2)] → W p l e roX10_backTo_then s m args below meth c H locs 0 0 Q (F0 m 52 ls []) := by
    intro n52
    induction n52 with
    | zero =>
      intro v2 M_guests M_kind M_figure M_told M_heaps M_holds M_back M_mistakes M_hooks M_letters M_rule H locs hF
      rw [fX10_backTo_then_L52] at hF
      cases hF
    | succ n52 ih52 =>
      intro v2 M_guests M_kind M_figure M_told M_heaps M_holds M_back M_mistakes M_hooks M_letters M_rule H locs hF hP hD hS ls hl
      rw [fX10_backTo_then_L52] at hF
      refine lv_iload_n hx hb dX10_backTo_52 rfl (lv_at hl 2 rfl) ?_
      refine lv_bipush (v := 6) hx hb dX10_backTo_53 (by decide) ?_
      refine lv_icmp_ge (tgt := 76) hx hb dX10_backTo_55 (by decide) (fun c_8 => ?_) (fun c_8 => ?_)
      · have hF := zt c_8 hF
        exact j76 M_guests M_kind M_figure M_told M_heaps M_holds M_back M_mistakes M_hooks M_letters M_rule _ _ hF hP hD hS ls (lv_sub hl [0, 1] rfl)
      · have hF := zf c_8 hF
        refine lv_aload_n hx hb dX10_backTo_58 rfl (lv_at hl 0 rfl) ?_
        refine va_get (D := D) (ci := 7) (v := .ref (ad_M 4)) (C := RX10) (T := TX10) (N := 58) hx hb hts hin10 hown hK hP 0 rfl rfl 10 (by decide) (hts _ zm_78) (fun _ h9 => h9) rfl dX10_backTo_59 ?_
        refine lv_iload_n hx hb dX10_backTo_62 rfl (lv_at hl 2 rfl) ?_
        refine lv_aload_n hx hb dX10_backTo_63 rfl (lv_at hl 1 rfl) ?_
        refine lv_bipush (v := 8) hx hb dX10_backTo_64 (by decide) ?_
        refine lv_iload_n hx hb dX10_backTo_66 rfl (lv_at hl 2 rfl) ?_
        refine lv_iadd hx hb dX10_backTo_67 ?_
        obtain ⟨h_9, hF⟩ := zgi hF
        refine va_iald hx hb hK hP 25 0 rfl rfl h_9 dX10_backTo_68 ?_
        obtain ⟨h_10, hF⟩ := zgi hF
        refine z_iast hx hb hK hP hD hS 4 0 rfl rfl h_10 dX10_backTo_69 (fun g => (wX10_M ca ad_M M_guests M_kind M_figure M_told M_heaps M_holds M_back M_mistakes M_hooks M_letters g M_at M_well M_sort M_text M_row M_field M_fields M_begins M_ruleLetters M_coming M_comingMany M_going M_goingMany M_minute M_pile M_high M_where M_latest M_lifts M_begun M_left M_has M_lifted M_taken M_above M_allLifts M_busy M_longest M_onto M_worst M_best M_orders M_together M_ofOne M_ofOther M_seed M_then M_was M_kept M_held M_kindOn M_figureOn M_sorts M_size M_items M_moved M_thrown)) (fun _ => rfl) hF (fun M_rule_11 H locs hF hP hD hS => ?_)
        refine z_iinc (kv := 1) hx hb 2 dX10_backTo_70 hl rfl (by decide) (by decide) (fun g => [(2, .int g), (0, .ref (ad_M 0)), (1, .ref (ad_M 25))]) (fun _ => rfl) hF (fun v2_12 ls hF hl => ?_)
        refine lv_goto (tgt := 52) hx hb dX10_backTo_73 (by decide) ?_
        exact ih52 v2_12 M_guests M_kind M_figure M_told M_heaps M_holds M_back M_mistakes M_hooks M_letters M_rule_11 _ _ hF hP hD hS ls (lv_sub hl [1, 2, 0] rfl)
  unfold fX10_backTo_then at hF
  refine lv_aload_n hx hb dX10_backTo_0 rfl (lv_at hl 0 rfl) ?_
  refine lv_aload_n hx hb dX10_backTo_1 rfl (lv_at hl 1 rfl) ?_
  refine lv_iconst (v := 0) hx hb dX10_backTo_2 (by decide) ?_
  refine z_ialdK 0 hx hb hK hP 25 0 rfl rfl (zin_ok (by decide)) (by decide) dX10_backTo_3 ?_
  refine z_let hF (fun guests_1 hF => ?_)
  refine va_put (D := D) (ci := 7) (v := .int guests_1) (C := RX10) (T := TX10) (N := 58) hx hb hts hin10 tyX10 tyX10_ok nmX10 hown hK hP hD hS 0 rfl rfl 0 (by decide) (hts _ zm_16) (fun _ h9 => h9) rfl (tyX10_ok 0 (by decide)) rfl rfl (Nat.le_of_ble_eq_true rfl) dX10_backTo_4 (fun H locs hP hD hS => ?_)
  have hP : va_P D vwCl (wX10_M ca ad_M guests_1 M_kind M_figure M_told M_heaps M_holds M_back M_mistakes M_hooks M_letters M_rule M_at M_well M_sort M_text M_row M_field M_fields M_begins M_ruleLetters M_coming M_comingMany M_going M_goingMany M_minute M_pile M_high M_where M_latest M_lifts M_begun M_left M_has M_lifted M_taken M_above M_allLifts M_busy M_longest M_onto M_worst M_best M_orders M_together M_ofOne M_ofOther M_seed M_then M_was M_kept M_held M_kindOn M_figureOn M_sorts M_size M_items M_moved M_thrown) H := hP
  have hD : va_D A (wX10_M ca ad_M guests_1 M_kind M_figure M_told M_heaps M_holds M_back M_mistakes M_hooks M_letters M_rule M_at M_well M_sort M_text M_row M_field M_fields M_begins M_ruleLetters M_coming M_comingMany M_going M_goingMany M_minute M_pile M_high M_where M_latest M_lifts M_begun M_left M_has M_lifted M_taken M_above M_allLifts M_busy M_longest M_onto M_worst M_best M_orders M_together M_ofOne M_ofOther M_seed M_then M_was M_kept M_held M_kindOn M_figureOn M_sorts M_size M_items M_moved M_thrown) := hD
  refine lv_aload_n hx hb dX10_backTo_7 rfl (lv_at hl 0 rfl) ?_
  refine lv_aload_n hx hb dX10_backTo_8 rfl (lv_at hl 1 rfl) ?_
  refine lv_iconst (v := 1) hx hb dX10_backTo_9 (by decide) ?_
  refine z_ialdK 1 hx hb hK hP 25 0 rfl rfl (zin_ok (by decide)) (by decide) dX10_backTo_10 ?_
  refine z_let hF (fun heaps_2 hF => ?_)
  refine va_put (D := D) (ci := 7) (v := .int heaps_2) (C := RX10) (T := TX10) (N := 58) hx hb hts hin10 tyX10 tyX10_ok nmX10 hown hK hP hD hS 0 rfl rfl 4 (by decide) (hts _ zm_58) (fun _ h9 => h9) rfl (tyX10_ok 4 (by decide)) rfl rfl (Nat.le_of_ble_eq_true rfl) dX10_backTo_11 (fun H locs hP hD hS => ?_)
  have hP : va_P D vwCl (wX10_M ca ad_M guests_1 M_kind M_figure M_told heaps_2 M_holds M_back M_mistakes M_hooks M_letters M_rule M_at M_well M_sort M_text M_row M_field M_fields M_begins M_ruleLetters M_coming M_comingMany M_going M_goingMany M_minute M_pile M_high M_where M_latest M_lifts M_begun M_left M_has M_lifted M_taken M_above M_allLifts M_busy M_longest M_onto M_worst M_best M_orders M_together M_ofOne M_ofOther M_seed M_then M_was M_kept M_held M_kindOn M_figureOn M_sorts M_size M_items M_moved M_thrown) H := hP
  have hD : va_D A (wX10_M ca ad_M guests_1 M_kind M_figure M_told heaps_2 M_holds M_back M_mistakes M_hooks M_letters M_rule M_at M_well M_sort M_text M_row M_field M_fields M_begins M_ruleLetters M_coming M_comingMany M_going M_goingMany M_minute M_pile M_high M_where M_latest M_lifts M_begun M_left M_has M_lifted M_taken M_above M_allLifts M_busy M_longest M_onto M_worst M_best M_orders M_together M_ofOne M_ofOther M_seed M_then M_was M_kept M_held M_kindOn M_figureOn M_sorts M_size M_items M_moved M_thrown) := hD
  refine lv_aload_n hx hb dX10_backTo_14 rfl (lv_at hl 0 rfl) ?_
  refine lv_aload_n hx hb dX10_backTo_15 rfl (lv_at hl 1 rfl) ?_
  refine lv_iconst (v := 2) hx hb dX10_backTo_16 (by decide) ?_
  refine z_ialdK 2 hx hb hK hP 25 0 rfl rfl (zin_ok (by decide)) (by decide) dX10_backTo_17 ?_
  refine z_let hF (fun holds_3 hF => ?_)
  refine va_put (D := D) (ci := 7) (v := .int holds_3) (C := RX10) (T := TX10) (N := 58) hx hb hts hin10 tyX10 tyX10_ok nmX10 hown hK hP hD hS 0 rfl rfl 5 (by decide) (hts _ zm_59) (fun _ h9 => h9) rfl (tyX10_ok 5 (by decide)) rfl rfl (Nat.le_of_ble_eq_true rfl) dX10_backTo_18 (fun H locs hP hD hS => ?_)
  have hP : va_P D vwCl (wX10_M ca ad_M guests_1 M_kind M_figure M_told heaps_2 holds_3 M_back M_mistakes M_hooks M_letters M_rule M_at M_well M_sort M_text M_row M_field M_fields M_begins M_ruleLetters M_coming M_comingMany M_going M_goingMany M_minute M_pile M_high M_where M_latest M_lifts M_begun M_left M_has M_lifted M_taken M_above M_allLifts M_busy M_longest M_onto M_worst M_best M_orders M_together M_ofOne M_ofOther M_seed M_then M_was M_kept M_held M_kindOn M_figureOn M_sorts M_size M_items M_moved M_thrown) H := hP
  have hD : va_D A (wX10_M ca ad_M guests_1 M_kind M_figure M_told heaps_2 holds_3 M_back M_mistakes M_hooks M_letters M_rule M_at M_well M_sort M_text M_row M_field M_fields M_begins M_ruleLetters M_coming M_comingMany M_going M_goingMany M_minute M_pile M_high M_where M_latest M_lifts M_begun M_left M_has M_lifted M_taken M_above M_allLifts M_busy M_longest M_onto M_worst M_best M_orders M_together M_ofOne M_ofOther M_seed M_then M_was M_kept M_held M_kindOn M_figureOn M_sorts M_size M_items M_moved M_thrown) := hD
  refine lv_aload_n hx hb dX10_backTo_21 rfl (lv_at hl 0 rfl) ?_
  refine lv_aload_n hx hb dX10_backTo_22 rfl (lv_at hl 1 rfl) ?_
  refine lv_iconst (v := 3) hx hb dX10_backTo_23 (by decide) ?_
  refine z_ialdK 3 hx hb hK hP 25 0 rfl rfl (zin_ok (by decide)) (by decide) dX10_backTo_24 ?_
  refine z_let hF (fun back_4 hF => ?_)
  refine va_put (D := D) (ci := 7) (v := .int back_4) (C := RX10) (T := TX10) (N := 58) hx hb hts hin10 tyX10 tyX10_ok nmX10 hown hK hP hD hS 0 rfl rfl 6 (by decide) (hts _ zm_60) (fun _ h9 => h9) rfl (tyX10_ok 6 (by decide)) rfl rfl (Nat.le_of_ble_eq_true rfl) dX10_backTo_25 (fun H locs hP hD hS => ?_)
  have hP : va_P D vwCl (wX10_M ca ad_M guests_1 M_kind M_figure M_told heaps_2 holds_3 back_4 M_mistakes M_hooks M_letters M_rule M_at M_well M_sort M_text M_row M_field M_fields M_begins M_ruleLetters M_coming M_comingMany M_going M_goingMany M_minute M_pile M_high M_where M_latest M_lifts M_begun M_left M_has M_lifted M_taken M_above M_allLifts M_busy M_longest M_onto M_worst M_best M_orders M_together M_ofOne M_ofOther M_seed M_then M_was M_kept M_held M_kindOn M_figureOn M_sorts M_size M_items M_moved M_thrown) H := hP
  have hD : va_D A (wX10_M ca ad_M guests_1 M_kind M_figure M_told heaps_2 holds_3 back_4 M_mistakes M_hooks M_letters M_rule M_at M_well M_sort M_text M_row M_field M_fields M_begins M_ruleLetters M_coming M_comingMany M_going M_goingMany M_minute M_pile M_high M_where M_latest M_lifts M_begun M_left M_has M_lifted M_taken M_above M_allLifts M_busy M_longest M_onto M_worst M_best M_orders M_together M_ofOne M_ofOther M_seed M_then M_was M_kept M_held M_kindOn M_figureOn M_sorts M_size M_items M_moved M_thrown) := hD
  refine lv_aload_n hx hb dX10_backTo_28 rfl (lv_at hl 0 rfl) ?_
  refine lv_aload_n hx hb dX10_backTo_29 rfl (lv_at hl 1 rfl) ?_
  refine lv_iconst (v := 4) hx hb dX10_backTo_30 (by decide) ?_
  refine z_ialdK 4 hx hb hK hP 25 0 rfl rfl (zin_ok (by decide)) (by decide) dX10_backTo_31 ?_
  refine z_let hF (fun mistakes_5 hF => ?_)
  refine va_put (D := D) (ci := 7) (v := .int mistakes_5) (C := RX10) (T := TX10) (N := 58) hx hb hts hin10 tyX10 tyX10_ok nmX10 hown hK hP hD hS 0 rfl rfl 7 (by decide) (hts _ zm_61) (fun _ h9 => h9) rfl (tyX10_ok 7 (by decide)) rfl rfl (Nat.le_of_ble_eq_true rfl) dX10_backTo_32 (fun H locs hP hD hS => ?_)
  have hP : va_P D vwCl (wX10_M ca ad_M guests_1 M_kind M_figure M_told heaps_2 holds_3 back_4 mistakes_5 M_hooks M_letters M_rule M_at M_well M_sort M_text M_row M_field M_fields M_begins M_ruleLetters M_coming M_comingMany M_going M_goingMany M_minute M_pile M_high M_where M_latest M_lifts M_begun M_left M_has M_lifted M_taken M_above M_allLifts M_busy M_longest M_onto M_worst M_best M_orders M_together M_ofOne M_ofOther M_seed M_then M_was M_kept M_held M_kindOn M_figureOn M_sorts M_size M_items M_moved M_thrown) H := hP
  have hD : va_D A (wX10_M ca ad_M guests_1 M_kind M_figure M_told heaps_2 holds_3 back_4 mistakes_5 M_hooks M_letters M_rule M_at M_well M_sort M_text M_row M_field M_fields M_begins M_ruleLetters M_coming M_comingMany M_going M_goingMany M_minute M_pile M_high M_where M_latest M_lifts M_begun M_left M_has M_lifted M_taken M_above M_allLifts M_busy M_longest M_onto M_worst M_best M_orders M_together M_ofOne M_ofOther M_seed M_then M_was M_kept M_held M_kindOn M_figureOn M_sorts M_size M_items M_moved M_thrown) := hD
  refine lv_aload_n hx hb dX10_backTo_35 rfl (lv_at hl 0 rfl) ?_
  refine lv_aload_n hx hb dX10_backTo_36 rfl (lv_at hl 1 rfl) ?_
  refine lv_iconst (v := 5) hx hb dX10_backTo_37 (by decide) ?_
  refine z_ialdK 5 hx hb hK hP 25 0 rfl rfl (zin_ok (by decide)) (by decide) dX10_backTo_38 ?_
  refine z_let hF (fun hooks_6 hF => ?_)
  refine va_put (D := D) (ci := 7) (v := .int hooks_6) (C := RX10) (T := TX10) (N := 58) hx hb hts hin10 tyX10 tyX10_ok nmX10 hown hK hP hD hS 0 rfl rfl 8 (by decide) (hts _ zm_30) (fun _ h9 => h9) rfl (tyX10_ok 8 (by decide)) rfl rfl (Nat.le_of_ble_eq_true rfl) dX10_backTo_39 (fun H locs hP hD hS => ?_)
  have hP : va_P D vwCl (wX10_M ca ad_M guests_1 M_kind M_figure M_told heaps_2 holds_3 back_4 mistakes_5 hooks_6 M_letters M_rule M_at M_well M_sort M_text M_row M_field M_fields M_begins M_ruleLetters M_coming M_comingMany M_going M_goingMany M_minute M_pile M_high M_where M_latest M_lifts M_begun M_left M_has M_lifted M_taken M_above M_allLifts M_busy M_longest M_onto M_worst M_best M_orders M_together M_ofOne M_ofOther M_seed M_then M_was M_kept M_held M_kindOn M_figureOn M_sorts M_size M_items M_moved M_thrown) H := hP
  have hD : va_D A (wX10_M ca ad_M guests_1 M_kind M_figure M_told heaps_2 holds_3 back_4 mistakes_5 hooks_6 M_letters M_rule M_at M_well M_sort M_text M_row M_field M_fields M_begins M_ruleLetters M_coming M_comingMany M_going M_goingMany M_minute M_pile M_high M_where M_latest M_lifts M_begun M_left M_has M_lifted M_taken M_above M_allLifts M_busy M_longest M_onto M_worst M_best M_orders M_together M_ofOne M_ofOther M_seed M_then M_was M_kept M_held M_kindOn M_figureOn M_sorts M_size M_items M_moved M_thrown) := hD
  refine lv_aload_n hx hb dX10_backTo_42 rfl (lv_at hl 0 rfl) ?_
  refine lv_aload_n hx hb dX10_backTo_43 rfl (lv_at hl 1 rfl) ?_
  refine lv_bipush (v := 6) hx hb dX10_backTo_44 (by decide) ?_
  refine z_ialdK 6 hx hb hK hP 25 0 rfl rfl (zin_ok (by decide)) (by decide) dX10_backTo_46 ?_
  refine z_let hF (fun letters_7 hF => ?_)
  refine va_put (D := D) (ci := 7) (v := .int letters_7) (C := RX10) (T := TX10) (N := 58) hx hb hts hin10 tyX10 tyX10_ok nmX10 hown hK hP hD hS 0 rfl rfl 9 (by decide) (hts _ zm_73) (fun _ h9 => h9) rfl (tyX10_ok 9 (by decide)) rfl rfl (Nat.le_of_ble_eq_true rfl) dX10_backTo_47 (fun H locs hP hD hS => ?_)
  have hP : va_P D vwCl (wX10_M ca ad_M guests_1 M_kind M_figure M_told heaps_2 holds_3 back_4 mistakes_5 hooks_6 letters_7 M_rule M_at M_well M_sort M_text M_row M_field M_fields M_begins M_ruleLetters M_coming M_comingMany M_going M_goingMany M_minute M_pile M_high M_where M_latest M_lifts M_begun M_left M_has M_lifted M_taken M_above M_allLifts M_busy M_longest M_onto M_worst M_best M_orders M_together M_ofOne M_ofOther M_seed M_then M_was M_kept M_held M_kindOn M_figureOn M_sorts M_size M_items M_moved M_thrown) H := hP
  have hD : va_D A (wX10_M ca ad_M guests_1 M_kind M_figure M_told heaps_2 holds_3 back_4 mistakes_5 hooks_6 letters_7 M_rule M_at M_well M_sort M_text M_row M_field M_fields M_begins M_ruleLetters M_coming M_comingMany M_going M_goingMany M_minute M_pile M_high M_where M_latest M_lifts M_begun M_left M_has M_lifted M_taken M_above M_allLifts M_busy M_longest M_onto M_worst M_best M_orders M_together M_ofOne M_ofOther M_seed M_then M_was M_kept M_held M_kindOn M_figureOn M_sorts M_size M_items M_moved M_thrown) := hD
  refine lv_iconst (v := 0) hx hb dX10_backTo_50 (by decide) ?_
  refine lv_istore_n (lv' := [(2, .int 0), (0, .ref (ad_M 0)), (1, .ref (ad_M 25))]) hx hb dX10_backTo_51 rfl hl (by decide) rfl (fun ls hl => ?_)
  exact l52 fuel 0 guests_1 M_kind M_figure M_told heaps_2 holds_3 back_4 mistakes_5 hooks_6 letters_7 M_rule _ _ hF hP hD hS ls (lv_sub hl [1, 2, 0] rfl)
