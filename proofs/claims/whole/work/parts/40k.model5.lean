abbrev roX10_rule : Room := { frames := 2, cells := 0, slots := 0, locals := 42 }
set_option maxHeartbeats 4000000 in
set_option maxRecDepth 100000 in
theorem kX10_rule (l : Launch) (D : va_G) (ca : Nat → ClassId) (t : Nat → Nat) (ad_M : Nat → Nat) (M_guests : Int32) (M_kind : Nat → Int32) (M_figure : Nat → Int32) (M_told : Nat → Int32) (M_heaps : Int32) (M_holds : Int32) (M_back : Int32) (M_mistakes : Int32) (M_hooks : Int32) (M_letters : Int32) (M_rule : Nat → Int32) (M_at : Int32) (M_well : Int32) (M_sort : Int32) (M_text : Int32) (M_row : Int32) (M_field : Nat → Int32) (M_fields : Int32) (M_begins : Nat → Int32) (M_ruleLetters : Nat → Int32) (M_coming : Nat → Int32) (M_comingMany : Int32) (M_going : Nat → Int32) (M_goingMany : Int32) (M_minute : Nat → Int32) (M_pile : Nat → Int32) (M_high : Nat → Int32) (M_where : Nat → Int32) (M_latest : Int32) (M_lifts : Nat → Int32) (M_begun : Nat → Int32) (M_left : Nat → Int32) (M_has : Nat → Int32) (M_lifted : Nat → Int32) (M_taken : Nat → Int32) (M_above : Nat → Int32) (M_allLifts : Int32) (M_busy : Int32) (M_longest : Nat → Int32) (M_onto : Nat → Int32) (M_worst : Int32) (M_best : Int32) (M_orders : Int32) (M_together : Int32) (M_ofOne : Nat → Int32) (M_ofOther : Nat → Int32) (M_seed : Int32) (M_then : Nat → Int32) (M_was : Nat → Int32) (M_kept : Int32) (M_held : Nat → Int32) (M_kindOn : Nat → Int32) (M_figureOn : Nat → Int32) (M_sorts : Nat → Int32) (M_size : Nat → Int32) (M_items : Nat → Int32) (M_moved : Nat → Int32) (M_thrown : Int32) (p1 : Int32) (fuel : Nat) (o : Int32 × Int32 × (Nat → Int32) × Int32 × Int32 × Int32 × (Nat → Int32)) (hF : fX10_rule fuel M_letters M_rule M_at M_text M_row M_field M_ruleLetters M_held M_sorts M_size M_items p1 = some o) : zMi l D (zT ca) t yX10_rule (.code yX10_rule cX10_rule 3 (some .int) :: zW) roX10_rule [.ref (ad_M 0), .int p1] (wX10_M ca ad_M M_guests M_kind M_figure M_told M_heaps M_holds M_back M_mistakes M_hooks M_letters M_rule M_at M_well M_sort M_text M_row M_field M_fields M_begins M_ruleLetters M_coming M_comingMany M_going M_goingMany M_minute M_pile M_high M_where M_latest M_lifts M_begun M_left M_has M_lifted M_taken M_above M_allLifts M_busy M_longest M_onto M_worst M_best M_orders M_together M_ofOne M_ofOther M_seed M_then M_was M_kept M_held M_kindOn M_figureOn M_sorts M_size M_items M_moved M_thrown) (wX10_M ca ad_M M_guests M_kind M_figure M_told M_heaps M_holds M_back M_mistakes M_hooks o.2.1 o.2.2.1 o.2.2.2.1 M_well M_sort o.2.2.2.2.1 o.2.2.2.2.2.1 o.2.2.2.2.2.2 M_fields M_begins M_ruleLetters M_coming M_comingMany M_going M_goingMany M_minute M_pile M_high M_where M_latest M_lifts M_begun M_left M_has M_lifted M_taken M_above M_allLifts M_busy M_longest M_onto M_worst M_best M_orders M_together M_ofOne M_ofOther M_seed M_then M_was M_kept M_held M_kindOn M_figureOn M_sorts M_size M_items M_moved M_thrown) o.1 := by
  refine zMi_of (cc := cX10_rule) (maxL := 3) (by decide) rfl (Nat.le_of_ble_eq_true rfl) ?_
  intro p e s m args below meth c A Q ls ⟨hx, hb, hml, hown, hts, hA, hK, hZ, hS⟩ hret hP hD hl
  have hts := fun w h => hts w (List.mem_cons_of_mem _ h)
  have hown : s.vm.findClass RX10 = some m.cls := hown
  have hl : lv_has ls 3 [(0, .ref (ad_M 0)), (1, .int p1)] := hl
  have hin10 := zin_X10
  have j28 : ∀ (M_letters : Int32) (M_rule : Nat → Int32) (M_at : Int32) (M_text : Int32) (M_row : Int32) (M_field : Nat → Int32) (H : Heap) (locs : List Loc), fX10_rule_J28 M_held p1 M_letters M_rule M_at M_text M_row M_field = some o → va_P D vwCl (wX10_M ca ad_M M_guests M_kind M_figure M_told M_heaps M_holds M_back M_mistakes M_hooks M_letters M_rule M_at M_well M_sort M_text M_row M_field M_fields M_begins M_ruleLetters M_coming M_comingMany M_going M_goingMany M_minute M_pile M_high M_where M_latest M_lifts M_begun M_left M_has M_lifted M_taken M_above M_allLifts M_busy M_longest M_onto M_worst M_best M_orders M_together M_ofOne M_ofOther M_seed M_then M_was M_kept M_held M_kindOn M_figureOn M_sorts M_size M_items M_moved M_thrown) H → va_D A (wX10_M ca ad_M M_guests M_kind M_figure M_told M_heaps M_holds M_back M_mistakes M_hooks M_letters M_rule M_at M_well M_sort M_text M_row M_field M_fields M_begins M_ruleLetters M_coming M_comingMany M_going M_goingMany M_minute M_pile M_high M_where M_latest M_lifts M_begun M_left M_has M_lifted M_taken M_above M_allLifts M_busy M_longest M_onto M_worst M_best M_orders M_together M_ofOne M_ofOther M_seed M_then M_was M_kept M_held M_kindOn M_figureOn M_sorts M_size M_items M_moved M_thrown) → va_S A s.heap H locs → ∀ ls : Array Slot, lv_has ls 3 [(0, .ref (ad_M 0)), (1, .int p1)] → W p l e roX10_rule s m args below meth c H locs 0 0 Q (F0 m 28 ls []) := by
    intro M_letters M_rule M_at M_text M_row M_field H locs hF hP hD hS ls hl
    unfold fX10_rule_J28 at hF
    refine lv_aload_n hx hb dX10_rule_28 rfl (lv_at hl 0 rfl) ?_
    refine va_get (D := D) (ci := 7) (v := .ref (ad_M 27)) (C := RX10) (T := TX10) (N := 58) hx hb hts hin10 hown hK hP 0 rfl rfl 50 (by decide) (hts _ zm_292) (fun _ h9 => h9) rfl dX10_rule_29 ?_
    refine lv_iload_n hx hb dX10_rule_32 rfl (lv_at hl 1 rfl) ?_
    obtain ⟨h_18, hF⟩ := zgi hF
    refine va_iald hx hb hK hP 27 0 rfl rfl h_18 dX10_rule_33 ?_
    refine lv_if_ne (tgt := 42) hx hb dX10_rule_34 (by decide) (fun c_19 => ?_) (fun c_19 => ?_)
    · have hF := zf c_19 hF
      refine lv_bipush (v := (-12)) hx hb dX10_rule_42 (by decide) ?_
      obtain rfl := Option.some.inj hF
      exact hret _ _ _ _ hP hD hS rfl dX10_rule_44
    · have hF := zt c_19 hF
      refine lv_bipush (v := (-11)) hx hb dX10_rule_37 (by decide) ?_
      refine lv_goto (tgt := 44) hx hb dX10_rule_39 (by decide) ?_
      obtain rfl := Option.some.inj hF
      exact hret _ _ _ _ hP hD hS rfl dX10_rule_44
  have l125 : ∀ (n125 : Nat) (v2 : Int32) (M_letters : Int32) (M_rule : Nat → Int32) (M_at : Int32) (M_text : Int32) (M_row : Int32) (M_field : Nat → Int32) (H : Heap) (locs : List Loc), fX10_rule_L125 n125 v2 M_letters M_rule M_at M_text M_row M_field = some o → va_P D vwCl (wX10_M ca ad_M M_guests M_kind M_figure M_told M_heaps M_holds M_back M_mistakes M_hooks M_letters M_rule M_at M_well M_sort M_text M_row M_field M_fields M_begins M_ruleLetters M_coming M_comingMany M_going M_goingMany M_minute M_pile M_high M_where M_latest M_lifts M_begun M_left M_has M_lifted M_taken M_above M_allLifts M_busy M_longest M_onto M_worst M_best M_orders M_together M_ofOne M_ofOther M_seed M_then M_was M_kept M_held M_kindOn M_figureOn M_sorts M_size M_items M_moved M_thrown) H → va_D A (wX10_M ca ad_M M_guests M_kind M_figure M_told M_heaps M_holds M_back M_mistakes M_hooks M_letters M_rule M_at M_well M_sort M_text M_row M_field M_fields M_begins M_ruleLetters M_coming M_comingMany M_going M_goingMany M_minute M_pile M_high M_where M_latest M_lifts M_begun M_left M_has M_lifted M_taken M_above M_allLifts M_busy M_longest M_onto M_worst M_best M_orders M_together M_ofOne M_ofOther M_seed M_then M_was M_kept M_held M_kindOn M_figureOn M_sorts M_size M_items M_moved M_thrown) → va_S A s.heap H locs → ∀ ls : Array Slot, lv_has ls 3 [(0, .ref (ad_M 0)), (2, .int v2)] → W p l e roX10_rule s m args below meth c H locs 0 0 Q (F0 m 125 ls []) := by
    intro n125
    induction n125 with
    | zero =>
      intro v2 M_letters M_rule M_at M_text M_row M_field H locs hF
      rw [fX10_rule_L125] at hF
      cases hF
    | succ n125 ih125 =>
      intro v2 M_letters M_rule M_at M_text M_row M_field H locs hF hP hD hS ls hl
      rw [fX10_rule_L125] at hF
      refine lv_iload_n hx hb dX10_rule_125 rfl (lv_at hl 1 rfl) ?_
      refine lv_aload_n hx hb dX10_rule_126 rfl (lv_at hl 0 rfl) ?_
      refine va_get (D := D) (ci := 7) (v := .int M_text) (C := RX10) (T := TX10) (N := 58) hx hb hts hin10 hown hK hP 0 rfl rfl 14 (by decide) (hts _ zm_33) (fun _ h9 => h9) rfl dX10_rule_127 ?_
      refine lv_icmp_ge (tgt := 151) hx hb dX10_rule_130 (by decide) (fun c_14 => ?_) (fun c_14 => ?_)
      · have hF := zt c_14 hF
        refine lv_aload_n hx hb dX10_rule_151 rfl (lv_at hl 0 rfl) ?_
        refine va_get (D := D) (ci := 7) (v := .int M_text) (C := RX10) (T := TX10) (N := 58) hx hb hts hin10 hown hK hP 0 rfl rfl 14 (by decide) (hts _ zm_33) (fun _ h9 => h9) rfl dX10_rule_152 ?_
        obtain rfl := Option.some.inj hF
        exact hret _ _ _ _ hP hD hS rfl dX10_rule_155
      · have hF := zf c_14 hF
        refine lv_aload_n hx hb dX10_rule_133 rfl (lv_at hl 0 rfl) ?_
        refine va_get (D := D) (ci := 7) (v := .ref (ad_M 4)) (C := RX10) (T := TX10) (N := 58) hx hb hts hin10 hown hK hP 0 rfl rfl 10 (by decide) (hts _ zm_78) (fun _ h9 => h9) rfl dX10_rule_134 ?_
        refine lv_iload_n hx hb dX10_rule_137 rfl (lv_at hl 1 rfl) ?_
        refine lv_aload_n hx hb dX10_rule_138 rfl (lv_at hl 0 rfl) ?_
        refine va_get (D := D) (ci := 7) (v := .ref (ad_M 5)) (C := RX10) (T := TX10) (N := 58) hx hb hts hin10 hown hK hP 0 rfl rfl 16 (by decide) (hts _ zm_48) (fun _ h9 => h9) rfl dX10_rule_139 ?_
        refine lv_iload_n hx hb dX10_rule_142 rfl (lv_at hl 1 rfl) ?_
        obtain ⟨h_15, hF⟩ := zgi hF
        refine va_iald hx hb hK hP 5 0 rfl rfl h_15 dX10_rule_143 ?_
        refine z_iast hx hb hK hP hD hS 4 0 rfl rfl h_15 dX10_rule_144 (fun g => (wX10_M ca ad_M M_guests M_kind M_figure M_told M_heaps M_holds M_back M_mistakes M_hooks M_letters g M_at M_well M_sort M_text M_row M_field M_fields M_begins M_ruleLetters M_coming M_comingMany M_going M_goingMany M_minute M_pile M_high M_where M_latest M_lifts M_begun M_left M_has M_lifted M_taken M_above M_allLifts M_busy M_longest M_onto M_worst M_best M_orders M_together M_ofOne M_ofOther M_seed M_then M_was M_kept M_held M_kindOn M_figureOn M_sorts M_size M_items M_moved M_thrown)) (fun _ => rfl) hF (fun M_rule_16 H locs hF hP hD hS => ?_)
        refine z_iinc (kv := 1) hx hb 1 dX10_rule_145 hl rfl (by decide) (by decide) (fun g => [(2, .int g), (0, .ref (ad_M 0))]) (fun _ => rfl) hF (fun v2_17 ls hF hl => ?_)
        refine lv_goto (tgt := 125) hx hb dX10_rule_148 (by decide) ?_
        exact ih125 v2_17 M_letters M_rule_16 M_at M_text M_row M_field _ _ hF hP hD hS ls (lv_sub hl [1, 0] rfl)
  have j101 : ∀ (M_letters : Int32) (M_rule : Nat → Int32) (M_at : Int32) (M_text : Int32) (M_row : Int32) (M_field : Nat → Int32) (H : Heap) (locs : List Loc), fX10_rule_J101 fuel M_letters M_rule M_at M_text M_row M_field = some o → va_P D vwCl (wX10_M ca ad_M M_guests M_kind M_figure M_told M_heaps M_holds M_back M_mistakes M_hooks M_letters M_rule M_at M_well M_sort M_text M_row M_field M_fields M_begins M_ruleLetters M_coming M_comingMany M_going M_goingMany M_minute M_pile M_high M_where M_latest M_lifts M_begun M_left M_has M_lifted M_taken M_above M_allLifts M_busy M_longest M_onto M_worst M_best M_orders M_together M_ofOne M_ofOther M_seed M_then M_was M_kept M_held M_kindOn M_figureOn M_sorts M_size M_items M_moved M_thrown) H → va_D A (wX10_M ca ad_M M_guests M_kind M_figure M_told M_heaps M_holds M_back M_mistakes M_hooks M_letters M_rule M_at M_well M_sort M_text M_row M_field M_fields M_begins M_ruleLetters M_coming M_comingMany M_going M_goingMany M_minute M_pile M_high M_where M_latest M_lifts M_begun M_left M_has M_lifted M_taken M_above M_allLifts M_busy M_longest M_onto M_worst M_best M_orders M_together M_ofOne M_ofOther M_seed M_then M_was M_kept M_held M_kindOn M_figureOn M_sorts M_size M_items M_moved M_thrown) → va_S A s.heap H locs → ∀ ls : Array Slot, lv_has ls 3 [(0, .ref (ad_M 0))] → W p l e roX10_rule s m args below meth c H locs 0 0 Q (F0 m 101 ls []) := by
    intro M_letters M_rule M_at M_text M_row M_field H locs hF hP hD hS ls hl
    unfold fX10_rule_J101 at hF
    refine lv_aload_n hx hb dX10_rule_101 rfl (lv_at hl 0 rfl) ?_
    refine va_get (D := D) (ci := 7) (v := .int M_at) (C := RX10) (T := TX10) (N := 58) hx hb hts hin10 hown hK hP 0 rfl rfl 11 (by decide) (hts _ zm_32) (fun _ h9 => h9) rfl dX10_rule_102 ?_
    refine lv_aload_n hx hb dX10_rule_105 rfl (lv_at hl 0 rfl) ?_
    refine va_get (D := D) (ci := 7) (v := .int M_text) (C := RX10) (T := TX10) (N := 58) hx hb hts hin10 hown hK hP 0 rfl rfl 14 (by decide) (hts _ zm_33) (fun _ h9 => h9) rfl dX10_rule_106 ?_
    refine lv_icmp_ge (tgt := 115) hx hb dX10_rule_109 (by decide) (fun c_13 => ?_) (fun c_13 => ?_)
    · have hF := zt c_13 hF
      refine lv_aload_n hx hb dX10_rule_115 rfl (lv_at hl 0 rfl) ?_
      refine lv_aload_n hx hb dX10_rule_116 rfl (lv_at hl 0 rfl) ?_
      refine va_get (D := D) (ci := 7) (v := .int M_text) (C := RX10) (T := TX10) (N := 58) hx hb hts hin10 hown hK hP 0 rfl rfl 14 (by decide) (hts _ zm_33) (fun _ h9 => h9) rfl dX10_rule_117 ?_
      refine va_put (D := D) (ci := 7) (v := .int M_text) (C := RX10) (T := TX10) (N := 58) hx hb hts hin10 tyX10 tyX10_ok nmX10 hown hK hP hD hS 0 rfl rfl 9 (by decide) (hts _ zm_73) (fun _ h9 => h9) rfl (tyX10_ok 9 (by decide)) rfl rfl (Nat.le_of_ble_eq_true rfl) dX10_rule_120 (fun H locs hP hD hS => ?_)
      have hP : va_P D vwCl (wX10_M ca ad_M M_guests M_kind M_figure M_told M_heaps M_holds M_back M_mistakes M_hooks M_text M_rule M_at M_well M_sort M_text M_row M_field M_fields M_begins M_ruleLetters M_coming M_comingMany M_going M_goingMany M_minute M_pile M_high M_where M_latest M_lifts M_begun M_left M_has M_lifted M_taken M_above M_allLifts M_busy M_longest M_onto M_worst M_best M_orders M_together M_ofOne M_ofOther M_seed M_then M_was M_kept M_held M_kindOn M_figureOn M_sorts M_size M_items M_moved M_thrown) H := hP
      have hD : va_D A (wX10_M ca ad_M M_guests M_kind M_figure M_told M_heaps M_holds M_back M_mistakes M_hooks M_text M_rule M_at M_well M_sort M_text M_row M_field M_fields M_begins M_ruleLetters M_coming M_comingMany M_going M_goingMany M_minute M_pile M_high M_where M_latest M_lifts M_begun M_left M_has M_lifted M_taken M_above M_allLifts M_busy M_longest M_onto M_worst M_best M_orders M_together M_ofOne M_ofOther M_seed M_then M_was M_kept M_held M_kindOn M_figureOn M_sorts M_size M_items M_moved M_thrown) := hD
      refine lv_iconst (v := 0) hx hb dX10_rule_123 (by decide) ?_
      refine lv_istore_n (lv' := [(2, .int 0), (0, .ref (ad_M 0))]) hx hb dX10_rule_124 rfl hl (by decide) rfl (fun ls hl => ?_)
      exact l125 fuel 0 M_text M_rule M_at M_text M_row M_field _ _ hF hP hD hS ls (lv_sub hl [1, 0] rfl)
    · have hF := zf c_13 hF
      refine lv_bipush (v := (-13)) hx hb dX10_rule_112 (by decide) ?_
      obtain rfl := Option.some.inj hF
      exact hret _ _ _ _ hP hD hS rfl dX10_rule_114
  have l67 : ∀ (n67 : Nat) (v2 : Int32) (M_letters : Int32) (M_rule : Nat → Int32) (M_at : Int32) (M_text : Int32) (M_row : Int32) (M_field : Nat → Int32) (H : Heap) (locs : List Loc), fX10_rule_L67 fuel M_ruleLetters M_items n67 v2 M_letters M_rule M_at M_text M_row M_field = some o → va_P D vwCl (wX10_M ca ad_M M_guests M_kind M_figure M_told M_heaps M_holds M_back M_mistakes M_hooks M_letters M_rule M_at M_well M_sort M_text M_row M_field M_fields M_begins M_ruleLetters M_coming M_comingMany M_going M_goingMany M_minute M_pile M_high M_where M_latest M_lifts M_begun M_left M_has M_lifted M_taken M_above M_allLifts M_busy M_longest M_onto M_worst M_best M_orders M_together M_ofOne M_ofOther M_seed M_then M_was M_kept M_held M_kindOn M_figureOn M_sorts M_size M_items M_moved M_thrown) H → va_D A (wX10_M ca ad_M M_guests M_kind M_figure M_told M_heaps M_holds M_back M_mistakes M_hooks M_letters M_rule M_at M_well M_sort M_text M_row M_field M_fields M_begins M_ruleLetters M_coming M_comingMany M_going M_goingMany M_minute M_pile M_high M_where M_latest M_lifts M_begun M_left M_has M_lifted M_taken M_above M_allLifts M_busy M_longest M_onto M_worst M_best M_orders M_together M_ofOne M_ofOther M_seed M_then M_was M_kept M_held M_kindOn M_figureOn M_sorts M_size M_items M_moved M_thrown) → va_S A s.heap H locs → ∀ ls : Array Slot, lv_has ls 3 [(0, .ref (ad_M 0)), (2, .int v2)] → W p l e roX10_rule s m args below meth c H locs 0 0 Q (F0 m 67 ls []) := by
    intro n67
    induction n67 with
    | zero =>
      intro v2 M_letters M_rule M_at M_text M_row M_field H locs hF
      rw [fX10_rule_L67] at hF
      cases hF
    | succ n67 ih67 =>
      intro v2 M_letters M_rule M_at M_text M_row M_field H locs hF hP hD hS ls hl
      rw [fX10_rule_L67] at hF
      refine lv_iload_n hx hb dX10_rule_67 rfl (lv_at hl 1 rfl) ?_
      refine lv_aload_n hx hb dX10_rule_68 rfl (lv_at hl 0 rfl) ?_
      refine va_get (D := D) (ci := 7) (v := .int M_text) (C := RX10) (T := TX10) (N := 58) hx hb hts hin10 hown hK hP 0 rfl rfl 14 (by decide) (hts _ zm_33) (fun _ h9 => h9) rfl dX10_rule_69 ?_
      refine lv_icmp_ge (tgt := 101) hx hb dX10_rule_72 (by decide) (fun c_7 => ?_) (fun c_7 => ?_)
      · have hF := zt c_7 hF
        exact j101 M_letters M_rule M_at M_text M_row M_field _ _ hF hP hD hS ls (lv_sub hl [0] rfl)
      · have hF := zf c_7 hF
        refine lv_iload_n hx hb dX10_rule_75 rfl (lv_at hl 1 rfl) ?_
        refine lv_bipush (v := 6) hx hb dX10_rule_76 (by decide) ?_
        refine lv_icmp_ge (tgt := 101) hx hb dX10_rule_78 (by decide) (fun c_8 => ?_) (fun c_8 => ?_)
        · have hF := zt c_8 hF
          exact j101 M_letters M_rule M_at M_text M_row M_field _ _ hF hP hD hS ls (lv_sub hl [0] rfl)
        · have hF := zf c_8 hF
          refine lv_aload_n hx hb dX10_rule_81 rfl (lv_at hl 0 rfl) ?_
          refine va_get (D := D) (ci := 7) (v := .ref (ad_M 5)) (C := RX10) (T := TX10) (N := 58) hx hb hts hin10 hown hK hP 0 rfl rfl 16 (by decide) (hts _ zm_48) (fun _ h9 => h9) rfl dX10_rule_82 ?_
          refine lv_iload_n hx hb dX10_rule_85 rfl (lv_at hl 1 rfl) ?_
          refine lv_aload_n hx hb dX10_rule_86 rfl (lv_at hl 0 rfl) ?_
          refine lv_aload_n hx hb dX10_rule_87 rfl (lv_at hl 0 rfl) ?_
          refine va_get (D := D) (ci := 7) (v := .ref (ad_M 7)) (C := RX10) (T := TX10) (N := 58) hx hb hts hin10 hown hK hP 0 rfl rfl 19 (by decide) (hts _ zm_53) (fun _ h9 => h9) rfl dX10_rule_88 ?_
          obtain ⟨o_9, hc_9, hF⟩ := zb hF
          refine zcVi (rest := [.int v2, .ref (ad_M 5)]) (ws' := (wX10_M ca ad_M M_guests M_kind M_figure M_told M_heaps M_holds M_back M_mistakes M_hooks M_letters M_rule o_9.2 M_well M_sort M_text M_row M_field M_fields M_begins M_ruleLetters M_coming M_comingMany M_going M_goingMany M_minute M_pile M_high M_where M_latest M_lifts M_begun M_left M_has M_lifted M_taken M_above M_allLifts M_busy M_longest M_onto M_worst M_best M_orders M_together M_ofOne M_ofOther M_seed M_then M_was M_kept M_held M_kindOn M_figureOn M_sorts M_size M_items M_moved M_thrown)) (kX10_oneOf_ruleLetters l D ca t ad_M M_guests M_kind M_figure M_told M_heaps M_holds M_back M_mistakes M_hooks M_letters M_rule M_at M_well M_sort M_text M_row M_field M_fields M_begins M_ruleLetters M_coming M_comingMany M_going M_goingMany M_minute M_pile M_high M_where M_latest M_lifts M_begun M_left M_has M_lifted M_taken M_above M_allLifts M_busy M_longest M_onto M_worst M_best M_orders M_together M_ofOne M_ofOther M_seed M_then M_was M_kept M_held M_kindOn M_figureOn M_sorts M_size M_items M_moved M_thrown fuel _ hc_9) ⟨hx, hb, hml, hown, hts⟩ (zcwV hts zm_43 zm_44 zm_45 zm_19 zm_42 rfl rfl zdv_X10_oneOf ⟨Nat.le_of_ble_eq_true rfl, Nat.le_of_ble_eq_true rfl⟩) hA hK hZ hP hD hS [0, 1, 2, 3, 4, 5, 6, 7, 8, 9, 10, 11, 12, 13, 14, 15, 16, 17, 18, 19, 20, 21, 22, 23, 24, 25, 26, 27, 28, 29, 30, 31, 32, 33] [] [0, 1, 2, 3, 4, 5, 6, 7, 8, 9, 10, 11, 12, 13, 14, 15, 16, 17, 18, 19, 20, 21, 22, 23, 24, 25, 26, 27, 28, 29, 30, 31, 32, 33] rfl rfl rfl rfl rfl rfl rfl 7 0 rfl rfl rfl hl.1 (Nat.le_of_ble_eq_true rfl) dX10_rule_91 rfl (fun H locs hP hD hS => ?_)
          obtain ⟨h_10, hF⟩ := zgi hF
          refine z_iast hx hb hK hP hD hS 5 0 rfl rfl h_10 dX10_rule_94 (fun g => (wX10_M ca ad_M M_guests M_kind M_figure M_told M_heaps M_holds M_back M_mistakes M_hooks M_letters M_rule o_9.2 M_well M_sort M_text M_row g M_fields M_begins M_ruleLetters M_coming M_comingMany M_going M_goingMany M_minute M_pile M_high M_where M_latest M_lifts M_begun M_left M_has M_lifted M_taken M_above M_allLifts M_busy M_longest M_onto M_worst M_best M_orders M_together M_ofOne M_ofOther M_seed M_then M_was M_kept M_held M_kindOn M_figureOn M_sorts M_size M_items M_moved M_thrown)) (fun _ => rfl) hF (fun M_field_11 H locs hF hP hD hS => ?_)
          refine z_iinc (kv := 1) hx hb 1 dX10_rule_95 hl rfl (by decide) (by decide) (fun g => [(2, .int g), (0, .ref (ad_M 0))]) (fun _ => rfl) hF (fun v2_12 ls hF hl => ?_)
          refine lv_goto (tgt := 67) hx hb dX10_rule_98 (by decide) ?_
          exact ih67 v2_12 M_letters M_rule o_9.2 M_text M_row M_field_11 _ _ hF hP hD hS ls (lv_sub hl [1, 0] rfl)
  unfold fX10_rule at hF
  refine lv_iload_n hx hb dX10_rule_0 rfl (lv_at hl 1 rfl) ?_
  obtain ⟨o_1, hc_1, hF⟩ := zb hF
  refine zcSR (rest := []) (kX10_isShelf l D ca t p1 fuel _ hc_1) ⟨hx, hb, hml, hown, hts⟩ (zcwS hts zm_291 zm_290 zm_19 zm_289 rfl rfl zds_X10_isShelf ⟨Nat.le_of_ble_eq_true rfl, Nat.le_of_ble_eq_true rfl⟩) hA hK hZ hP hD hS [] rfl rfl rfl hl.1 (Nat.le_of_ble_eq_true rfl) dX10_rule_1 rfl ?_
  refine lv_if_ne (tgt := 9) hx hb dX10_rule_4 (by decide) (fun c_2 => ?_) (fun c_2 => ?_)
  · have hF := zf c_2 hF
    refine lv_aload_n hx hb dX10_rule_9 rfl (lv_at hl 0 rfl) ?_
    refine va_get (D := D) (ci := 7) (v := .ref (ad_M 27)) (C := RX10) (T := TX10) (N := 58) hx hb hts hin10 hown hK hP 0 rfl rfl 50 (by decide) (hts _ zm_292) (fun _ h9 => h9) rfl dX10_rule_10 ?_
    refine lv_iload_n hx hb dX10_rule_13 rfl (lv_at hl 1 rfl) ?_
    obtain ⟨h_3, hF⟩ := zgi hF
    refine va_iald hx hb hK hP 27 0 rfl rfl h_3 dX10_rule_14 ?_
    refine lv_iconst (v := 2) hx hb dX10_rule_15 (by decide) ?_
    refine lv_icmp_ne (tgt := 28) hx hb dX10_rule_16 (by decide) (fun c_4 => ?_) (fun c_4 => ?_)
    · have hF := zf c_4 hF
      exact j28 M_letters M_rule M_at M_text M_row M_field _ _ hF hP hD hS ls (lv_sub hl [0, 1] rfl)
    · have hF := zt c_4 hF
      refine lv_aload_n hx hb dX10_rule_19 rfl (lv_at hl 0 rfl) ?_
      refine va_get (D := D) (ci := 7) (v := .ref (ad_M 30)) (C := RX10) (T := TX10) (N := 58) hx hb hts hin10 hown hK hP 0 rfl rfl 53 (by decide) (hts _ zm_295) (fun _ h9 => h9) rfl dX10_rule_20 ?_
      refine lv_iload_n hx hb dX10_rule_23 rfl (lv_at hl 1 rfl) ?_
      refine va_iald hx hb hK hP 30 0 rfl rfl h_3 dX10_rule_24 ?_
      refine lv_if_eq (tgt := 45) hx hb dX10_rule_25 (by decide) (fun c_5 => ?_) (fun c_5 => ?_)
      · have hF := zt c_5 hF
        refine lv_aload_n hx hb dX10_rule_45 rfl (lv_at hl 0 rfl) ?_
        refine lv_iload_n hx hb dX10_rule_46 rfl (lv_at hl 1 rfl) ?_
        refine va_put (D := D) (ci := 7) (v := .int p1) (C := RX10) (T := TX10) (N := 58) hx hb hts hin10 tyX10 tyX10_ok nmX10 hown hK hP hD hS 0 rfl rfl 15 (by decide) (hts _ zm_35) (fun _ h9 => h9) rfl (tyX10_ok 15 (by decide)) rfl rfl (Nat.le_of_ble_eq_true rfl) dX10_rule_47 (fun H locs hP hD hS => ?_)
        have hP : va_P D vwCl (wX10_M ca ad_M M_guests M_kind M_figure M_told M_heaps M_holds M_back M_mistakes M_hooks M_letters M_rule M_at M_well M_sort M_text p1 M_field M_fields M_begins M_ruleLetters M_coming M_comingMany M_going M_goingMany M_minute M_pile M_high M_where M_latest M_lifts M_begun M_left M_has M_lifted M_taken M_above M_allLifts M_busy M_longest M_onto M_worst M_best M_orders M_together M_ofOne M_ofOther M_seed M_then M_was M_kept M_held M_kindOn M_figureOn M_sorts M_size M_items M_moved M_thrown) H := hP
        have hD : va_D A (wX10_M ca ad_M M_guests M_kind M_figure M_told M_heaps M_holds M_back M_mistakes M_hooks M_letters M_rule M_at M_well M_sort M_text p1 M_field M_fields M_begins M_ruleLetters M_coming M_comingMany M_going M_goingMany M_minute M_pile M_high M_where M_latest M_lifts M_begun M_left M_has M_lifted M_taken M_above M_allLifts M_busy M_longest M_onto M_worst M_best M_orders M_together M_ofOne M_ofOther M_seed M_then M_was M_kept M_held M_kindOn M_figureOn M_sorts M_size M_items M_moved M_thrown) := hD
        refine lv_aload_n hx hb dX10_rule_50 rfl (lv_at hl 0 rfl) ?_
        refine lv_aload_n hx hb dX10_rule_51 rfl (lv_at hl 0 rfl) ?_
        refine va_get (D := D) (ci := 7) (v := .ref (ad_M 31)) (C := RX10) (T := TX10) (N := 58) hx hb hts hin10 hown hK hP 0 rfl rfl 54 (by decide) (hts _ zm_270) (fun _ h9 => h9) rfl dX10_rule_52 ?_
        refine lv_iload_n hx hb dX10_rule_55 rfl (lv_at hl 1 rfl) ?_
        refine va_iald hx hb hK hP 31 0 rfl rfl h_3 dX10_rule_56 ?_
        refine z_let hF (fun text_6 hF => ?_)
        refine va_put (D := D) (ci := 7) (v := .int text_6) (C := RX10) (T := TX10) (N := 58) hx hb hts hin10 tyX10 tyX10_ok nmX10 hown hK hP hD hS 0 rfl rfl 14 (by decide) (hts _ zm_33) (fun _ h9 => h9) rfl (tyX10_ok 14 (by decide)) rfl rfl (Nat.le_of_ble_eq_true rfl) dX10_rule_57 (fun H locs hP hD hS => ?_)
        have hP : va_P D vwCl (wX10_M ca ad_M M_guests M_kind M_figure M_told M_heaps M_holds M_back M_mistakes M_hooks M_letters M_rule M_at M_well M_sort text_6 p1 M_field M_fields M_begins M_ruleLetters M_coming M_comingMany M_going M_goingMany M_minute M_pile M_high M_where M_latest M_lifts M_begun M_left M_has M_lifted M_taken M_above M_allLifts M_busy M_longest M_onto M_worst M_best M_orders M_together M_ofOne M_ofOther M_seed M_then M_was M_kept M_held M_kindOn M_figureOn M_sorts M_size M_items M_moved M_thrown) H := hP
        have hD : va_D A (wX10_M ca ad_M M_guests M_kind M_figure M_told M_heaps M_holds M_back M_mistakes M_hooks M_letters M_rule M_at M_well M_sort text_6 p1 M_field M_fields M_begins M_ruleLetters M_coming M_comingMany M_going M_goingMany M_minute M_pile M_high M_where M_latest M_lifts M_begun M_left M_has M_lifted M_taken M_above M_allLifts M_busy M_longest M_onto M_worst M_best M_orders M_together M_ofOne M_ofOther M_seed M_then M_was M_kept M_held M_kindOn M_figureOn M_sorts M_size M_items M_moved M_thrown) := hD
        refine lv_aload_n hx hb dX10_rule_60 rfl (lv_at hl 0 rfl) ?_
        refine lv_iconst (v := 0) hx hb dX10_rule_61 (by decide) ?_
        refine va_put (D := D) (ci := 7) (v := .int 0) (C := RX10) (T := TX10) (N := 58) hx hb hts hin10 tyX10 tyX10_ok nmX10 hown hK hP hD hS 0 rfl rfl 11 (by decide) (hts _ zm_32) (fun _ h9 => h9) rfl (tyX10_ok 11 (by decide)) rfl rfl (Nat.le_of_ble_eq_true rfl) dX10_rule_62 (fun H locs hP hD hS => ?_)
        have hP : va_P D vwCl (wX10_M ca ad_M M_guests M_kind M_figure M_told M_heaps M_holds M_back M_mistakes M_hooks M_letters M_rule 0 M_well M_sort text_6 p1 M_field M_fields M_begins M_ruleLetters M_coming M_comingMany M_going M_goingMany M_minute M_pile M_high M_where M_latest M_lifts M_begun M_left M_has M_lifted M_taken M_above M_allLifts M_busy M_longest M_onto M_worst M_best M_orders M_together M_ofOne M_ofOther M_seed M_then M_was M_kept M_held M_kindOn M_figureOn M_sorts M_size M_items M_moved M_thrown) H := hP
        have hD : va_D A (wX10_M ca ad_M M_guests M_kind M_figure M_told M_heaps M_holds M_back M_mistakes M_hooks M_letters M_rule 0 M_well M_sort text_6 p1 M_field M_fields M_begins M_ruleLetters M_coming M_comingMany M_going M_goingMany M_minute M_pile M_high M_where M_latest M_lifts M_begun M_left M_has M_lifted M_taken M_above M_allLifts M_busy M_longest M_onto M_worst M_best M_orders M_together M_ofOne M_ofOther M_seed M_then M_was M_kept M_held M_kindOn M_figureOn M_sorts M_size M_items M_moved M_thrown) := hD
        refine lv_iconst (v := 0) hx hb dX10_rule_65 (by decide) ?_
        refine lv_istore_n (lv' := [(2, .int 0), (0, .ref (ad_M 0)), (1, .int p1)]) hx hb dX10_rule_66 rfl hl (by decide) rfl (fun ls hl => ?_)
        exact l67 fuel 0 M_letters M_rule 0 text_6 p1 M_field _ _ hF hP hD hS ls (lv_sub hl [1, 0] rfl)
      · have hF := zf c_5 hF
        exact j28 M_letters M_rule M_at M_text M_row M_field _ _ hF hP hD hS ls (lv_sub hl [0, 1] rfl)
  · have hF := zt c_2 hF
    refine lv_iconst (v := (-1)) hx hb dX10_rule_7 (by decide) ?_
    obtain rfl := Option.some.inj hF
    exact hret _ _ _ _ hP hD hS rfl dX10_rule_8
abbrev roX10_judge : Room := { frames := 5, cells := 0, slots := 0, locals := 115 }
set_option maxHeartbeats 4000000 in
set_option maxRecDepth 100000 in
theorem kX10_judge (l : Launch) (D : va_G) (ca : Nat → ClassId) (t : Nat → Nat) (ad_M : Nat → Nat) (M_guests : Int32) (M_kind : Nat → Int32) (M_figure : Nat → Int32) (M_told : Nat → Int32) (M_heaps : Int32) (M_holds : Int32) (M_back : Int32) (M_mistakes : Int32) (M_hooks : Int32) (M_letters : Int32) (M_rule : Nat → Int32) (M_at : Int32) (M_well : Int32) (M_sort : Int32) (M_text : Int32) (M_row : Int32) (M_field : Nat → Int32) (M_fields : Int32) (M_begins : Nat → Int32) (M_ruleLetters : Nat → Int32) (M_coming : Nat → Int32) (M_comingMany : Int32) (M_going : Nat → Int32) (M_goingMany : Int32) (M_minute : Nat → Int32) (M_pile : Nat → Int32) (M_high : Nat → Int32) (M_where : Nat → Int32) (M_latest : Int32) (M_lifts : Nat → Int32) (M_begun : Nat → Int32) (M_left : Nat → Int32) (M_has : Nat → Int32) (M_lifted : Nat → Int32) (M_taken : Nat → Int32) (M_above : Nat → Int32) (M_allLifts : Int32) (M_busy : Int32) (M_longest : Nat → Int32) (M_onto : Nat → Int32) (M_worst : Int32) (M_best : Int32) (M_orders : Int32) (M_together : Int32) (M_ofOne : Nat → Int32) (M_ofOther : Nat → Int32) (M_seed : Int32) (M_then : Nat → Int32) (M_was : Nat → Int32) (M_kept : Int32) (M_held : Nat → Int32) (M_kindOn : Nat → Int32) (M_figureOn : Nat → Int32) (M_sorts : Nat → Int32) (M_size : Nat → Int32) (M_items : Nat → Int32) (M_moved : Nat → Int32) (M_thrown : Int32) (p1 : Int32) (fuel : Nat) (o : Int32 × (Nat → Int32) × Int32 × (Nat → Int32) × Int32 × (Nat → Int32) × (Nat → Int32) × (Nat → Int32) × (Nat → Int32) × Int32) (hF : fX10_judge fuel M_guests M_kind M_figure M_told M_heaps M_holds M_hooks M_letters M_rule M_coming M_comingMany M_going M_goingMany M_minute M_pile M_high M_where M_latest M_held M_size M_items p1 = some o) : zMi l D (zT ca) t yX10_judge (.code yX10_judge cX10_judge 6 (some .int) :: zW) roX10_judge [.ref (ad_M 0), .int p1] (wX10_M ca ad_M M_guests M_kind M_figure M_told M_heaps M_holds M_back M_mistakes M_hooks M_letters M_rule M_at M_well M_sort M_text M_row M_field M_fields M_begins M_ruleLetters M_coming M_comingMany M_going M_goingMany M_minute M_pile M_high M_where M_latest M_lifts M_begun M_left M_has M_lifted M_taken M_above M_allLifts M_busy M_longest M_onto M_worst M_best M_orders M_together M_ofOne M_ofOther M_seed M_then M_was M_kept M_held M_kindOn M_figureOn M_sorts M_size M_items M_moved M_thrown) (wX10_M ca ad_M M_guests M_kind M_figure M_told M_heaps M_holds M_back M_mistakes M_hooks M_letters M_rule M_at M_well M_sort M_text M_row M_field M_fields M_begins M_ruleLetters o.2.1 o.2.2.1 o.2.2.2.1 o.2.2.2.2.1 o.2.2.2.2.2.1 o.2.2.2.2.2.2.1 o.2.2.2.2.2.2.2.1 o.2.2.2.2.2.2.2.2.1 o.2.2.2.2.2.2.2.2.2 M_lifts M_begun M_left M_has M_lifted M_taken M_above M_allLifts M_busy M_longest M_onto M_worst M_best M_orders M_together M_ofOne M_ofOther M_seed M_then M_was M_kept M_held M_kindOn M_figureOn M_sorts M_size M_items M_moved M_thrown) o.1 := by
  refine zMi_of (cc := cX10_judge) (maxL := 6) (by decide) rfl (Nat.le_of_ble_eq_true rfl) ?_
  intro p e s m args below meth c A Q ls ⟨hx, hb, hml, hown, hts, hA, hK, hZ, hS⟩ hret hP hD hl
  have hts := fun w h => hts w (List.mem_cons_of_mem _ h)
  have hown : s.vm.findClass RX10 = some m.cls := hown
  have hl : lv_has ls 6 [(0, .ref (ad_M 0)), (1, .int p1)] := hl
  have hin10 := zin_X10
  have l48 : ∀ (n48 : Nat) (v2 : Int32) (v3 : Int32) (M_coming : Nat → Int32) (M_comingMany : Int32) (M_going : Nat → Int32) (M_goingMany : Int32) (M_minute : Nat → Int32) (M_pile : Nat → Int32) (M_high : Nat → Int32) (M_where : Nat → Int32) (M_latest : Int32) (H : Heap) (locs : List Loc), fX10_judge_L48 fuel M_guests M_size M_items p1 n48 v2 v3 M_coming M_comingMany M_going M_goingMany M_minute M_pile M_high M_where M_latest = some o → va_P D vwCl (wX10_M ca ad_M M_guests M_kind M_figure M_told M_heaps M_holds M_back M_mistakes M_hooks M_letters M_rule M_at M_well M_sort M_text M_row M_field M_fields M_begins M_ruleLetters M_coming M_comingMany M_going M_goingMany M_minute M_pile M_high M_where M_latest M_lifts M_begun M_left M_has M_lifted M_taken M_above M_allLifts M_busy M_longest M_onto M_worst M_best M_orders M_together M_ofOne M_ofOther M_seed M_then M_was M_kept M_held M_kindOn M_figureOn M_sorts M_size M_items M_moved M_thrown) H → va_D A (wX10_M ca ad_M M_guests M_kind M_figure M_told M_heaps M_holds M_back M_mistakes M_hooks M_letters M_rule M_at M_well M_sort M_text M_row M_field M_fields M_begins M_ruleLetters M_coming M_comingMany M_going M_goingMany M_minute M_pile M_high M_where M_latest M_lifts M_begun M_left M_has M_lifted M_taken M_above M_allLifts M_busy M_longest M_onto M_worst M_best M_orders M_together M_ofOne M_ofOther M_seed M_then M_was M_kept M_held M_kindOn M_figureOn M_sorts M_size M_items M_moved M_thrown) → va_S A s.heap H locs → ∀ ls : Array Slot, lv_has ls 6 [(0, .ref (ad_M 0)), (1, .int p1), (2, .int v2), (3, .int v3)] → W p l e roX10_judge s m args below meth c H locs 0 0 Q (F0 m 48 ls []) := by
    intro n48
    induction n48 with
    | zero =>
      intro v2 v3 M_coming M_comingMany M_going M_goingMany M_minute M_pile M_high M_where M_latest H locs hF
      rw [fX10_judge_L48] at hF
      cases hF
    | succ n48 ih48 =>
      have j156 : ∀ (v2 : Int32) (v3 : Int32) (M_coming : Nat → Int32) (M_comingMany : Int32) (M_going : Nat → Int32) (M_goingMany : Int32) (M_minute : Nat → Int32) (M_pile : Nat → Int32) (M_high : Nat → Int32) (M_where : Nat → Int32) (M_latest : Int32) (H : Heap) (locs : List Loc), fX10_judge_J156 (fX10_judge_L48 fuel M_guests M_size M_items p1 n48) v2 v3 M_coming M_comingMany M_going M_goingMany M_minute M_pile M_high M_where M_latest = some o → va_P D vwCl (wX10_M ca ad_M M_guests M_kind M_figure M_told M_heaps M_holds M_back M_mistakes M_hooks M_letters M_rule M_at M_well M_sort M_text M_row M_field M_fields M_begins M_ruleLetters M_coming M_comingMany M_going M_goingMany M_minute M_pile M_high M_where M_latest M_lifts M_begun M_left M_has M_lifted M_taken M_above M_allLifts M_busy M_longest M_onto M_worst M_best M_orders M_together M_ofOne M_ofOther M_seed M_then M_was M_kept M_held M_kindOn M_figureOn M_sorts M_size M_items M_moved M_thrown) H → va_D A (wX10_M ca ad_M M_guests M_kind M_figure M_told M_heaps M_holds M_back M_mistakes M_hooks M_letters M_rule M_at M_well M_sort M_text M_row M_field M_fields M_begins M_ruleLetters M_coming M_comingMany M_going M_goingMany M_minute M_pile M_high M_where M_latest M_lifts M_begun M_left M_has M_lifted M_taken M_above M_allLifts M_busy M_longest M_onto M_worst M_best M_orders M_together M_ofOne M_ofOther M_seed M_then M_was M_kept M_held M_kindOn M_figureOn M_sorts M_size M_items M_moved M_thrown) → va_S A s.heap H locs → ∀ ls : Array Slot, lv_has ls 6 [(0, .ref (ad_M 0)), (1, .int p1), (2, .int v2), (3, .int v3)] → W p l e roX10_judge s m args below meth c H locs 0 0 Q (F0 m 156 ls []) := by
        intro v2 v3 M_coming M_comingMany M_going M_goingMany M_minute M_pile M_high M_where M_latest H locs hF hP hD hS ls hl
        unfold fX10_judge_J156 at hF
        refine z_iinc (kv := 1) hx hb 3 dX10_judge_156 hl rfl (by decide) (by decide) (fun g => [(3, .int g), (0, .ref (ad_M 0)), (1, .int p1), (2, .int v2)]) (fun _ => rfl) hF (fun v3_25 ls hF hl => ?_)
        refine lv_goto (tgt := 48) hx hb dX10_judge_159 (by decide) ?_
        exact ih48 v2 v3_25 M_coming M_comingMany M_going M_goingMany M_minute M_pile M_high M_where M_latest _ _ hF hP hD hS ls (lv_sub hl [1, 2, 3, 0] rfl)
      intro v2 v3 M_coming M_comingMany M_going M_goingMany M_minute M_pile M_high M_where M_latest H locs hF hP hD hS ls hl
      rw [fX10_judge_L48] at hF
      refine lv_iload_n hx hb dX10_judge_48 rfl (lv_at hl 3 rfl) ?_
      refine lv_aload_n hx hb dX10_judge_49 rfl (lv_at hl 0 rfl) ?_
      refine va_get (D := D) (ci := 7) (v := .ref (ad_M 31)) (C := RX10) (T := TX10) (N := 58) hx hb hts hin10 hown hK hP 0 rfl rfl 54 (by decide) (hts _ zm_270) (fun _ h9 => h9) rfl dX10_judge_50 ?_
      refine lv_iload_n hx hb dX10_judge_53 rfl (lv_at hl 1 rfl) ?_
      obtain ⟨h_8, hF⟩ := zgi hF
      refine va_iald hx hb hK hP 31 0 rfl rfl h_8 dX10_judge_54 ?_
      refine lv_icmp_ge (tgt := 162) hx hb dX10_judge_55 (by decide) (fun c_9 => ?_) (fun c_9 => ?_)
      · have hF := zt c_9 hF
        refine lv_bipush (v := (-4)) hx hb dX10_judge_162 (by decide) ?_
        obtain rfl := Option.some.inj hF
        exact hret _ _ _ _ hP hD hS rfl dX10_judge_164
      · have hF := zf c_9 hF
        refine lv_aload_n hx hb dX10_judge_58 rfl (lv_at hl 0 rfl) ?_
        refine va_get (D := D) (ci := 7) (v := .ref (ad_M 32)) (C := RX10) (T := TX10) (N := 58) hx hb hts hin10 hown hK hP 0 rfl rfl 55 (by decide) (hts _ zm_34) (fun _ h9 => h9) rfl dX10_judge_59 ?_
        refine lv_bipush (v := 100) hx hb dX10_judge_62 (by decide) ?_
        refine lv_iload_n hx hb dX10_judge_64 rfl (lv_at hl 1 rfl) ?_
        refine lv_imul hx hb dX10_judge_65 ?_
        refine lv_iload_n hx hb dX10_judge_66 rfl (lv_at hl 3 rfl) ?_
        refine lv_iadd hx hb dX10_judge_67 ?_
        obtain ⟨h_10, hF⟩ := zgi hF
        refine va_iald hx hb hK hP 32 0 rfl rfl h_10 dX10_judge_68 ?_
        refine z_let hF (fun v4_11 hF => ?_)
        refine lv_istore (lv' := [(4, .int v4_11), (0, .ref (ad_M 0)), (1, .int p1), (2, .int v2), (3, .int v3)]) hx hb dX10_judge_69 hl (by decide) rfl (fun ls hl => ?_)
        refine lv_aload_n hx hb dX10_judge_71 rfl (lv_at hl 1 rfl) ?_
        refine lv_iload hx hb dX10_judge_72 (lv_at hl 0 rfl) ?_
        obtain ⟨o_12, hc_12, hF⟩ := zb hF
        refine zcVR (rest := []) (kX10_isGuest l D ca t ad_M M_guests M_kind M_figure M_told M_heaps M_holds M_back M_mistakes M_hooks M_letters M_rule M_at M_well M_sort M_text M_row M_field M_fields M_begins M_ruleLetters M_coming M_comingMany M_going M_goingMany M_minute M_pile M_high M_where M_latest M_lifts M_begun M_left M_has M_lifted M_taken M_above M_allLifts M_busy M_longest M_onto M_worst M_best M_orders M_together M_ofOne M_ofOther M_seed M_then M_was M_kept M_held M_kindOn M_figureOn M_sorts M_size M_items M_moved M_thrown v4_11 fuel _ hc_12) ⟨hx, hb, hml, hown, hts⟩ (zcwV hts zm_63 zm_64 zm_65 zm_19 zm_62 rfl rfl zdv_X10_isGuest ⟨Nat.le_of_ble_eq_true rfl, Nat.le_of_ble_eq_true rfl⟩) hA hK hZ hP hD hS [0, 1, 2, 3, 4, 5, 6, 7, 8, 9, 10, 11, 12, 13, 14, 15, 16, 17, 18, 19, 20, 21, 22, 23, 24, 25, 26, 27, 28, 29, 30, 31, 32, 33] rfl rfl 7 0 rfl rfl rfl hl.1 (Nat.le_of_ble_eq_true rfl) dX10_judge_74 rfl ?_
        refine lv_if_eq (tgt := 90) hx hb dX10_judge_77 (by decide) (fun c_13 => ?_) (fun c_13 => ?_)
        · have hF := zt c_13 hF
          refine lv_iload_n hx hb dX10_judge_90 rfl (lv_at hl 4 rfl) ?_
          obtain rfl := Option.some.inj hF
          exact hret _ _ _ _ hP hD hS rfl dX10_judge_91
        · have hF := zf c_13 hF
          refine lv_iload_n hx hb dX10_judge_80 rfl (lv_at hl 3 rfl) ?_
          refine lv_iload hx hb dX10_judge_81 (lv_at hl 0 rfl) ?_
          refine lv_ishr hx hb dX10_judge_83 ?_
          refine lv_iconst (v := 1) hx hb dX10_judge_84 (by decide) ?_
          refine lv_iand hx hb dX10_judge_85 ?_
          refine lv_iconst (v := 1) hx hb dX10_judge_86 (by decide) ?_
          refine lv_icmp_ne (tgt := 92) hx hb dX10_judge_87 (by decide) (fun c_14 => ?_) (fun c_14 => ?_)
          · have hF := zf c_14 hF
            refine lv_iload_n hx hb dX10_judge_92 rfl (lv_at hl 3 rfl) ?_
            refine lv_iconst (v := 1) hx hb dX10_judge_93 (by decide) ?_
            refine lv_iload hx hb dX10_judge_94 (lv_at hl 0 rfl) ?_
            refine lv_ishl hx hb dX10_judge_96 ?_
            refine lv_ior hx hb dX10_judge_97 ?_
            refine z_let hF (fun v2_15 hF => ?_)
            refine lv_istore_n (lv' := [(2, .int v2_15), (4, .int v4_11), (0, .ref (ad_M 0)), (1, .int p1), (3, .int v3)]) hx hb dX10_judge_98 rfl hl (by decide) rfl (fun ls hl => ?_)
            refine lv_aload_n hx hb dX10_judge_99 rfl (lv_at hl 2 rfl) ?_
            refine va_get (D := D) (ci := 7) (v := .ref (ad_M 13)) (C := RX10) (T := TX10) (N := 58) hx hb hts hin10 hown hK hP 0 rfl rfl 27 (by decide) (hts _ zm_130) (fun _ h9 => h9) rfl dX10_judge_100 ?_
            refine lv_iload hx hb dX10_judge_103 (lv_at hl 1 rfl) ?_
            obtain ⟨h_16, hF⟩ := zgi hF
            refine va_iald hx hb hK hP 13 0 rfl rfl h_16 dX10_judge_105 ?_
            refine z_let hF (fun v5_17 hF => ?_)
            refine lv_istore (lv' := [(5, .int v5_17), (2, .int v2_15), (4, .int v4_11), (0, .ref (ad_M 0)), (1, .int p1), (3, .int v3)]) hx hb dX10_judge_106 hl (by decide) rfl (fun ls hl => ?_)
            refine lv_iload hx hb dX10_judge_108 (lv_at hl 0 rfl) ?_
            refine lv_iconst (v := 0) hx hb dX10_judge_110 (by decide) ?_
            refine lv_iconst (v := 2) hx hb dX10_judge_111 (by decide) ?_
            obtain ⟨o_18, hc_18, hF⟩ := zb hF
            refine zcSR (rest := []) (kX10_isIn l D ca t v5_17 0 2 fuel _ hc_18) ⟨hx, hb, hml, hown, hts⟩ (zcwS hts zm_20 zm_18 zm_19 zm_17 rfl rfl zds_X10_isIn ⟨Nat.le_of_ble_eq_true rfl, Nat.le_of_ble_eq_true rfl⟩) hA hK hZ hP hD hS [] rfl rfl rfl hl.1 (Nat.le_of_ble_eq_true rfl) dX10_judge_112 rfl ?_
            refine lv_if_eq (tgt := 156) hx hb dX10_judge_115 (by decide) (fun c_19 => ?_) (fun c_19 => ?_)
            · have hF := zt c_19 hF
              exact j156 v2_15 v3 M_coming M_comingMany M_going M_goingMany M_minute M_pile M_high M_where M_latest _ _ hF hP hD hS ls (lv_sub hl [3, 4, 1, 5] rfl)
            · have hF := zf c_19 hF
              refine lv_aload_n hx hb dX10_judge_118 rfl (lv_at hl 3 rfl) ?_
              refine va_get (D := D) (ci := 7) (v := .ref (ad_M 11)) (C := RX10) (T := TX10) (N := 58) hx hb hts hin10 hown hK hP 0 rfl rfl 25 (by decide) (hts _ zm_108) (fun _ h9 => h9) rfl dX10_judge_119 ?_
              refine lv_bipush (v := 10) hx hb dX10_judge_122 (by decide) ?_
              refine lv_iload hx hb dX10_judge_124 (lv_at hl 0 rfl) ?_
              refine lv_imul hx hb dX10_judge_126 ?_
              refine lv_aload_n hx hb dX10_judge_127 rfl (lv_at hl 3 rfl) ?_
              refine va_get (D := D) (ci := 7) (v := .ref (ad_M 12)) (C := RX10) (T := TX10) (N := 58) hx hb hts hin10 hown hK hP 0 rfl rfl 26 (by decide) (hts _ zm_107) (fun _ h9 => h9) rfl dX10_judge_128 ?_
              refine lv_iload hx hb dX10_judge_131 (lv_at hl 0 rfl) ?_
              obtain ⟨h_20, hF⟩ := zgi hF
              refine va_iald hx hb hK hP 12 0 rfl rfl h_20 dX10_judge_133 ?_
              refine lv_iadd hx hb dX10_judge_134 ?_
              refine lv_iconst (v := 1) hx hb dX10_judge_135 (by decide) ?_
              refine lv_isub hx hb dX10_judge_136 ?_
              refine z_let hF (fun x_21 hF => ?_)
              obtain ⟨h_22, hF⟩ := zgi hF
              refine va_iald hx hb hK hP 11 0 rfl rfl h_22 dX10_judge_137 ?_
              refine lv_iload hx hb dX10_judge_138 (lv_at hl 2 rfl) ?_
              refine lv_icmp_eq (tgt := 145) hx hb dX10_judge_140 (by decide) (fun c_23 => ?_) (fun c_23 => ?_)
              · have hF := zt c_23 hF
                refine lv_aload_n hx hb dX10_judge_145 rfl (lv_at hl 3 rfl) ?_
                refine va_get (D := D) (ci := 7) (v := .ref (ad_M 12)) (C := RX10) (T := TX10) (N := 58) hx hb hts hin10 hown hK hP 0 rfl rfl 26 (by decide) (hts _ zm_107) (fun _ h9 => h9) rfl dX10_judge_146 ?_
                refine lv_iload hx hb dX10_judge_149 (lv_at hl 0 rfl) ?_
                refine lv_dup2_11 hx hb dX10_judge_151 rfl rfl ?_
                refine va_iald hx hb hK hP 12 0 rfl rfl h_20 dX10_judge_152 ?_
                refine lv_iconst (v := 1) hx hb dX10_judge_153 (by decide) ?_
                refine lv_isub hx hb dX10_judge_154 ?_
                refine z_iast hx hb hK hP hD hS 12 0 rfl rfl h_20 dX10_judge_155 (fun g => (wX10_M ca ad_M M_guests M_kind M_figure M_told M_heaps M_holds M_back M_mistakes M_hooks M_letters M_rule M_at M_well M_sort M_text M_row M_field M_fields M_begins M_ruleLetters M_coming M_comingMany M_going M_goingMany M_minute M_pile g M_where M_latest M_lifts M_begun M_left M_has M_lifted M_taken M_above M_allLifts M_busy M_longest M_onto M_worst M_best M_orders M_together M_ofOne M_ofOther M_seed M_then M_was M_kept M_held M_kindOn M_figureOn M_sorts M_size M_items M_moved M_thrown)) (fun _ => rfl) hF (fun M_high_24 H locs hF hP hD hS => ?_)
                exact j156 v2_15 v3 M_coming M_comingMany M_going M_goingMany M_minute M_pile M_high_24 M_where M_latest _ _ hF hP hD hS ls (lv_sub hl [3, 4, 1, 5] rfl)
              · have hF := zf c_23 hF
                refine lv_iload_n hx hb dX10_judge_143 rfl (lv_at hl 5 rfl) ?_
                obtain rfl := Option.some.inj hF
                exact hret _ _ _ _ hP hD hS rfl dX10_judge_144
          · have hF := zt c_14 hF
            refine lv_iload_n hx hb dX10_judge_90 rfl (lv_at hl 4 rfl) ?_
            obtain rfl := Option.some.inj hF
            exact hret _ _ _ _ hP hD hS rfl dX10_judge_91
  unfold fX10_judge at hF
  refine lv_iload_n hx hb dX10_judge_0 rfl (lv_at hl 1 rfl) ?_
  obtain ⟨o_1, hc_1, hF⟩ := zb hF
  refine zcSR (rest := []) (kX10_isShelf l D ca t p1 fuel _ hc_1) ⟨hx, hb, hml, hown, hts⟩ (zcwS hts zm_291 zm_290 zm_19 zm_289 rfl rfl zds_X10_isShelf ⟨Nat.le_of_ble_eq_true rfl, Nat.le_of_ble_eq_true rfl⟩) hA hK hZ hP hD hS [] rfl rfl rfl hl.1 (Nat.le_of_ble_eq_true rfl) dX10_judge_1 rfl ?_
  refine lv_if_ne (tgt := 9) hx hb dX10_judge_4 (by decide) (fun c_2 => ?_) (fun c_2 => ?_)
  · have hF := zf c_2 hF
    refine lv_aload_n hx hb dX10_judge_9 rfl (lv_at hl 0 rfl) ?_
    refine va_get (D := D) (ci := 7) (v := .ref (ad_M 27)) (C := RX10) (T := TX10) (N := 58) hx hb hts hin10 hown hK hP 0 rfl rfl 50 (by decide) (hts _ zm_292) (fun _ h9 => h9) rfl dX10_judge_10 ?_
    refine lv_iload_n hx hb dX10_judge_13 rfl (lv_at hl 1 rfl) ?_
    obtain ⟨h_3, hF⟩ := zgi hF
    refine va_iald hx hb hK hP 27 0 rfl rfl h_3 dX10_judge_14 ?_
    refine lv_iconst (v := 2) hx hb dX10_judge_15 (by decide) ?_
    refine lv_icmp_eq (tgt := 36) hx hb dX10_judge_16 (by decide) (fun c_4 => ?_) (fun c_4 => ?_)
    · have hF := zt c_4 hF
      refine lv_aload_n hx hb dX10_judge_36 rfl (lv_at hl 0 rfl) ?_
      obtain ⟨o_5, hc_5, hF⟩ := zb hF
      refine zcVv (rest := []) (ws' := (wX10_M ca ad_M M_guests M_kind M_figure M_told M_heaps M_holds M_back M_mistakes M_hooks M_letters M_rule M_at M_well M_sort M_text M_row M_field M_fields M_begins M_ruleLetters o_5.1 o_5.2.1 o_5.2.2.1 o_5.2.2.2.1 o_5.2.2.2.2 M_pile M_high M_where M_latest M_lifts M_begun M_left M_has M_lifted M_taken M_above M_allLifts M_busy M_longest M_onto M_worst M_best M_orders M_together M_ofOne M_ofOther M_seed M_then M_was M_kept M_held M_kindOn M_figureOn M_sorts M_size M_items M_moved M_thrown)) (kX10_usual l D ca t ad_M M_guests M_kind M_figure M_told M_heaps M_holds M_back M_mistakes M_hooks M_letters M_rule M_at M_well M_sort M_text M_row M_field M_fields M_begins M_ruleLetters M_coming M_comingMany M_going M_goingMany M_minute M_pile M_high M_where M_latest M_lifts M_begun M_left M_has M_lifted M_taken M_above M_allLifts M_busy M_longest M_onto M_worst M_best M_orders M_together M_ofOne M_ofOther M_seed M_then M_was M_kept M_held M_kindOn M_figureOn M_sorts M_size M_items M_moved M_thrown fuel _ hc_5) ⟨hx, hb, hml, hown, hts⟩ (zcwV hts zm_186 zm_187 zm_188 zm_19 zm_185 rfl rfl zdv_X10_usual ⟨Nat.le_of_ble_eq_true rfl, Nat.le_of_ble_eq_true rfl⟩) hA hK hZ hP hD hS [0, 1, 2, 3, 4, 5, 6, 7, 8, 9, 10, 11, 12, 13, 14, 15, 16, 17, 18, 19, 20, 21, 22, 23, 24, 25, 26, 27, 28, 29, 30, 31, 32, 33] [] [0, 1, 2, 3, 4, 5, 6, 7, 8, 9, 10, 11, 12, 13, 14, 15, 16, 17, 18, 19, 20, 21, 22, 23, 24, 25, 26, 27, 28, 29, 30, 31, 32, 33] rfl rfl rfl rfl rfl rfl rfl 7 0 rfl rfl rfl hl.1 (Nat.le_of_ble_eq_true rfl) dX10_judge_37 rfl (fun H locs hP hD hS => ?_)
      refine lv_aload_n hx hb dX10_judge_40 rfl (lv_at hl 0 rfl) ?_
      obtain ⟨o_6, hc_6, hF⟩ := zb hF
      refine zcVv (rest := []) (ws' := (wX10_M ca ad_M M_guests M_kind M_figure M_told M_heaps M_holds M_back M_mistakes M_hooks M_letters M_rule M_at M_well M_sort M_text M_row M_field M_fields M_begins M_ruleLetters o_5.1 o_5.2.1 o_5.2.2.1 o_5.2.2.2.1 o_5.2.2.2.2 o_6.1 o_6.2.1 o_6.2.2.1 o_6.2.2.2 M_lifts M_begun M_left M_has M_lifted M_taken M_above M_allLifts M_busy M_longest M_onto M_worst M_best M_orders M_together M_ofOne M_ofOther M_seed M_then M_was M_kept M_held M_kindOn M_figureOn M_sorts M_size M_items M_moved M_thrown)) (kX10_lay l D ca t ad_M M_guests M_kind M_figure M_told M_heaps M_holds M_back M_mistakes M_hooks M_letters M_rule M_at M_well M_sort M_text M_row M_field M_fields M_begins M_ruleLetters o_5.1 o_5.2.1 o_5.2.2.1 o_5.2.2.2.1 o_5.2.2.2.2 M_pile M_high M_where M_latest M_lifts M_begun M_left M_has M_lifted M_taken M_above M_allLifts M_busy M_longest M_onto M_worst M_best M_orders M_together M_ofOne M_ofOther M_seed M_then M_was M_kept M_held M_kindOn M_figureOn M_sorts M_size M_items M_moved M_thrown fuel _ hc_6) ⟨hx, hb, hml, hown, hts⟩ (zcwV hts zm_177 zm_178 zm_179 zm_19 zm_176 rfl rfl zdv_X10_lay ⟨Nat.le_of_ble_eq_true rfl, Nat.le_of_ble_eq_true rfl⟩) hA hK hZ hP hD hS [0, 1, 2, 3, 4, 5, 6, 7, 8, 9, 10, 11, 12, 13, 14, 15, 16, 17, 18, 19, 20, 21, 22, 23, 24, 25, 26, 27, 28, 29, 30, 31, 32, 33] [] [0, 1, 2, 3, 4, 5, 6, 7, 8, 9, 10, 11, 12, 13, 14, 15, 16, 17, 18, 19, 20, 21, 22, 23, 24, 25, 26, 27, 28, 29, 30, 31, 32, 33] rfl rfl rfl rfl rfl rfl rfl 7 0 rfl rfl rfl hl.1 (Nat.le_of_ble_eq_true rfl) dX10_judge_41 rfl (fun H locs hP hD hS => ?_)
      refine lv_iconst (v := 0) hx hb dX10_judge_44 (by decide) ?_
      refine lv_istore_n (lv' := [(2, .int 0), (0, .ref (ad_M 0)), (1, .int p1)]) hx hb dX10_judge_45 rfl hl (by decide) rfl (fun ls hl => ?_)
      refine lv_iconst (v := 0) hx hb dX10_judge_46 (by decide) ?_
      refine lv_istore_n (lv' := [(3, .int 0), (2, .int 0), (0, .ref (ad_M 0)), (1, .int p1)]) hx hb dX10_judge_47 rfl hl (by decide) rfl (fun ls hl => ?_)
      exact l48 fuel 0 0 o_5.1 o_5.2.1 o_5.2.2.1 o_5.2.2.2.1 o_5.2.2.2.2 o_6.1 o_6.2.1 o_6.2.2.1 o_6.2.2.2 _ _ hF hP hD hS ls (lv_sub hl [2, 3, 1, 0] rfl)
    · have hF := zf c_4 hF
      refine lv_aload_n hx hb dX10_judge_19 rfl (lv_at hl 0 rfl) ?_
      refine va_get (D := D) (ci := 7) (v := .ref (ad_M 27)) (C := RX10) (T := TX10) (N := 58) hx hb hts hin10 hown hK hP 0 rfl rfl 50 (by decide) (hts _ zm_292) (fun _ h9 => h9) rfl dX10_judge_20 ?_
      refine lv_iload_n hx hb dX10_judge_23 rfl (lv_at hl 1 rfl) ?_
      refine va_iald hx hb hK hP 27 0 rfl rfl h_3 dX10_judge_24 ?_
      refine lv_if_ne (tgt := 33) hx hb dX10_judge_25 (by decide) (fun c_7 => ?_) (fun c_7 => ?_)
      · have hF := zf c_7 hF
        refine lv_bipush (v := (-12)) hx hb dX10_judge_33 (by decide) ?_
        obtain rfl := Option.some.inj hF
        exact hret _ _ _ _ hP hD hS rfl dX10_judge_35
      · have hF := zt c_7 hF
        refine lv_bipush (v := (-11)) hx hb dX10_judge_28 (by decide) ?_
        refine lv_goto (tgt := 35) hx hb dX10_judge_30 (by decide) ?_
        obtain rfl := Option.some.inj hF
        exact hret _ _ _ _ hP hD hS rfl dX10_judge_35
  · have hF := zt c_2 hF
    refine lv_iconst (v := (-1)) hx hb dX10_judge_7 (by decide) ?_
    obtain rfl := Option.some.inj hF
    exact hret _ _ _ _ hP hD hS rfl dX10_judge_8
theorem zdv_X10_isLaidSo : yX10_isLaidSo.cls = RX10 ∧ yX10_isLaidSo.cls ≠ "java/lang/invoke/MethodHandle" ∧ yX10_isLaidSo.cls ≠ "java/lang/invoke/VarHandle" ∧ (parseMethodDescriptor yX10_isLaidSo.desc).map (fun d => d.parameters.length) = some 1 := by decide +kernel
abbrev roX10_reads : Room := { frames := 5, cells := 0, slots := 0, locals := 115 }
set_option maxHeartbeats 4000000 in
set_option maxRecDepth 100000 in
theorem kX10_reads (l : Launch) (D : va_G) (ca : Nat → ClassId) (t : Nat → Nat) (ad_M : Nat → Nat) (M_guests : Int32) (M_kind : Nat → Int32) (M_figure : Nat → Int32) (M_told : Nat → Int32) (M_heaps : Int32) (M_holds : Int32) (M_back : Int32) (M_mistakes : Int32) (M_hooks : Int32) (M_letters : Int32) (M_rule : Nat → Int32) (M_at : Int32) (M_well : Int32) (M_sort : Int32) (M_text : Int32) (M_row : Int32) (M_field : Nat → Int32) (M_fields : Int32) (M_begins : Nat → Int32) (M_ruleLetters : Nat → Int32) (M_coming : Nat → Int32) (M_comingMany : Int32) (M_going : Nat → Int32) (M_goingMany : Int32) (M_minute : Nat → Int32) (M_pile : Nat → Int32) (M_high : Nat → Int32) (M_where : Nat → Int32) (M_latest : Int32) (M_lifts : Nat → Int32) (M_begun : Nat → Int32) (M_left : Nat → Int32) (M_has : Nat → Int32) (M_lifted : Nat → Int32) (M_taken : Nat → Int32) (M_above : Nat → Int32) (M_allLifts : Int32) (M_busy : Int32) (M_longest : Nat → Int32) (M_onto : Nat → Int32) (M_worst : Int32) (M_best : Int32) (M_orders : Int32) (M_together : Int32) (M_ofOne : Nat → Int32) (M_ofOther : Nat → Int32) (M_seed : Int32) (M_then : Nat → Int32) (M_was : Nat → Int32) (M_kept : Int32) (M_held : Nat → Int32) (M_kindOn : Nat → Int32) (M_figureOn : Nat → Int32) (M_sorts : Nat → Int32) (M_size : Nat → Int32) (M_items : Nat → Int32) (M_moved : Nat → Int32) (M_thrown : Int32) (p1 : Int32) (p2 : Int32) (fuel : Nat) (o : Int32 × (Nat → Int32) × Int32 × (Nat → Int32) × Int32 × (Nat → Int32) × (Nat → Int32) × (Nat → Int32) × (Nat → Int32) × Int32) (hF : fX10_reads fuel M_guests M_kind M_figure M_told M_heaps M_holds M_hooks M_letters M_rule M_coming M_comingMany M_going M_goingMany M_minute M_pile M_high M_where M_latest M_held M_size M_items p1 p2 = some o) : zMi l D (zT ca) t yX10_reads (.code yX10_reads cX10_reads 7 (some .int) :: zW) roX10_reads [.ref (ad_M 0), .int p1, .int p2] (wX10_M ca ad_M M_guests M_kind M_figure M_told M_heaps M_holds M_back M_mistakes M_hooks M_letters M_rule M_at M_well M_sort M_text M_row M_field M_fields M_begins M_ruleLetters M_coming M_comingMany M_going M_goingMany M_minute M_pile M_high M_where M_latest M_lifts M_begun M_left M_has M_lifted M_taken M_above M_allLifts M_busy M_longest M_onto M_worst M_best M_orders M_together M_ofOne M_ofOther M_seed M_then M_was M_kept M_held M_kindOn M_figureOn M_sorts M_size M_items M_moved M_thrown) (wX10_M ca ad_M M_guests M_kind M_figure M_told M_heaps M_holds M_back M_mistakes M_hooks M_letters M_rule M_at M_well M_sort M_text M_row M_field M_fields M_begins M_ruleLetters o.2.1 o.2.2.1 o.2.2.2.1 o.2.2.2.2.1 o.2.2.2.2.2.1 o.2.2.2.2.2.2.1 o.2.2.2.2.2.2.2.1 o.2.2.2.2.2.2.2.2.1 o.2.2.2.2.2.2.2.2.2 M_lifts M_begun M_left M_has M_lifted M_taken M_above M_allLifts M_busy M_longest M_onto M_worst M_best M_orders M_together M_ofOne M_ofOther M_seed M_then M_was M_kept M_held M_kindOn M_figureOn M_sorts M_size M_items M_moved M_thrown) o.1 := by
  refine zMi_of (cc := cX10_reads) (maxL := 7) (by decide) rfl (Nat.le_of_ble_eq_true rfl) ?_
  intro p e s m args below meth c A Q ls ⟨hx, hb, hml, hown, hts, hA, hK, hZ, hS⟩ hret hP hD hl
  have hts := fun w h => hts w (List.mem_cons_of_mem _ h)
  have hown : s.vm.findClass RX10 = some m.cls := hown
  have hl : lv_has ls 7 [(0, .ref (ad_M 0)), (1, .int p1), (2, .int p2)] := hl
  have hin10 := zin_X10
  have j150 : ∀ (v3 : Int32) (v4 : Int32) (M_coming : Nat → Int32) (M_comingMany : Int32) (M_going : Nat → Int32) (M_goingMany : Int32) (M_minute : Nat → Int32) (M_pile : Nat → Int32) (M_high : Nat → Int32) (M_where : Nat → Int32) (M_latest : Int32) (H : Heap) (locs : List Loc), fX10_reads_J150 p2 v3 v4 M_coming M_comingMany M_going M_goingMany M_minute M_pile M_high M_where M_latest = some o → va_P D vwCl (wX10_M ca ad_M M_guests M_kind M_figure M_told M_heaps M_holds M_back M_mistakes M_hooks M_letters M_rule M_at M_well M_sort M_text M_row M_field M_fields M_begins M_ruleLetters M_coming M_comingMany M_going M_goingMany M_minute M_pile M_high M_where M_latest M_lifts M_begun M_left M_has M_lifted M_taken M_above M_allLifts M_busy M_longest M_onto M_worst M_best M_orders M_together M_ofOne M_ofOther M_seed M_then M_was M_kept M_held M_kindOn M_figureOn M_sorts M_size M_items M_moved M_thrown) H → va_D A (wX10_M ca ad_M M_guests M_kind M_figure M_told M_heaps M_holds M_back M_mistakes M_hooks M_letters M_rule M_at M_well M_sort M_text M_row M_field M_fields M_begins M_ruleLetters M_coming M_comingMany M_going M_goingMany M_minute M_pile M_high M_where M_latest M_lifts M_begun M_left M_has M_lifted M_taken M_above M_allLifts M_busy M_longest M_onto M_worst M_best M_orders M_together M_ofOne M_ofOther M_seed M_then M_was M_kept M_held M_kindOn M_figureOn M_sorts M_size M_items M_moved M_thrown) → va_S A s.heap H locs → ∀ ls : Array Slot, lv_has ls 7 [(2, .int p2), (3, .int v3), (4, .int v4)] → W p l e roX10_reads s m args below meth c H locs 0 0 Q (F0 m 150 ls []) := by
    intro v3 v4 M_coming M_comingMany M_going M_goingMany M_minute M_pile M_high M_where M_latest H locs hF hP hD hS ls hl
    unfold fX10_reads_J150 at hF
    refine lv_iload_n hx hb dX10_reads_150 rfl (lv_at hl 0 rfl) ?_
    refine lv_if_ne (tgt := 158) hx hb dX10_reads_151 (by decide) (fun c_16 => ?_) (fun c_16 => ?_)
    · have hF := zf c_16 hF
      refine lv_iload hx hb dX10_reads_158 (lv_at hl 2 rfl) ?_
      obtain rfl := Option.some.inj hF
      exact hret _ _ _ _ hP hD hS rfl dX10_reads_160
    · have hF := zt c_16 hF
      refine lv_iload_n hx hb dX10_reads_154 rfl (lv_at hl 1 rfl) ?_
      refine lv_goto (tgt := 160) hx hb dX10_reads_155 (by decide) ?_
      obtain rfl := Option.some.inj hF
      exact hret _ _ _ _ hP hD hS rfl dX10_reads_160
  have l70 : ∀ (n70 : Nat) (v3 : Int32) (v4 : Int32) (v5 : Int32) (M_coming : Nat → Int32) (M_comingMany : Int32) (M_going : Nat → Int32) (M_goingMany : Int32) (M_minute : Nat → Int32) (M_pile : Nat → Int32) (M_high : Nat → Int32) (M_where : Nat → Int32) (M_latest : Int32) (H : Heap) (locs : List Loc), fX10_reads_L70 fuel M_guests M_heaps M_holds M_hooks M_letters M_rule M_size M_items p1 p2 n70 v3 v4 v5 M_coming M_comingMany M_going M_goingMany M_minute M_pile M_high M_where M_latest = some o → va_P D vwCl (wX10_M ca ad_M M_guests M_kind M_figure M_told M_heaps M_holds M_back M_mistakes M_hooks M_letters M_rule M_at M_well M_sort M_text M_row M_field M_fields M_begins M_ruleLetters M_coming M_comingMany M_going M_goingMany M_minute M_pile M_high M_where M_latest M_lifts M_begun M_left M_has M_lifted M_taken M_above M_allLifts M_busy M_longest M_onto M_worst M_best M_orders M_together M_ofOne M_ofOther M_seed M_then M_was M_kept M_held M_kindOn M_figureOn M_sorts M_size M_items M_moved M_thrown) H → va_D A (wX10_M ca ad_M M_guests M_kind M_figure M_told M_heaps M_holds M_back M_mistakes M_hooks M_letters M_rule M_at M_well M_sort M_text M_row M_field M_fields M_begins M_ruleLetters M_coming M_comingMany M_going M_goingMany M_minute M_pile M_high M_where M_latest M_lifts M_begun M_left M_has M_lifted M_taken M_above M_allLifts M_busy M_longest M_onto M_worst M_best M_orders M_together M_ofOne M_ofOther M_seed M_then M_was M_kept M_held M_kindOn M_figureOn M_sorts M_size M_items M_moved M_thrown) → va_S A s.heap H locs → ∀ ls : Array Slot, lv_has ls 7 [(0, .ref (ad_M 0)), (1, .int p1), (2, .int p2), (3, .int v3), (4, .int v4), (5, .int v5)] → W p l e roX10_reads s m args below meth c H locs 0 0 Q (F0 m 70 ls []) := by
    intro n70
    induction n70 with
    | zero =>
      intro v3 v4 v5 M_coming M_comingMany M_going M_goingMany M_minute M_pile M_high M_where M_latest H locs hF
      rw [fX10_reads_L70] at hF
      cases hF
    | succ n70 ih70 =>
      have j133 : ∀ (v3 : Int32) (v4 : Int32) (M_coming : Nat → Int32) (M_comingMany : Int32) (M_going : Nat → Int32) (M_goingMany : Int32) (M_minute : Nat → Int32) (M_pile : Nat → Int32) (M_high : Nat → Int32) (M_where : Nat → Int32) (M_latest : Int32) (H : Heap) (locs : List Loc), fX10_reads_J133 fuel M_guests (fX10_reads_L70 fuel M_guests M_heaps M_holds M_hooks M_letters M_rule M_size M_items p1 p2 n70) v3 v4 M_coming M_comingMany M_going M_goingMany M_minute M_pile M_high M_where M_latest = some o → va_P D vwCl (wX10_M ca ad_M M_guests M_kind M_figure M_told M_heaps M_holds M_back M_mistakes M_hooks M_letters M_rule M_at M_well M_sort M_text M_row M_field M_fields M_begins M_ruleLetters M_coming M_comingMany M_going M_goingMany M_minute M_pile M_high M_where M_latest M_lifts M_begun M_left M_has M_lifted M_taken M_above M_allLifts M_busy M_longest M_onto M_worst M_best M_orders M_together M_ofOne M_ofOther M_seed M_then M_was M_kept M_held M_kindOn M_figureOn M_sorts M_size M_items M_moved M_thrown) H → va_D A (wX10_M ca ad_M M_guests M_kind M_figure M_told M_heaps M_holds M_back M_mistakes M_hooks M_letters M_rule M_at M_well M_sort M_text M_row M_field M_fields M_begins M_ruleLetters M_coming M_comingMany M_going M_goingMany M_minute M_pile M_high M_where M_latest M_lifts M_begun M_left M_has M_lifted M_taken M_above M_allLifts M_busy M_longest M_onto M_worst M_best M_orders M_together M_ofOne M_ofOther M_seed M_then M_was M_kept M_held M_kindOn M_figureOn M_sorts M_size M_items M_moved M_thrown) → va_S A s.heap H locs → ∀ ls : Array Slot, lv_has ls 7 [(0, .ref (ad_M 0)), (1, .int p1), (2, .int p2), (3, .int v3), (4, .int v4)] → W p l e roX10_reads s m args below meth c H locs 0 0 Q (F0 m 133 ls []) := by
        intro v3 v4 M_coming M_comingMany M_going M_goingMany M_minute M_pile M_high M_where M_latest H locs hF hP hD hS ls hl
        unfold fX10_reads_J133 at hF
        refine lv_aload_n hx hb dX10_reads_133 rfl (lv_at hl 0 rfl) ?_
        refine lv_aload_n hx hb dX10_reads_134 rfl (lv_at hl 0 rfl) ?_
        refine va_get (D := D) (ci := 7) (v := .ref (ad_M 8)) (C := RX10) (T := TX10) (N := 58) hx hb hts hin10 hown hK hP 0 rfl rfl 20 (by decide) (hts _ zm_84) (fun _ h9 => h9) rfl dX10_reads_135 ?_
        refine lv_aload_n hx hb dX10_reads_138 rfl (lv_at hl 0 rfl) ?_
        refine va_get (D := D) (ci := 7) (v := .int M_guests) (C := RX10) (T := TX10) (N := 58) hx hb hts hin10 hown hK hP 0 rfl rfl 0 (by decide) (hts _ zm_16) (fun _ h9 => h9) rfl dX10_reads_139 ?_
        obtain ⟨o_21, hc_21, hF⟩ := zb hF
        refine zcVi (rest := []) (ws' := (wX10_M ca ad_M M_guests M_kind M_figure M_told M_heaps M_holds M_back M_mistakes M_hooks M_letters M_rule M_at M_well M_sort M_text M_row M_field M_fields M_begins M_ruleLetters o_21.2 M_comingMany M_going M_goingMany M_minute M_pile M_high M_where M_latest M_lifts M_begun M_left M_has M_lifted M_taken M_above M_allLifts M_busy M_longest M_onto M_worst M_best M_orders M_together M_ofOne M_ofOther M_seed M_then M_was M_kept M_held M_kindOn M_figureOn M_sorts M_size M_items M_moved M_thrown)) (kX10_nextOrder_coming l D ca t ad_M M_guests M_kind M_figure M_told M_heaps M_holds M_back M_mistakes M_hooks M_letters M_rule M_at M_well M_sort M_text M_row M_field M_fields M_begins M_ruleLetters M_coming M_comingMany M_going M_goingMany M_minute M_pile M_high M_where M_latest M_lifts M_begun M_left M_has M_lifted M_taken M_above M_allLifts M_busy M_longest M_onto M_worst M_best M_orders M_together M_ofOne M_ofOther M_seed M_then M_was M_kept M_held M_kindOn M_figureOn M_sorts M_size M_items M_moved M_thrown M_guests fuel _ hc_21) ⟨hx, hb, hml, hown, hts⟩ (zcwV hts zm_255 zm_256 zm_257 zm_19 zm_254 rfl rfl zdv_X10_nextOrder ⟨Nat.le_of_ble_eq_true rfl, Nat.le_of_ble_eq_true rfl⟩) hA hK hZ hP hD hS [0, 1, 2, 3, 4, 5, 6, 7, 8, 9, 10, 11, 12, 13, 14, 15, 16, 17, 18, 19, 20, 21, 22, 23, 24, 25, 26, 27, 28, 29, 30, 31, 32, 33] [] [0, 1, 2, 3, 4, 5, 6, 7, 8, 9, 10, 11, 12, 13, 14, 15, 16, 17, 18, 19, 20, 21, 22, 23, 24, 25, 26, 27, 28, 29, 30, 31, 32, 33] rfl rfl rfl rfl rfl rfl rfl 7 0 rfl rfl rfl hl.1 (Nat.le_of_ble_eq_true rfl) dX10_reads_142 rfl (fun H locs hP hD hS => ?_)
        refine lv_istore (lv' := [(5, .int o_21.1), (0, .ref (ad_M 0)), (1, .int p1), (2, .int p2), (3, .int v3), (4, .int v4)]) hx hb dX10_reads_145 hl (by decide) rfl (fun ls hl => ?_)
        refine lv_goto (tgt := 70) hx hb dX10_reads_147 (by decide) ?_
        exact ih70 v3 v4 o_21.1 o_21.2 M_comingMany M_going M_goingMany M_minute M_pile M_high M_where M_latest _ _ hF hP hD hS ls (lv_sub hl [1, 2, 3, 4, 5, 0] rfl)
      have l103 : ∀ (n103 : Nat) (v3 : Int32) (v4 : Int32) (v6 : Int32) (M_coming : Nat → Int32) (M_comingMany : Int32) (M_going : Nat → Int32) (M_goingMany : Int32) (M_minute : Nat → Int32) (M_pile : Nat → Int32) (M_high : Nat → Int32) (M_where : Nat → Int32) (M_latest : Int32) (H : Heap) (locs : List Loc), fX10_reads_L103 fuel M_guests (fX10_reads_L70 fuel M_guests M_heaps M_holds M_hooks M_letters M_rule M_size M_items p1 p2 n70) n103 v3 v4 v6 M_coming M_comingMany M_going M_goingMany M_minute M_pile M_high M_where M_latest = some o → va_P D vwCl (wX10_M ca ad_M M_guests M_kind M_figure M_told M_heaps M_holds M_back M_mistakes M_hooks M_letters M_rule M_at M_well M_sort M_text M_row M_field M_fields M_begins M_ruleLetters M_coming M_comingMany M_going M_goingMany M_minute M_pile M_high M_where M_latest M_lifts M_begun M_left M_has M_lifted M_taken M_above M_allLifts M_busy M_longest M_onto M_worst M_best M_orders M_together M_ofOne M_ofOther M_seed M_then M_was M_kept M_held M_kindOn M_figureOn M_sorts M_size M_items M_moved M_thrown) H → va_D A (wX10_M ca ad_M M_guests M_kind M_figure M_told M_heaps M_holds M_back M_mistakes M_hooks M_letters M_rule M_at M_well M_sort M_text M_row M_field M_fields M_begins M_ruleLetters M_coming M_comingMany M_going M_goingMany M_minute M_pile M_high M_where M_latest M_lifts M_begun M_left M_has M_lifted M_taken M_above M_allLifts M_busy M_longest M_onto M_worst M_best M_orders M_together M_ofOne M_ofOther M_seed M_then M_was M_kept M_held M_kindOn M_figureOn M_sorts M_size M_items M_moved M_thrown) → va_S A s.heap H locs → ∀ ls : Array Slot, lv_has ls 7 [(0, .ref (ad_M 0)), (1, .int p1), (2, .int p2), (3, .int v3), (4, .int v4), (6, .int v6)] → W p l e roX10_reads s m args below meth c H locs 0 0 Q (F0 m 103 ls []) := by
        intro n103
        induction n103 with
        | zero =>
          intro v3 v4 v6 M_coming M_comingMany M_going M_goingMany M_minute M_pile M_high M_where M_latest H locs hF
          rw [fX10_reads_L103] at hF
          cases hF
        | succ n103 ih103 =>
          intro v3 v4 v6 M_coming M_comingMany M_going M_goingMany M_minute M_pile M_high M_where M_latest H locs hF hP hD hS ls hl
          rw [fX10_reads_L103] at hF
          refine lv_iload hx hb dX10_reads_103 (lv_at hl 5 rfl) ?_
          refine lv_aload_n hx hb dX10_reads_105 rfl (lv_at hl 0 rfl) ?_
          refine va_get (D := D) (ci := 7) (v := .int M_guests) (C := RX10) (T := TX10) (N := 58) hx hb hts hin10 hown hK hP 0 rfl rfl 0 (by decide) (hts _ zm_16) (fun _ h9 => h9) rfl dX10_reads_106 ?_
          refine lv_icmp_ge (tgt := 133) hx hb dX10_reads_109 (by decide) (fun c_17 => ?_) (fun c_17 => ?_)
          · have hF := zt c_17 hF
            exact j133 v3 v4 M_coming M_comingMany M_going M_goingMany M_minute M_pile M_high M_where M_latest _ _ hF hP hD hS ls (lv_sub hl [0, 1, 2, 3, 4] rfl)
          · have hF := zf c_17 hF
            refine lv_bipush (v := 10) hx hb dX10_reads_112 (by decide) ?_
            refine lv_iload hx hb dX10_reads_114 (lv_at hl 4 rfl) ?_
            refine lv_imul hx hb dX10_reads_116 ?_
            refine lv_aload_n hx hb dX10_reads_117 rfl (lv_at hl 0 rfl) ?_
            refine va_get (D := D) (ci := 7) (v := .ref (ad_M 8)) (C := RX10) (T := TX10) (N := 58) hx hb hts hin10 hown hK hP 0 rfl rfl 20 (by decide) (hts _ zm_84) (fun _ h9 => h9) rfl dX10_reads_118 ?_
            refine lv_iload hx hb dX10_reads_121 (lv_at hl 5 rfl) ?_
            obtain ⟨h_18, hF⟩ := zgi hF
            refine va_iald hx hb hK hP 8 0 rfl rfl h_18 dX10_reads_123 ?_
            refine lv_iadd hx hb dX10_reads_124 ?_
            refine z_let hF (fun v4_19 hF => ?_)
            refine lv_istore (lv' := [(4, .int v4_19), (0, .ref (ad_M 0)), (1, .int p1), (2, .int p2), (3, .int v3), (6, .int v6)]) hx hb dX10_reads_125 hl (by decide) rfl (fun ls hl => ?_)
            refine z_iinc (kv := 1) hx hb 5 dX10_reads_127 hl rfl (by decide) (by decide) (fun g => [(6, .int g), (4, .int v4_19), (0, .ref (ad_M 0)), (1, .int p1), (2, .int p2), (3, .int v3)]) (fun _ => rfl) hF (fun v6_20 ls hF hl => ?_)
            refine lv_goto (tgt := 103) hx hb dX10_reads_130 (by decide) ?_
            exact ih103 v3 v4_19 v6_20 M_coming M_comingMany M_going M_goingMany M_minute M_pile M_high M_where M_latest _ _ hF hP hD hS ls (lv_sub hl [2, 3, 4, 5, 1, 0] rfl)
      intro v3 v4 v5 M_coming M_comingMany M_going M_goingMany M_minute M_pile M_high M_where M_latest H locs hF hP hD hS ls hl
      rw [fX10_reads_L70] at hF
      refine lv_iload hx hb dX10_reads_70 (lv_at hl 5 rfl) ?_
      refine lv_if_eq (tgt := 150) hx hb dX10_reads_72 (by decide) (fun c_10 => ?_) (fun c_10 => ?_)
      · have hF := zt c_10 hF
        exact j150 v3 v4 M_coming M_comingMany M_going M_goingMany M_minute M_pile M_high M_where M_latest _ _ hF hP hD hS ls (lv_sub hl [2, 3, 4] rfl)
      · have hF := zf c_10 hF
        refine lv_aload_n hx hb dX10_reads_75 rfl (lv_at hl 0 rfl) ?_
        obtain ⟨o_11, hc_11, hF⟩ := zb hF
        refine zcVv (rest := []) (ws' := (wX10_M ca ad_M M_guests M_kind M_figure M_told M_heaps M_holds M_back M_mistakes M_hooks M_letters M_rule M_at M_well M_sort M_text M_row M_field M_fields M_begins M_ruleLetters M_coming M_comingMany M_going M_goingMany M_minute o_11.1 o_11.2.1 o_11.2.2.1 o_11.2.2.2 M_lifts M_begun M_left M_has M_lifted M_taken M_above M_allLifts M_busy M_longest M_onto M_worst M_best M_orders M_together M_ofOne M_ofOther M_seed M_then M_was M_kept M_held M_kindOn M_figureOn M_sorts M_size M_items M_moved M_thrown)) (kX10_lay l D ca t ad_M M_guests M_kind M_figure M_told M_heaps M_holds M_back M_mistakes M_hooks M_letters M_rule M_at M_well M_sort M_text M_row M_field M_fields M_begins M_ruleLetters M_coming M_comingMany M_going M_goingMany M_minute M_pile M_high M_where M_latest M_lifts M_begun M_left M_has M_lifted M_taken M_above M_allLifts M_busy M_longest M_onto M_worst M_best M_orders M_together M_ofOne M_ofOther M_seed M_then M_was M_kept M_held M_kindOn M_figureOn M_sorts M_size M_items M_moved M_thrown fuel _ hc_11) ⟨hx, hb, hml, hown, hts⟩ (zcwV hts zm_177 zm_178 zm_179 zm_19 zm_176 rfl rfl zdv_X10_lay ⟨Nat.le_of_ble_eq_true rfl, Nat.le_of_ble_eq_true rfl⟩) hA hK hZ hP hD hS [0, 1, 2, 3, 4, 5, 6, 7, 8, 9, 10, 11, 12, 13, 14, 15, 16, 17, 18, 19, 20, 21, 22, 23, 24, 25, 26, 27, 28, 29, 30, 31, 32, 33] [] [0, 1, 2, 3, 4, 5, 6, 7, 8, 9, 10, 11, 12, 13, 14, 15, 16, 17, 18, 19, 20, 21, 22, 23, 24, 25, 26, 27, 28, 29, 30, 31, 32, 33] rfl rfl rfl rfl rfl rfl rfl 7 0 rfl rfl rfl hl.1 (Nat.le_of_ble_eq_true rfl) dX10_reads_76 rfl (fun H locs hP hD hS => ?_)
        refine lv_aload_n hx hb dX10_reads_79 rfl (lv_at hl 0 rfl) ?_
        refine lv_iload_n hx hb dX10_reads_80 rfl (lv_at hl 1 rfl) ?_
        obtain ⟨o_12, hc_12, hF⟩ := zb hF
        refine zcVR (rest := []) (kX10_isLaidSo l D ca t ad_M M_guests M_kind M_figure M_told M_heaps M_holds M_back M_mistakes M_hooks M_letters M_rule M_at M_well M_sort M_text M_row M_field M_fields M_begins M_ruleLetters M_coming M_comingMany M_going M_goingMany M_minute o_11.1 o_11.2.1 o_11.2.2.1 o_11.2.2.2 M_lifts M_begun M_left M_has M_lifted M_taken M_above M_allLifts M_busy M_longest M_onto M_worst M_best M_orders M_together M_ofOne M_ofOther M_seed M_then M_was M_kept M_held M_kindOn M_figureOn M_sorts M_size M_items M_moved M_thrown p1 fuel _ hc_12) ⟨hx, hb, hml, hown, hts⟩ (zcwV hts zm_530 zm_531 zm_532 zm_19 zm_529 rfl rfl zdv_X10_isLaidSo ⟨Nat.le_of_ble_eq_true rfl, Nat.le_of_ble_eq_true rfl⟩) hA hK hZ hP hD hS [0, 1, 2, 3, 4, 5, 6, 7, 8, 9, 10, 11, 12, 13, 14, 15, 16, 17, 18, 19, 20, 21, 22, 23, 24, 25, 26, 27, 28, 29, 30, 31, 32, 33] rfl rfl 7 0 rfl rfl rfl hl.1 (Nat.le_of_ble_eq_true rfl) dX10_reads_81 rfl ?_
        refine lv_if_eq (tgt := 133) hx hb dX10_reads_84 (by decide) (fun c_13 => ?_) (fun c_13 => ?_)
        · have hF := zt c_13 hF
          exact j133 v3 v4 M_coming M_comingMany M_going M_goingMany M_minute o_11.1 o_11.2.1 o_11.2.2.1 o_11.2.2.2 _ _ hF hP hD hS ls (lv_sub hl [0, 1, 2, 3, 4] rfl)
        · have hF := zf c_13 hF
          refine z_iinc (kv := 1) hx hb 3 dX10_reads_87 hl rfl (by decide) (by decide) (fun g => [(3, .int g), (0, .ref (ad_M 0)), (1, .int p1), (2, .int p2), (4, .int v4), (5, .int v5)]) (fun _ => rfl) hF (fun v3_14 ls hF hl => ?_)
          refine lv_iload hx hb dX10_reads_90 (lv_at hl 4 rfl) ?_
          refine lv_bipush (v := (-4)) hx hb dX10_reads_92 (by decide) ?_
          refine lv_icmp_ne (tgt := 133) hx hb dX10_reads_94 (by decide) (fun c_15 => ?_) (fun c_15 => ?_)
          · have hF := zf c_15 hF
            exact j133 v3_14 v4 M_coming M_comingMany M_going M_goingMany M_minute o_11.1 o_11.2.1 o_11.2.2.1 o_11.2.2.2 _ _ hF hP hD hS ls (lv_sub hl [1, 2, 3, 0, 4] rfl)
          · have hF := zt c_15 hF
            refine lv_iconst (v := 0) hx hb dX10_reads_97 (by decide) ?_
            refine lv_istore (lv' := [(4, .int 0), (3, .int v3_14), (0, .ref (ad_M 0)), (1, .int p1), (2, .int p2), (5, .int v5)]) hx hb dX10_reads_98 hl (by decide) rfl (fun ls hl => ?_)
            refine lv_iconst (v := 0) hx hb dX10_reads_100 (by decide) ?_
            refine lv_istore (lv' := [(6, .int 0), (4, .int 0), (3, .int v3_14), (0, .ref (ad_M 0)), (1, .int p1), (2, .int p2), (5, .int v5)]) hx hb dX10_reads_101 hl (by decide) rfl (fun ls hl => ?_)
            exact l103 fuel v3_14 0 0 M_coming M_comingMany M_going M_goingMany M_minute o_11.1 o_11.2.1 o_11.2.2.1 o_11.2.2.2 _ _ hF hP hD hS ls (lv_sub hl [3, 4, 5, 2, 1, 0] rfl)
  unfold fX10_reads at hF
  refine lv_iload_n hx hb dX10_reads_0 rfl (lv_at hl 1 rfl) ?_
  obtain ⟨o_1, hc_1, hF⟩ := zb hF
  refine zcSR (rest := []) (kX10_isShelf l D ca t p1 fuel _ hc_1) ⟨hx, hb, hml, hown, hts⟩ (zcwS hts zm_291 zm_290 zm_19 zm_289 rfl rfl zds_X10_isShelf ⟨Nat.le_of_ble_eq_true rfl, Nat.le_of_ble_eq_true rfl⟩) hA hK hZ hP hD hS [] rfl rfl rfl hl.1 (Nat.le_of_ble_eq_true rfl) dX10_reads_1 rfl ?_
  refine lv_if_eq (tgt := 16) hx hb dX10_reads_4 (by decide) (fun c_2 => ?_) (fun c_2 => ?_)
  · have hF := zt c_2 hF
    refine lv_iconst (v := (-1)) hx hb dX10_reads_16 (by decide) ?_
    obtain rfl := Option.some.inj hF
    exact hret _ _ _ _ hP hD hS rfl dX10_reads_17
  · have hF := zf c_2 hF
    refine lv_iload_n hx hb dX10_reads_7 rfl (lv_at hl 2 rfl) ?_
    refine lv_iconst (v := 0) hx hb dX10_reads_8 (by decide) ?_
    refine lv_iconst (v := 1) hx hb dX10_reads_9 (by decide) ?_
    obtain ⟨o_3, hc_3, hF⟩ := zb hF
    refine zcSR (rest := []) (kX10_isIn l D ca t p2 0 1 fuel _ hc_3) ⟨hx, hb, hml, hown, hts⟩ (zcwS hts zm_20 zm_18 zm_19 zm_17 rfl rfl zds_X10_isIn ⟨Nat.le_of_ble_eq_true rfl, Nat.le_of_ble_eq_true rfl⟩) hA hK hZ hP hD hS [] rfl rfl rfl hl.1 (Nat.le_of_ble_eq_true rfl) dX10_reads_10 rfl ?_
    refine lv_if_ne (tgt := 18) hx hb dX10_reads_13 (by decide) (fun c_4 => ?_) (fun c_4 => ?_)
    · have hF := zf c_4 hF
      refine lv_aload_n hx hb dX10_reads_18 rfl (lv_at hl 0 rfl) ?_
      refine va_get (D := D) (ci := 7) (v := .ref (ad_M 27)) (C := RX10) (T := TX10) (N := 58) hx hb hts hin10 hown hK hP 0 rfl rfl 50 (by decide) (hts _ zm_292) (fun _ h9 => h9) rfl dX10_reads_19 ?_
      refine lv_iload_n hx hb dX10_reads_22 rfl (lv_at hl 1 rfl) ?_
      obtain ⟨h_5, hF⟩ := zgi hF
      refine va_iald hx hb hK hP 27 0 rfl rfl h_5 dX10_reads_23 ?_
      refine lv_iconst (v := 2) hx hb dX10_reads_24 (by decide) ?_
      refine lv_icmp_eq (tgt := 45) hx hb dX10_reads_25 (by decide) (fun c_6 => ?_) (fun c_6 => ?_)
      · have hF := zt c_6 hF
        refine lv_aload_n hx hb dX10_reads_45 rfl (lv_at hl 0 rfl) ?_
        refine va_get (D := D) (ci := 7) (v := .int M_guests) (C := RX10) (T := TX10) (N := 58) hx hb hts hin10 hown hK hP 0 rfl rfl 0 (by decide) (hts _ zm_16) (fun _ h9 => h9) rfl dX10_reads_46 ?_
        refine lv_bipush (v := 6) hx hb dX10_reads_49 (by decide) ?_
        refine lv_icmp_le (tgt := 57) hx hb dX10_reads_51 (by decide) (fun c_7 => ?_) (fun c_7 => ?_)
        · have hF := zt c_7 hF
          refine lv_aload_n hx hb dX10_reads_57 rfl (lv_at hl 0 rfl) ?_
          obtain ⟨o_8, hc_8, hF⟩ := zb hF
          refine zcVv (rest := []) (ws' := (wX10_M ca ad_M M_guests M_kind M_figure M_told M_heaps M_holds M_back M_mistakes M_hooks M_letters M_rule M_at M_well M_sort M_text M_row M_field M_fields M_begins M_ruleLetters o_8.1 o_8.2.1 o_8.2.2.1 o_8.2.2.2.1 o_8.2.2.2.2 M_pile M_high M_where M_latest M_lifts M_begun M_left M_has M_lifted M_taken M_above M_allLifts M_busy M_longest M_onto M_worst M_best M_orders M_together M_ofOne M_ofOther M_seed M_then M_was M_kept M_held M_kindOn M_figureOn M_sorts M_size M_items M_moved M_thrown)) (kX10_usual l D ca t ad_M M_guests M_kind M_figure M_told M_heaps M_holds M_back M_mistakes M_hooks M_letters M_rule M_at M_well M_sort M_text M_row M_field M_fields M_begins M_ruleLetters M_coming M_comingMany M_going M_goingMany M_minute M_pile M_high M_where M_latest M_lifts M_begun M_left M_has M_lifted M_taken M_above M_allLifts M_busy M_longest M_onto M_worst M_best M_orders M_together M_ofOne M_ofOther M_seed M_then M_was M_kept M_held M_kindOn M_figureOn M_sorts M_size M_items M_moved M_thrown fuel _ hc_8) ⟨hx, hb, hml, hown, hts⟩ (zcwV hts zm_186 zm_187 zm_188 zm_19 zm_185 rfl rfl zdv_X10_usual ⟨Nat.le_of_ble_eq_true rfl, Nat.le_of_ble_eq_true rfl⟩) hA hK hZ hP hD hS [0, 1, 2, 3, 4, 5, 6, 7, 8, 9, 10, 11, 12, 13, 14, 15, 16, 17, 18, 19, 20, 21, 22, 23, 24, 25, 26, 27, 28, 29, 30, 31, 32, 33] [] [0, 1, 2, 3, 4, 5, 6, 7, 8, 9, 10, 11, 12, 13, 14, 15, 16, 17, 18, 19, 20, 21, 22, 23, 24, 25, 26, 27, 28, 29, 30, 31, 32, 33] rfl rfl rfl rfl rfl rfl rfl 7 0 rfl rfl rfl hl.1 (Nat.le_of_ble_eq_true rfl) dX10_reads_58 rfl (fun H locs hP hD hS => ?_)
          refine lv_iconst (v := 0) hx hb dX10_reads_61 (by decide) ?_
          refine lv_istore_n (lv' := [(3, .int 0), (0, .ref (ad_M 0)), (1, .int p1), (2, .int p2)]) hx hb dX10_reads_62 rfl hl (by decide) rfl (fun ls hl => ?_)
          refine lv_bipush (v := (-4)) hx hb dX10_reads_63 (by decide) ?_
          refine lv_istore (lv' := [(4, .int (-4)), (3, .int 0), (0, .ref (ad_M 0)), (1, .int p1), (2, .int p2)]) hx hb dX10_reads_65 hl (by decide) rfl (fun ls hl => ?_)
          refine lv_iconst (v := 1) hx hb dX10_reads_67 (by decide) ?_
          refine lv_istore (lv' := [(5, .int 1), (4, .int (-4)), (3, .int 0), (0, .ref (ad_M 0)), (1, .int p1), (2, .int p2)]) hx hb dX10_reads_68 hl (by decide) rfl (fun ls hl => ?_)
          exact l70 fuel 0 (-4) 1 o_8.1 o_8.2.1 o_8.2.2.1 o_8.2.2.2.1 o_8.2.2.2.2 M_pile M_high M_where M_latest _ _ hF hP hD hS ls (lv_sub hl [3, 4, 5, 2, 1, 0] rfl)
        · have hF := zf c_7 hF
          refine lv_bipush (v := (-3)) hx hb dX10_reads_54 (by decide) ?_
          obtain rfl := Option.some.inj hF
          exact hret _ _ _ _ hP hD hS rfl dX10_reads_56
      · have hF := zf c_6 hF
        refine lv_aload_n hx hb dX10_reads_28 rfl (lv_at hl 0 rfl) ?_
        refine va_get (D := D) (ci := 7) (v := .ref (ad_M 27)) (C := RX10) (T := TX10) (N := 58) hx hb hts hin10 hown hK hP 0 rfl rfl 50 (by decide) (hts _ zm_292) (fun _ h9 => h9) rfl dX10_reads_29 ?_
        refine lv_iload_n hx hb dX10_reads_32 rfl (lv_at hl 1 rfl) ?_
        refine va_iald hx hb hK hP 27 0 rfl rfl h_5 dX10_reads_33 ?_
        refine lv_if_ne (tgt := 42) hx hb dX10_reads_34 (by decide) (fun c_9 => ?_) (fun c_9 => ?_)
        · have hF := zf c_9 hF
          refine lv_bipush (v := (-12)) hx hb dX10_reads_42 (by decide) ?_
          obtain rfl := Option.some.inj hF
          exact hret _ _ _ _ hP hD hS rfl dX10_reads_44
        · have hF := zt c_9 hF
          refine lv_bipush (v := (-11)) hx hb dX10_reads_37 (by decide) ?_
          refine lv_goto (tgt := 44) hx hb dX10_reads_39 (by decide) ?_
          obtain rfl := Option.some.inj hF
          exact hret _ _ _ _ hP hD hS rfl dX10_reads_44
    · have hF := zt c_4 hF
      refine lv_iconst (v := (-1)) hx hb dX10_reads_16 (by decide) ?_
      obtain rfl := Option.some.inj hF
      exact hret _ _ _ _ hP hD hS rfl dX10_reads_17
