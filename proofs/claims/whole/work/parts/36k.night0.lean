abbrev roX3_sortByGoing : Room := { frames := 0, cells := 0, slots := 0, locals := 0 }
set_option maxHeartbeats 4000000 in
set_option maxRecDepth 100000 in
theorem kX3_sortByGoing (l : Launch) (D : va_G) (ca : Nat → ClassId) (t : Nat → Nat) (ad_n : Nat → Nat) (ad_y : Nat → Nat) (ad_b : Nat → Nat) (ad_r : Nat → Nat) (n_order : Nat → Int32) (n_weights : Nat → Int32) (n_black : Nat → Int32) (n_lifts : Nat → Int32) (n_begins : Nat → Int32) (n_ends : Nat → Int32) (n_has : Nat → Int32) (n_lifted : Nat → Int32) (n_allLifts : Int32) (n_doneAt : Int32) (y_going : Nat → Int32) (y_coming : Nat → Int32) (y_holds : Int32) (y_latest : Int32) (r_guests : Int32) (r_kinds : Nat → Int32) (r_figures : Nat → Int32) (r_minutes : Nat → Int32) (r_settings : Nat → Int32) (r_hooks : Int32) (r_letters : Nat → Int32) (r_letterCount : Int32) (fuel : Nat) (o : (Nat → Int32)) (hF : fX3_sortByGoing fuel n_order y_going r_guests = some o) : zMv l D (zT ca) t yX3_sortByGoing (.code yX3_sortByGoing cX3_sortByGoing 3 none :: zW) roX3_sortByGoing [.ref (ad_n 0)] (wX3_nyr ca ad_n ad_y ad_b ad_r (ad_r 0) n_order n_weights n_black n_lifts n_begins n_ends n_has n_lifted n_allLifts n_doneAt y_going y_coming y_holds y_latest r_guests r_kinds r_figures r_minutes r_settings r_hooks r_letters r_letterCount) (wX3_nyr ca ad_n ad_y ad_b ad_r (ad_r 0) o n_weights n_black n_lifts n_begins n_ends n_has n_lifted n_allLifts n_doneAt y_going y_coming y_holds y_latest r_guests r_kinds r_figures r_minutes r_settings r_hooks r_letters r_letterCount) := by
  refine zMv_of (cc := cX3_sortByGoing) (maxL := 3) (by decide) rfl (Nat.le_of_ble_eq_true rfl) ?_
  intro p e s m args below meth c A Q ls ⟨hx, hb, hml, hown, hts, hA, hK, hZ, hS⟩ hret hP hD hl
  have hts := fun w h => hts w (List.mem_cons_of_mem _ h)
  have hown : s.vm.findClass RX3 = some m.cls := hown
  have hl : lv_has ls 3 [(0, .ref (ad_n 0))] := hl
  have hin3 := zin_X3
  have hin5 := zin_X5
  have l2 : ∀ (n2 : Nat) (v1 : Int32) (n_order : Nat → Int32) (H : Heap) (locs : List Loc), fX3_sortByGoing_L2 fuel y_going r_guests n2 v1 n_order = some o → va_P D vwCl (wX3_nyr ca ad_n ad_y ad_b ad_r (ad_r 0) n_order n_weights n_black n_lifts n_begins n_ends n_has n_lifted n_allLifts n_doneAt y_going y_coming y_holds y_latest r_guests r_kinds r_figures r_minutes r_settings r_hooks r_letters r_letterCount) H → va_D A (wX3_nyr ca ad_n ad_y ad_b ad_r (ad_r 0) n_order n_weights n_black n_lifts n_begins n_ends n_has n_lifted n_allLifts n_doneAt y_going y_coming y_holds y_latest r_guests r_kinds r_figures r_minutes r_settings r_hooks r_letters r_letterCount) → va_S A s.heap H locs → ∀ ls : Array Slot, lv_has ls 3 [(0, .ref (ad_n 0)), (1, .int v1)] → W p l e roX3_sortByGoing s m args below meth c H locs 0 0 Q (F0 m 2 ls []) := by
    intro n2
    induction n2 with
    | zero =>
      intro v1 n_order H locs hF
      rw [fX3_sortByGoing_L2] at hF
      cases hF
    | succ n2 ih2 =>
      have j61 : ∀ (v1 : Int32) (v2 : Int32) (n_order : Nat → Int32) (H : Heap) (locs : List Loc), fX3_sortByGoing_J61 (fX3_sortByGoing_L2 fuel y_going r_guests n2) v1 v2 n_order = some o → va_P D vwCl (wX3_nyr ca ad_n ad_y ad_b ad_r (ad_r 0) n_order n_weights n_black n_lifts n_begins n_ends n_has n_lifted n_allLifts n_doneAt y_going y_coming y_holds y_latest r_guests r_kinds r_figures r_minutes r_settings r_hooks r_letters r_letterCount) H → va_D A (wX3_nyr ca ad_n ad_y ad_b ad_r (ad_r 0) n_order n_weights n_black n_lifts n_begins n_ends n_has n_lifted n_allLifts n_doneAt y_going y_coming y_holds y_latest r_guests r_kinds r_figures r_minutes r_settings r_hooks r_letters r_letterCount) → va_S A s.heap H locs → ∀ ls : Array Slot, lv_has ls 3 [(0, .ref (ad_n 0)), (1, .int v1), (2, .int v2)] → W p l e roX3_sortByGoing s m args below meth c H locs 0 0 Q (F0 m 61 ls []) := by
        intro v1 v2 n_order H locs hF hP hD hS ls hl
        unfold fX3_sortByGoing_J61 at hF
        refine lv_aload_n hx hb dX3_sortByGoing_61 rfl (lv_at hl 0 rfl) ?_
        refine va_get (D := D) (ci := 2) (v := .ref (ad_n 1)) (C := RX3) (T := TX3) (N := 15) hx hb hts hin3 hown hK hP 0 rfl rfl 5 (by decide) (hts _ zm_346) (fun _ h9 => h9) rfl dX3_sortByGoing_62 ?_
        refine lv_iload_n hx hb dX3_sortByGoing_65 rfl (lv_at hl 2 rfl) ?_
        refine lv_iload_n hx hb dX3_sortByGoing_66 rfl (lv_at hl 1 rfl) ?_
        obtain ⟨h_10, hF⟩ := zgi hF
        refine z_iast hx hb hK hP hD hS 1 0 rfl rfl h_10 dX3_sortByGoing_67 (fun g => (wX3_nyr ca ad_n ad_y ad_b ad_r (ad_r 0) g n_weights n_black n_lifts n_begins n_ends n_has n_lifted n_allLifts n_doneAt y_going y_coming y_holds y_latest r_guests r_kinds r_figures r_minutes r_settings r_hooks r_letters r_letterCount)) (fun _ => rfl) hF (fun n_order_11 H locs hF hP hD hS => ?_)
        refine z_iinc (kv := 1) hx hb 1 dX3_sortByGoing_68 hl rfl (by decide) (by decide) (fun g => [(1, .int g), (0, .ref (ad_n 0)), (2, .int v2)]) (fun _ => rfl) hF (fun v1_12 ls hF hl => ?_)
        refine lv_goto (tgt := 2) hx hb dX3_sortByGoing_71 (by decide) ?_
        exact ih2 v1_12 n_order_11 _ _ hF hP hD hS ls (lv_sub hl [1, 0] rfl)
      have l15 : ∀ (n15 : Nat) (v1 : Int32) (v2 : Int32) (n_order : Nat → Int32) (H : Heap) (locs : List Loc), fX3_sortByGoing_L15 y_going (fX3_sortByGoing_L2 fuel y_going r_guests n2) n15 v1 v2 n_order = some o → va_P D vwCl (wX3_nyr ca ad_n ad_y ad_b ad_r (ad_r 0) n_order n_weights n_black n_lifts n_begins n_ends n_has n_lifted n_allLifts n_doneAt y_going y_coming y_holds y_latest r_guests r_kinds r_figures r_minutes r_settings r_hooks r_letters r_letterCount) H → va_D A (wX3_nyr ca ad_n ad_y ad_b ad_r (ad_r 0) n_order n_weights n_black n_lifts n_begins n_ends n_has n_lifted n_allLifts n_doneAt y_going y_coming y_holds y_latest r_guests r_kinds r_figures r_minutes r_settings r_hooks r_letters r_letterCount) → va_S A s.heap H locs → ∀ ls : Array Slot, lv_has ls 3 [(0, .ref (ad_n 0)), (1, .int v1), (2, .int v2)] → W p l e roX3_sortByGoing s m args below meth c H locs 0 0 Q (F0 m 15 ls []) := by
        intro n15
        induction n15 with
        | zero =>
          intro v1 v2 n_order H locs hF
          rw [fX3_sortByGoing_L15] at hF
          cases hF
        | succ n15 ih15 =>
          intro v1 v2 n_order H locs hF hP hD hS ls hl
          rw [fX3_sortByGoing_L15] at hF
          refine lv_iload_n hx hb dX3_sortByGoing_15 rfl (lv_at hl 2 rfl) ?_
          refine lv_if_le (tgt := 61) hx hb dX3_sortByGoing_16 (by decide) (fun c_2 => ?_) (fun c_2 => ?_)
          · have hF := zt c_2 hF
            exact j61 v1 v2 n_order _ _ hF hP hD hS ls (lv_sub hl [0, 1, 2] rfl)
          · have hF := zf c_2 hF
            refine lv_aload_n hx hb dX3_sortByGoing_19 rfl (lv_at hl 0 rfl) ?_
            refine va_get (D := D) (ci := 2) (v := .ref (ad_y 1)) (C := RX3) (T := TX3) (N := 15) hx hb hts hin3 hown hK hP 0 rfl rfl 3 (by decide) (hts _ zm_345) (fun _ h9 => h9) rfl dX3_sortByGoing_20 ?_
            refine lv_aload_n hx hb dX3_sortByGoing_23 rfl (lv_at hl 0 rfl) ?_
            refine va_get (D := D) (ci := 2) (v := .ref (ad_n 1)) (C := RX3) (T := TX3) (N := 15) hx hb hts hin3 hown hK hP 0 rfl rfl 5 (by decide) (hts _ zm_346) (fun _ h9 => h9) rfl dX3_sortByGoing_24 ?_
            refine lv_iload_n hx hb dX3_sortByGoing_27 rfl (lv_at hl 2 rfl) ?_
            refine lv_iconst (v := 1) hx hb dX3_sortByGoing_28 (by decide) ?_
            refine lv_isub hx hb dX3_sortByGoing_29 ?_
            obtain ⟨h_3, hF⟩ := zgi hF
            refine va_iald hx hb hK hP 1 0 rfl rfl h_3 dX3_sortByGoing_30 ?_
            obtain ⟨h_4, hF⟩ := zgi hF
            refine va_iald hx hb hK hP 10 0 rfl rfl h_4 dX3_sortByGoing_31 ?_
            refine lv_aload_n hx hb dX3_sortByGoing_32 rfl (lv_at hl 0 rfl) ?_
            refine va_get (D := D) (ci := 2) (v := .ref (ad_y 1)) (C := RX3) (T := TX3) (N := 15) hx hb hts hin3 hown hK hP 0 rfl rfl 3 (by decide) (hts _ zm_345) (fun _ h9 => h9) rfl dX3_sortByGoing_33 ?_
            refine lv_iload_n hx hb dX3_sortByGoing_36 rfl (lv_at hl 1 rfl) ?_
            obtain ⟨h_5, hF⟩ := zgi hF
            refine va_iald hx hb hK hP 10 0 rfl rfl h_5 dX3_sortByGoing_37 ?_
            refine lv_icmp_le (tgt := 61) hx hb dX3_sortByGoing_38 (by decide) (fun c_6 => ?_) (fun c_6 => ?_)
            · have hF := zt c_6 hF
              exact j61 v1 v2 n_order _ _ hF hP hD hS ls (lv_sub hl [0, 1, 2] rfl)
            · have hF := zf c_6 hF
              refine lv_aload_n hx hb dX3_sortByGoing_41 rfl (lv_at hl 0 rfl) ?_
              refine va_get (D := D) (ci := 2) (v := .ref (ad_n 1)) (C := RX3) (T := TX3) (N := 15) hx hb hts hin3 hown hK hP 0 rfl rfl 5 (by decide) (hts _ zm_346) (fun _ h9 => h9) rfl dX3_sortByGoing_42 ?_
              refine lv_iload_n hx hb dX3_sortByGoing_45 rfl (lv_at hl 2 rfl) ?_
              refine lv_aload_n hx hb dX3_sortByGoing_46 rfl (lv_at hl 0 rfl) ?_
              refine va_get (D := D) (ci := 2) (v := .ref (ad_n 1)) (C := RX3) (T := TX3) (N := 15) hx hb hts hin3 hown hK hP 0 rfl rfl 5 (by decide) (hts _ zm_346) (fun _ h9 => h9) rfl dX3_sortByGoing_47 ?_
              refine lv_iload_n hx hb dX3_sortByGoing_50 rfl (lv_at hl 2 rfl) ?_
              refine lv_iconst (v := 1) hx hb dX3_sortByGoing_51 (by decide) ?_
              refine lv_isub hx hb dX3_sortByGoing_52 ?_
              refine va_iald hx hb hK hP 1 0 rfl rfl h_3 dX3_sortByGoing_53 ?_
              obtain ⟨h_7, hF⟩ := zgi hF
              refine z_iast hx hb hK hP hD hS 1 0 rfl rfl h_7 dX3_sortByGoing_54 (fun g => (wX3_nyr ca ad_n ad_y ad_b ad_r (ad_r 0) g n_weights n_black n_lifts n_begins n_ends n_has n_lifted n_allLifts n_doneAt y_going y_coming y_holds y_latest r_guests r_kinds r_figures r_minutes r_settings r_hooks r_letters r_letterCount)) (fun _ => rfl) hF (fun n_order_8 H locs hF hP hD hS => ?_)
              refine z_iinc (kv := (-1)) hx hb 2 dX3_sortByGoing_55 hl rfl (by decide) (by decide) (fun g => [(2, .int g), (0, .ref (ad_n 0)), (1, .int v1)]) (fun _ => rfl) hF (fun v2_9 ls hF hl => ?_)
              refine lv_goto (tgt := 15) hx hb dX3_sortByGoing_58 (by decide) ?_
              exact ih15 v1 v2_9 n_order_8 _ _ hF hP hD hS ls (lv_sub hl [1, 2, 0] rfl)
      intro v1 n_order H locs hF hP hD hS ls hl
      rw [fX3_sortByGoing_L2] at hF
      refine lv_iload_n hx hb dX3_sortByGoing_2 rfl (lv_at hl 1 rfl) ?_
      refine lv_aload_n hx hb dX3_sortByGoing_3 rfl (lv_at hl 0 rfl) ?_
      refine va_get (D := D) (ci := 2) (v := .ref (ad_r 0)) (C := RX3) (T := TX3) (N := 15) hx hb hts hin3 hown hK hP 0 rfl rfl 0 (by decide) (hts _ zm_343) (fun _ h9 => h9) rfl dX3_sortByGoing_4 ?_
      refine va_get (D := D) (ci := 3) (v := .int r_guests) (C := RX5) (T := TX5) (N := 8) hx hb hts hin5 hown hK hP 12 rfl rfl 0 (by decide) (hts _ zm_344) (fun _ h9 => h9) rfl dX3_sortByGoing_7 ?_
      refine lv_icmp_ge (tgt := 74) hx hb dX3_sortByGoing_10 (by decide) (fun c_1 => ?_) (fun c_1 => ?_)
      · have hF := zt c_1 hF
        obtain rfl := Option.some.inj hF
        exact hret _ _ _ _ hP hD hS dX3_sortByGoing_74
      · have hF := zf c_1 hF
        refine lv_iload_n hx hb dX3_sortByGoing_13 rfl (lv_at hl 1 rfl) ?_
        refine lv_istore_n (lv' := [(2, .int v1), (0, .ref (ad_n 0)), (1, .int v1)]) hx hb dX3_sortByGoing_14 rfl hl (by decide) rfl (fun ls hl => ?_)
        exact l15 fuel v1 v1 n_order _ _ hF hP hD hS ls (lv_sub hl [1, 2, 0] rfl)
  unfold fX3_sortByGoing at hF
  refine lv_iconst (v := 0) hx hb dX3_sortByGoing_0 (by decide) ?_
  refine lv_istore_n (lv' := [(1, .int 0), (0, .ref (ad_n 0))]) hx hb dX3_sortByGoing_1 rfl hl (by decide) rfl (fun ls hl => ?_)
  exact l2 fuel 0 n_order _ _ hF hP hD hS ls (lv_sub hl [1, 0] rfl)
abbrev roX3_layAs : Room := { frames := 2, cells := 0, slots := 0, locals := 46 }
set_option maxHeartbeats 4000000 in
set_option maxRecDepth 100000 in
theorem kX3_layAs (l : Launch) (D : va_G) (ca : Nat → ClassId) (t : Nat → Nat) (ad_n : Nat → Nat) (ad_y : Nat → Nat) (ad_b : Nat → Nat) (ad_a : Nat) (ad_r : Nat → Nat) (n_order : Nat → Int32) (n_weights : Nat → Int32) (n_black : Nat → Int32) (n_lifts : Nat → Int32) (n_begins : Nat → Int32) (n_ends : Nat → Int32) (n_has : Nat → Int32) (n_lifted : Nat → Int32) (n_allLifts : Int32) (n_doneAt : Int32) (b_heaps : Int32) (b_piles : Nat → Nat → Int32) (b_heights : Nat → Int32) (b_spots : Nat → Int32) (a_row : Nat → Int32) (r_guests : Int32) (r_kinds : Nat → Int32) (r_figures : Nat → Int32) (r_minutes : Nat → Int32) (r_settings : Nat → Int32) (r_hooks : Int32) (r_letters : Nat → Int32) (r_letterCount : Int32) (fuel : Nat) (o : Int32 × (Nat → Nat → Int32) × (Nat → Int32) × (Nat → Int32)) (hF : fX3_layAs fuel b_heaps b_piles b_heights b_spots a_row r_guests r_settings = some o) : zMv l D (zT ca) t yX3_layAs (.code yX3_layAs cX3_layAs 3 none :: zW) roX3_layAs [.ref (ad_n 0), .ref ad_a] (wX3_nbar ca ad_n ad_y ad_b ad_a ad_r (ad_r 0) n_order n_weights n_black n_lifts n_begins n_ends n_has n_lifted n_allLifts n_doneAt b_heaps b_piles b_heights b_spots a_row r_guests r_kinds r_figures r_minutes r_settings r_hooks r_letters r_letterCount) (wX3_nbar ca ad_n ad_y ad_b ad_a ad_r (ad_r 0) n_order n_weights n_black n_lifts n_begins n_ends n_has n_lifted n_allLifts n_doneAt o.1 o.2.1 o.2.2.1 o.2.2.2 a_row r_guests r_kinds r_figures r_minutes r_settings r_hooks r_letters r_letterCount) := by
  refine zMv_of (cc := cX3_layAs) (maxL := 3) (by decide) rfl (Nat.le_of_ble_eq_true rfl) ?_
  intro p e s m args below meth c A Q ls ⟨hx, hb, hml, hown, hts, hA, hK, hZ, hS⟩ hret hP hD hl
  have hts := fun w h => hts w (List.mem_cons_of_mem _ h)
  have hown : s.vm.findClass RX3 = some m.cls := hown
  have hl : lv_has ls 3 [(0, .ref (ad_n 0)), (1, .ref ad_a)] := hl
  have hin0 := zin_X0
  have hin3 := zin_X3
  have hin5 := zin_X5
  have l18 : ∀ (n18 : Nat) (v2 : Int32) (b_heaps : Int32) (b_piles : Nat → Nat → Int32) (b_heights : Nat → Int32) (b_spots : Nat → Int32) (H : Heap) (locs : List Loc), fX3_layAs_L18 fuel a_row r_guests n18 v2 b_heaps b_piles b_heights b_spots = some o → va_P D vwCl (wX3_nbar ca ad_n ad_y ad_b ad_a ad_r (ad_r 0) n_order n_weights n_black n_lifts n_begins n_ends n_has n_lifted n_allLifts n_doneAt b_heaps b_piles b_heights b_spots a_row r_guests r_kinds r_figures r_minutes r_settings r_hooks r_letters r_letterCount) H → va_D A (wX3_nbar ca ad_n ad_y ad_b ad_a ad_r (ad_r 0) n_order n_weights n_black n_lifts n_begins n_ends n_has n_lifted n_allLifts n_doneAt b_heaps b_piles b_heights b_spots a_row r_guests r_kinds r_figures r_minutes r_settings r_hooks r_letters r_letterCount) → va_S A s.heap H locs → ∀ ls : Array Slot, lv_has ls 3 [(0, .ref (ad_n 0)), (1, .ref ad_a), (2, .int v2)] → W p l e roX3_layAs s m args below meth c H locs 0 0 Q (F0 m 18 ls []) := by
    intro n18
    induction n18 with
    | zero =>
      intro v2 b_heaps b_piles b_heights b_spots H locs hF
      rw [fX3_layAs_L18] at hF
      cases hF
    | succ n18 ih18 =>
      have j63 : ∀ (v2 : Int32) (b_heaps : Int32) (b_piles : Nat → Nat → Int32) (b_heights : Nat → Int32) (b_spots : Nat → Int32) (H : Heap) (locs : List Loc), fX3_layAs_J63 (fX3_layAs_L18 fuel a_row r_guests n18) v2 b_heaps b_piles b_heights b_spots = some o → va_P D vwCl (wX3_nbar ca ad_n ad_y ad_b ad_a ad_r (ad_r 0) n_order n_weights n_black n_lifts n_begins n_ends n_has n_lifted n_allLifts n_doneAt b_heaps b_piles b_heights b_spots a_row r_guests r_kinds r_figures r_minutes r_settings r_hooks r_letters r_letterCount) H → va_D A (wX3_nbar ca ad_n ad_y ad_b ad_a ad_r (ad_r 0) n_order n_weights n_black n_lifts n_begins n_ends n_has n_lifted n_allLifts n_doneAt b_heaps b_piles b_heights b_spots a_row r_guests r_kinds r_figures r_minutes r_settings r_hooks r_letters r_letterCount) → va_S A s.heap H locs → ∀ ls : Array Slot, lv_has ls 3 [(0, .ref (ad_n 0)), (1, .ref ad_a), (2, .int v2)] → W p l e roX3_layAs s m args below meth c H locs 0 0 Q (F0 m 63 ls []) := by
        intro v2 b_heaps b_piles b_heights b_spots H locs hF hP hD hS ls hl
        unfold fX3_layAs_J63 at hF
        refine z_iinc (kv := 1) hx hb 2 dX3_layAs_63 hl rfl (by decide) (by decide) (fun g => [(2, .int g), (0, .ref (ad_n 0)), (1, .ref ad_a)]) (fun _ => rfl) hF (fun v2_8 ls hF hl => ?_)
        refine lv_goto (tgt := 18) hx hb dX3_layAs_66 (by decide) ?_
        exact ih18 v2_8 b_heaps b_piles b_heights b_spots _ _ hF hP hD hS ls (lv_sub hl [1, 2, 0] rfl)
      intro v2 b_heaps b_piles b_heights b_spots H locs hF hP hD hS ls hl
      rw [fX3_layAs_L18] at hF
      refine lv_iload_n hx hb dX3_layAs_18 rfl (lv_at hl 2 rfl) ?_
      refine lv_aload_n hx hb dX3_layAs_19 rfl (lv_at hl 0 rfl) ?_
      refine va_get (D := D) (ci := 2) (v := .ref (ad_r 0)) (C := RX3) (T := TX3) (N := 15) hx hb hts hin3 hown hK hP 0 rfl rfl 0 (by decide) (hts _ zm_343) (fun _ h9 => h9) rfl dX3_layAs_20 ?_
      refine va_get (D := D) (ci := 3) (v := .int r_guests) (C := RX5) (T := TX5) (N := 8) hx hb hts hin5 hown hK hP 17 rfl rfl 0 (by decide) (hts _ zm_344) (fun _ h9 => h9) rfl dX3_layAs_23 ?_
      refine lv_icmp_ge (tgt := 69) hx hb dX3_layAs_26 (by decide) (fun c_2 => ?_) (fun c_2 => ?_)
      · have hF := zt c_2 hF
        obtain rfl := Option.some.inj hF
        exact hret _ _ _ _ hP hD hS dX3_layAs_69
      · have hF := zf c_2 hF
        refine lv_aload_n hx hb dX3_layAs_29 rfl (lv_at hl 1 rfl) ?_
        refine lv_iload_n hx hb dX3_layAs_30 rfl (lv_at hl 2 rfl) ?_
        obtain ⟨h_3, hF⟩ := zgi hF
        refine va_iald hx hb hK hP 16 0 rfl rfl h_3 dX3_layAs_31 ?_
        obtain ⟨o_4, hc_4, hF⟩ := zb hF
        refine zcNR (rest := []) (kX9_isHeap l D ca t (a_row v2.toNatClampNeg) fuel _ hc_4) ⟨hx, hb, hml, hown, hts⟩ ⟨va_cnB 1 hts (zG0 zm_307) rfl rfl rfl hZ.1.2.2.1 (hts _ zm_7) zds_X9_isHeap ⟨Nat.le_of_ble_eq_true rfl, Nat.le_of_ble_eq_true rfl⟩, hts _ zm_308, trivial⟩ hA hK hZ hP hD hS [] rfl rfl rfl hl.1 (Nat.le_of_ble_eq_true rfl) dX3_layAs_32 rfl ?_
        refine lv_if_eq (tgt := 52) hx hb dX3_layAs_35 (by decide) (fun c_5 => ?_) (fun c_5 => ?_)
        · have hF := zt c_5 hF
          refine lv_aload_n hx hb dX3_layAs_52 rfl (lv_at hl 0 rfl) ?_
          refine va_get (D := D) (ci := 2) (v := .ref (ad_b 0)) (C := RX3) (T := TX3) (N := 15) hx hb hts hin3 hown hK hP 0 rfl rfl 2 (by decide) (hts _ zm_347) (fun _ h9 => h9) rfl dX3_layAs_53 ?_
          refine va_get (D := D) (ci := 0) (v := .ref (ad_b 6)) (C := RX0) (T := TX0) (N := 4) hx hb hts hin0 hown hK hP 9 rfl rfl 3 (by decide) (hts _ zm_353) (fun _ h9 => h9) rfl dX3_layAs_56 ?_
          refine lv_iload_n hx hb dX3_layAs_59 rfl (lv_at hl 2 rfl) ?_
          refine lv_bipush (v := 9) hx hb dX3_layAs_60 (by decide) ?_
          refine z_iast hx hb hK hP hD hS 15 0 rfl rfl h_3 dX3_layAs_62 (fun g => (wX3_nbar ca ad_n ad_y ad_b ad_a ad_r (ad_r 0) n_order n_weights n_black n_lifts n_begins n_ends n_has n_lifted n_allLifts n_doneAt b_heaps b_piles b_heights g a_row r_guests r_kinds r_figures r_minutes r_settings r_hooks r_letters r_letterCount)) (fun _ => rfl) hF (fun b_spots_6 H locs hF hP hD hS => ?_)
          exact j63 v2 b_heaps b_piles b_heights b_spots_6 _ _ hF hP hD hS ls (lv_sub hl [0, 1, 2] rfl)
        · have hF := zf c_5 hF
          refine lv_aload_n hx hb dX3_layAs_38 rfl (lv_at hl 0 rfl) ?_
          refine va_get (D := D) (ci := 2) (v := .ref (ad_b 0)) (C := RX3) (T := TX3) (N := 15) hx hb hts hin3 hown hK hP 0 rfl rfl 2 (by decide) (hts _ zm_347) (fun _ h9 => h9) rfl dX3_layAs_39 ?_
          refine lv_aload_n hx hb dX3_layAs_42 rfl (lv_at hl 1 rfl) ?_
          refine lv_iload_n hx hb dX3_layAs_43 rfl (lv_at hl 2 rfl) ?_
          refine va_iald hx hb hK hP 16 0 rfl rfl h_3 dX3_layAs_44 ?_
          refine lv_iload_n hx hb dX3_layAs_45 rfl (lv_at hl 2 rfl) ?_
          obtain ⟨o_7, hc_7, hF⟩ := zb hF
          refine zcVv (rest := []) (ws' := (wX3_nbar ca ad_n ad_y ad_b ad_a ad_r (ad_r 0) n_order n_weights n_black n_lifts n_begins n_ends n_has n_lifted n_allLifts n_doneAt b_heaps o_7.1 o_7.2.1 o_7.2.2 a_row r_guests r_kinds r_figures r_minutes r_settings r_hooks r_letters r_letterCount)) (kX0_lay l D ca t ad_b b_heaps b_piles b_heights b_spots (a_row v2.toNatClampNeg) v2 fuel _ hc_7) ⟨hx, hb, hml, hown, hts⟩ (zcwV hts zm_354 zm_317 zm_318 zm_314 zm_315 rfl rfl zdv_X0_lay ⟨Nat.le_of_ble_eq_true rfl, Nat.le_of_ble_eq_true rfl⟩) hA hK hZ hP hD hS [9, 10, 11, 12, 13, 14, 15] [0, 1, 2, 3, 4, 5, 6, 7, 8, 16, 17, 18, 19, 20, 21, 22] [0, 1, 2, 3, 4, 5, 6, 7, 8, 16, 17, 18, 19, 20, 21, 22, 9, 10, 11, 12, 13, 14, 15] rfl rfl rfl rfl rfl rfl rfl 0 9 rfl rfl rfl hl.1 (Nat.le_of_ble_eq_true rfl) dX3_layAs_46 rfl (fun H locs hP hD hS => ?_)
          refine lv_goto (tgt := 63) hx hb dX3_layAs_49 (by decide) ?_
          exact j63 v2 b_heaps o_7.1 o_7.2.1 o_7.2.2 _ _ hF hP hD hS ls (lv_sub hl [0, 1, 2] rfl)
  unfold fX3_layAs at hF
  refine lv_aload_n hx hb dX3_layAs_0 rfl (lv_at hl 0 rfl) ?_
  refine va_get (D := D) (ci := 2) (v := .ref (ad_b 0)) (C := RX3) (T := TX3) (N := 15) hx hb hts hin3 hown hK hP 0 rfl rfl 2 (by decide) (hts _ zm_347) (fun _ h9 => h9) rfl dX3_layAs_1 ?_
  refine lv_aload_n hx hb dX3_layAs_4 rfl (lv_at hl 0 rfl) ?_
  refine va_get (D := D) (ci := 2) (v := .ref (ad_r 0)) (C := RX3) (T := TX3) (N := 15) hx hb hts hin3 hown hK hP 0 rfl rfl 0 (by decide) (hts _ zm_343) (fun _ h9 => h9) rfl dX3_layAs_5 ?_
  refine va_get (D := D) (ci := 3) (v := .ref (ad_r 4)) (C := RX5) (T := TX5) (N := 8) hx hb hts hin5 hown hK hP 17 rfl rfl 4 (by decide) (hts _ zm_348) (fun _ h9 => h9) rfl dX3_layAs_8 ?_
  refine lv_iconst (v := 0) hx hb dX3_layAs_11 (by decide) ?_
  refine z_ialdK 0 hx hb hK hP 21 0 rfl rfl (zin_ok (by decide)) (by decide) dX3_layAs_12 ?_
  obtain ⟨o_1, hc_1, hF⟩ := zb hF
  refine zcVv (rest := []) (ws' := (wX3_nbar ca ad_n ad_y ad_b ad_a ad_r (ad_r 0) n_order n_weights n_black n_lifts n_begins n_ends n_has n_lifted n_allLifts n_doneAt o_1.1 b_piles o_1.2.1 o_1.2.2 a_row r_guests r_kinds r_figures r_minutes r_settings r_hooks r_letters r_letterCount)) (kX0_clear l D ca t ad_b b_heaps b_piles b_heights b_spots (r_settings 0) fuel _ hc_1) ⟨hx, hb, hml, hown, hts⟩ (zcwV hts zm_350 zm_351 zm_352 zm_314 zm_349 rfl rfl zdv_X0_clear ⟨Nat.le_of_ble_eq_true rfl, Nat.le_of_ble_eq_true rfl⟩) hA hK hZ hP hD hS [9, 10, 11, 12, 13, 14, 15] [0, 1, 2, 3, 4, 5, 6, 7, 8, 16, 17, 18, 19, 20, 21, 22] [0, 1, 2, 3, 4, 5, 6, 7, 8, 16, 17, 18, 19, 20, 21, 22, 9, 10, 11, 12, 13, 14, 15] rfl rfl rfl rfl rfl rfl rfl 0 9 rfl rfl rfl hl.1 (Nat.le_of_ble_eq_true rfl) dX3_layAs_13 rfl (fun H locs hP hD hS => ?_)
  refine lv_iconst (v := 0) hx hb dX3_layAs_16 (by decide) ?_
  refine lv_istore_n (lv' := [(2, .int 0), (0, .ref (ad_n 0)), (1, .ref ad_a)]) hx hb dX3_layAs_17 rfl hl (by decide) rfl (fun ls hl => ?_)
  exact l18 fuel 0 o_1.1 b_piles o_1.2.1 o_1.2.2 _ _ hF hP hD hS ls (lv_sub hl [1, 2, 0] rfl)
theorem zdv_X0_turnFrom : yX0_turnFrom.cls = RX0 ∧ yX0_turnFrom.cls ≠ "java/lang/invoke/MethodHandle" ∧ yX0_turnFrom.cls ≠ "java/lang/invoke/VarHandle" ∧ (parseMethodDescriptor yX0_turnFrom.desc).map (fun d => d.parameters.length) = some 2 := by decide +kernel
abbrev roX3_turnAll : Room := { frames := 1, cells := 0, slots := 0, locals := 25 }
set_option maxHeartbeats 4000000 in
set_option maxRecDepth 100000 in
theorem kX3_turnAll (l : Launch) (D : va_G) (ca : Nat → ClassId) (t : Nat → Nat) (ad_n : Nat → Nat) (ad_y : Nat → Nat) (ad_b : Nat → Nat) (n_room : Nat) (n_order : Nat → Int32) (n_weights : Nat → Int32) (n_black : Nat → Int32) (n_lifts : Nat → Int32) (n_begins : Nat → Int32) (n_ends : Nat → Int32) (n_has : Nat → Int32) (n_lifted : Nat → Int32) (n_allLifts : Int32) (n_doneAt : Int32) (b_heaps : Int32) (b_piles : Nat → Nat → Int32) (b_heights : Nat → Int32) (b_spots : Nat → Int32) (fuel : Nat) (o : Int32 × (Nat → Nat → Int32)) (hF : fX3_turnAll fuel n_weights n_allLifts b_heaps b_piles b_heights = some o) : zMv l D (zT ca) t yX3_turnAll (.code yX3_turnAll cX3_turnAll 3 none :: zW) roX3_turnAll [.ref (ad_n 0)] (wX3_nb ca ad_n ad_y ad_b n_room n_order n_weights n_black n_lifts n_begins n_ends n_has n_lifted n_allLifts n_doneAt b_heaps b_piles b_heights b_spots) (wX3_nb ca ad_n ad_y ad_b n_room n_order n_weights n_black n_lifts n_begins n_ends n_has n_lifted o.1 n_doneAt b_heaps o.2 b_heights b_spots) := by
  refine zMv_of (cc := cX3_turnAll) (maxL := 3) (by decide) rfl (Nat.le_of_ble_eq_true rfl) ?_
  intro p e s m args below meth c A Q ls ⟨hx, hb, hml, hown, hts, hA, hK, hZ, hS⟩ hret hP hD hl
  have hts := fun w h => hts w (List.mem_cons_of_mem _ h)
  have hown : s.vm.findClass RX3 = some m.cls := hown
  have hl : lv_has ls 3 [(0, .ref (ad_n 0))] := hl
  have hin0 := zin_X0
  have hin3 := zin_X3
  have l2 : ∀ (n2 : Nat) (v1 : Int32) (n_allLifts : Int32) (b_piles : Nat → Nat → Int32) (H : Heap) (locs : List Loc), fX3_turnAll_L2 fuel n_weights b_heaps b_heights n2 v1 n_allLifts b_piles = some o → va_P D vwCl (wX3_nb ca ad_n ad_y ad_b n_room n_order n_weights n_black n_lifts n_begins n_ends n_has n_lifted n_allLifts n_doneAt b_heaps b_piles b_heights b_spots) H → va_D A (wX3_nb ca ad_n ad_y ad_b n_room n_order n_weights n_black n_lifts n_begins n_ends n_has n_lifted n_allLifts n_doneAt b_heaps b_piles b_heights b_spots) → va_S A s.heap H locs → ∀ ls : Array Slot, lv_has ls 3 [(0, .ref (ad_n 0)), (1, .int v1)] → W p l e roX3_turnAll s m args below meth c H locs 0 0 Q (F0 m 2 ls []) := by
    intro n2
    induction n2 with
    | zero =>
      intro v1 n_allLifts b_piles H locs hF
      rw [fX3_turnAll_L2] at hF
      cases hF
    | succ n2 ih2 =>
      have j68 : ∀ (v1 : Int32) (n_allLifts : Int32) (b_piles : Nat → Nat → Int32) (H : Heap) (locs : List Loc), fX3_turnAll_J68 (fX3_turnAll_L2 fuel n_weights b_heaps b_heights n2) v1 n_allLifts b_piles = some o → va_P D vwCl (wX3_nb ca ad_n ad_y ad_b n_room n_order n_weights n_black n_lifts n_begins n_ends n_has n_lifted n_allLifts n_doneAt b_heaps b_piles b_heights b_spots) H → va_D A (wX3_nb ca ad_n ad_y ad_b n_room n_order n_weights n_black n_lifts n_begins n_ends n_has n_lifted n_allLifts n_doneAt b_heaps b_piles b_heights b_spots) → va_S A s.heap H locs → ∀ ls : Array Slot, lv_has ls 3 [(0, .ref (ad_n 0)), (1, .int v1)] → W p l e roX3_turnAll s m args below meth c H locs 0 0 Q (F0 m 68 ls []) := by
        intro v1 n_allLifts b_piles H locs hF hP hD hS ls hl
        unfold fX3_turnAll_J68 at hF
        refine z_iinc (kv := 1) hx hb 1 dX3_turnAll_68 hl rfl (by decide) (by decide) (fun g => [(1, .int g), (0, .ref (ad_n 0))]) (fun _ => rfl) hF (fun v1_9 ls hF hl => ?_)
        refine lv_goto (tgt := 2) hx hb dX3_turnAll_71 (by decide) ?_
        exact ih2 v1_9 n_allLifts b_piles _ _ hF hP hD hS ls (lv_sub hl [1, 0] rfl)
      have l24 : ∀ (n24 : Nat) (v1 : Int32) (v2 : Int32) (n_allLifts : Int32) (b_piles : Nat → Nat → Int32) (H : Heap) (locs : List Loc), fX3_turnAll_L24 n_weights b_heights (fX3_turnAll_L2 fuel n_weights b_heaps b_heights n2) n24 v1 v2 n_allLifts b_piles = some o → va_P D vwCl (wX3_nb ca ad_n ad_y ad_b n_room n_order n_weights n_black n_lifts n_begins n_ends n_has n_lifted n_allLifts n_doneAt b_heaps b_piles b_heights b_spots) H → va_D A (wX3_nb ca ad_n ad_y ad_b n_room n_order n_weights n_black n_lifts n_begins n_ends n_has n_lifted n_allLifts n_doneAt b_heaps b_piles b_heights b_spots) → va_S A s.heap H locs → ∀ ls : Array Slot, lv_has ls 3 [(0, .ref (ad_n 0)), (1, .int v1), (2, .int v2)] → W p l e roX3_turnAll s m args below meth c H locs 0 0 Q (F0 m 24 ls []) := by
        intro n24
        induction n24 with
        | zero =>
          intro v1 v2 n_allLifts b_piles H locs hF
          rw [fX3_turnAll_L24] at hF
          cases hF
        | succ n24 ih24 =>
          intro v1 v2 n_allLifts b_piles H locs hF hP hD hS ls hl
          rw [fX3_turnAll_L24] at hF
          refine lv_iload_n hx hb dX3_turnAll_24 rfl (lv_at hl 2 rfl) ?_
          refine lv_aload_n hx hb dX3_turnAll_25 rfl (lv_at hl 0 rfl) ?_
          refine va_get (D := D) (ci := 2) (v := .ref (ad_b 0)) (C := RX3) (T := TX3) (N := 15) hx hb hts hin3 hown hK hP 0 rfl rfl 2 (by decide) (hts _ zm_347) (fun _ h9 => h9) rfl dX3_turnAll_26 ?_
          refine va_get (D := D) (ci := 0) (v := .ref (ad_b 5)) (C := RX0) (T := TX0) (N := 4) hx hb hts hin0 hown hK hP 9 rfl rfl 2 (by decide) (hts _ zm_360) (fun _ h9 => h9) rfl dX3_turnAll_29 ?_
          refine lv_iload_n hx hb dX3_turnAll_32 rfl (lv_at hl 1 rfl) ?_
          obtain ⟨h_3, hF⟩ := zgi hF
          refine va_iald hx hb hK hP 14 0 rfl rfl h_3 dX3_turnAll_33 ?_
          refine lv_icmp_ge (tgt := 68) hx hb dX3_turnAll_34 (by decide) (fun c_4 => ?_) (fun c_4 => ?_)
          · have hF := zt c_4 hF
            exact j68 v1 n_allLifts b_piles _ _ hF hP hD hS ls (lv_sub hl [0, 1] rfl)
          · have hF := zf c_4 hF
            refine lv_aload_n hx hb dX3_turnAll_37 rfl (lv_at hl 0 rfl) ?_
            refine lv_dup hx hb dX3_turnAll_38 rfl ?_
            refine va_get (D := D) (ci := 2) (v := .int n_allLifts) (C := RX3) (T := TX3) (N := 15) hx hb hts hin3 hown hK hP 0 rfl rfl 13 (by decide) (hts _ zm_361) (fun _ h9 => h9) rfl dX3_turnAll_39 ?_
            refine lv_aload_n hx hb dX3_turnAll_42 rfl (lv_at hl 0 rfl) ?_
            refine va_get (D := D) (ci := 2) (v := .ref (ad_n 2)) (C := RX3) (T := TX3) (N := 15) hx hb hts hin3 hown hK hP 0 rfl rfl 6 (by decide) (hts _ zm_362) (fun _ h9 => h9) rfl dX3_turnAll_43 ?_
            refine lv_aload_n hx hb dX3_turnAll_46 rfl (lv_at hl 0 rfl) ?_
            refine va_get (D := D) (ci := 2) (v := .ref (ad_b 0)) (C := RX3) (T := TX3) (N := 15) hx hb hts hin3 hown hK hP 0 rfl rfl 2 (by decide) (hts _ zm_347) (fun _ h9 => h9) rfl dX3_turnAll_47 ?_
            refine va_get (D := D) (ci := 0) (v := .ref (ad_b 1)) (C := RX0) (T := TX0) (N := 4) hx hb hts hin0 hown hK hP 9 rfl rfl 1 (by decide) (hts _ zm_363) (fun _ h9 => h9) rfl dX3_turnAll_50 ?_
            refine lv_iload_n hx hb dX3_turnAll_53 rfl (lv_at hl 1 rfl) ?_
            refine z_aald hx hb hK hP 10 4 rfl rfl rfl h_3 dX3_turnAll_54 ?_
            refine lv_iload_n hx hb dX3_turnAll_55 rfl (lv_at hl 2 rfl) ?_
            obtain ⟨h_5, hF⟩ := zgi hF
            refine z_rald hx hb hK hP 11 0 rfl rfl rfl rfl (zin_lt h_3) h_5 dX3_turnAll_56 ?_
            obtain ⟨h_6, hF⟩ := zgi hF
            refine va_iald hx hb hK hP 2 0 rfl rfl h_6 dX3_turnAll_57 ?_
            refine lv_iadd hx hb dX3_turnAll_58 ?_
            refine z_let hF (fun x_7 hF => ?_)
            refine va_put (D := D) (ci := 2) (v := .int x_7) (C := RX3) (T := TX3) (N := 15) hx hb hts hin3 tyX3 tyX3_ok nmX3 hown hK hP hD hS 0 rfl rfl 13 (by decide) (hts _ zm_361) (fun _ h9 => h9) rfl (tyX3_ok 13 (by decide)) rfl rfl (Nat.le_of_ble_eq_true rfl) dX3_turnAll_59 (fun H locs hP hD hS => ?_)
            have hP : va_P D vwCl (wX3_nb ca ad_n ad_y ad_b n_room n_order n_weights n_black n_lifts n_begins n_ends n_has n_lifted x_7 n_doneAt b_heaps b_piles b_heights b_spots) H := hP
            have hD : va_D A (wX3_nb ca ad_n ad_y ad_b n_room n_order n_weights n_black n_lifts n_begins n_ends n_has n_lifted x_7 n_doneAt b_heaps b_piles b_heights b_spots) := hD
            refine z_iinc (kv := 1) hx hb 2 dX3_turnAll_62 hl rfl (by decide) (by decide) (fun g => [(2, .int g), (0, .ref (ad_n 0)), (1, .int v1)]) (fun _ => rfl) hF (fun v2_8 ls hF hl => ?_)
            refine lv_goto (tgt := 24) hx hb dX3_turnAll_65 (by decide) ?_
            exact ih24 v1 v2_8 x_7 b_piles _ _ hF hP hD hS ls (lv_sub hl [1, 2, 0] rfl)
      intro v1 n_allLifts b_piles H locs hF hP hD hS ls hl
      rw [fX3_turnAll_L2] at hF
      refine lv_iload_n hx hb dX3_turnAll_2 rfl (lv_at hl 1 rfl) ?_
      refine lv_aload_n hx hb dX3_turnAll_3 rfl (lv_at hl 0 rfl) ?_
      refine va_get (D := D) (ci := 2) (v := .ref (ad_b 0)) (C := RX3) (T := TX3) (N := 15) hx hb hts hin3 hown hK hP 0 rfl rfl 2 (by decide) (hts _ zm_347) (fun _ h9 => h9) rfl dX3_turnAll_4 ?_
      refine va_get (D := D) (ci := 0) (v := .int b_heaps) (C := RX0) (T := TX0) (N := 4) hx hb hts hin0 hown hK hP 9 rfl rfl 0 (by decide) (hts _ zm_355) (fun _ h9 => h9) rfl dX3_turnAll_7 ?_
      refine lv_icmp_ge (tgt := 74) hx hb dX3_turnAll_10 (by decide) (fun c_1 => ?_) (fun c_1 => ?_)
      · have hF := zt c_1 hF
        obtain rfl := Option.some.inj hF
        exact hret _ _ _ _ hP hD hS dX3_turnAll_74
      · have hF := zf c_1 hF
        refine lv_aload_n hx hb dX3_turnAll_13 rfl (lv_at hl 0 rfl) ?_
        refine va_get (D := D) (ci := 2) (v := .ref (ad_b 0)) (C := RX3) (T := TX3) (N := 15) hx hb hts hin3 hown hK hP 0 rfl rfl 2 (by decide) (hts _ zm_347) (fun _ h9 => h9) rfl dX3_turnAll_14 ?_
        refine lv_iload_n hx hb dX3_turnAll_17 rfl (lv_at hl 1 rfl) ?_
        refine lv_iconst (v := 0) hx hb dX3_turnAll_18 (by decide) ?_
        obtain ⟨o_2, hc_2, hF⟩ := zb hF
        refine zcVv (rest := []) (ws' := (wX3_nb ca ad_n ad_y ad_b n_room n_order n_weights n_black n_lifts n_begins n_ends n_has n_lifted n_allLifts n_doneAt b_heaps o_2 b_heights b_spots)) (kX0_turnFrom l D ca t ad_b b_heaps b_piles b_heights b_spots v1 0 fuel _ hc_2) ⟨hx, hb, hml, hown, hts⟩ (zcwV hts zm_357 zm_358 zm_359 zm_314 zm_356 rfl rfl zdv_X0_turnFrom ⟨Nat.le_of_ble_eq_true rfl, Nat.le_of_ble_eq_true rfl⟩) hA hK hZ hP hD hS [9, 10, 11, 12, 13, 14, 15] [0, 1, 2, 3, 4, 5, 6, 7, 8] [0, 1, 2, 3, 4, 5, 6, 7, 8, 9, 10, 11, 12, 13, 14, 15] rfl rfl rfl rfl rfl rfl rfl 0 9 rfl rfl rfl hl.1 (Nat.le_of_ble_eq_true rfl) dX3_turnAll_19 rfl (fun H locs hP hD hS => ?_)
        refine lv_iconst (v := 0) hx hb dX3_turnAll_22 (by decide) ?_
        refine lv_istore_n (lv' := [(2, .int 0), (0, .ref (ad_n 0)), (1, .int v1)]) hx hb dX3_turnAll_23 rfl hl (by decide) rfl (fun ls hl => ?_)
        exact l24 fuel v1 0 n_allLifts o_2 _ _ hF hP hD hS ls (lv_sub hl [1, 2, 0] rfl)
  unfold fX3_turnAll at hF
  refine lv_iconst (v := 0) hx hb dX3_turnAll_0 (by decide) ?_
  refine lv_istore_n (lv' := [(1, .int 0), (0, .ref (ad_n 0))]) hx hb dX3_turnAll_1 rfl hl (by decide) rfl (fun ls hl => ?_)
  exact l2 fuel 0 n_allLifts b_piles _ _ hF hP hD hS ls (lv_sub hl [1, 0] rfl)
abbrev roX3_heapWithBlack : Room := { frames := 0, cells := 0, slots := 0, locals := 0 }
set_option maxHeartbeats 4000000 in
set_option maxRecDepth 100000 in
theorem kX3_heapWithBlack (l : Launch) (D : va_G) (ca : Nat → ClassId) (t : Nat → Nat) (ad_n : Nat → Nat) (ad_y : Nat → Nat) (ad_b : Nat → Nat) (n_room : Nat) (n_order : Nat → Int32) (n_weights : Nat → Int32) (n_black : Nat → Int32) (n_lifts : Nat → Int32) (n_begins : Nat → Int32) (n_ends : Nat → Int32) (n_has : Nat → Int32) (n_lifted : Nat → Int32) (n_allLifts : Int32) (n_doneAt : Int32) (b_heaps : Int32) (b_piles : Nat → Nat → Int32) (b_heights : Nat → Int32) (b_spots : Nat → Int32) (fuel : Nat) (o : Int32) (hF : fX3_heapWithBlack fuel n_black b_heaps b_piles b_heights = some o) : zRi l D (zT ca) t yX3_heapWithBlack (.code yX3_heapWithBlack cX3_heapWithBlack 3 (some .int) :: zW) roX3_heapWithBlack [.ref (ad_n 0)] (wX3_nb ca ad_n ad_y ad_b n_room n_order n_weights n_black n_lifts n_begins n_ends n_has n_lifted n_allLifts n_doneAt b_heaps b_piles b_heights b_spots) o := by
  refine zRi_of (cc := cX3_heapWithBlack) (maxL := 3) (by decide) rfl (Nat.le_of_ble_eq_true rfl) ?_
  intro p e s m args below meth c A Q ls ⟨hx, hb, hml, hown, hts, hA, hK, hZ, hS⟩ hret hP hD hl
  have hts := fun w h => hts w (List.mem_cons_of_mem _ h)
  have hown : s.vm.findClass RX3 = some m.cls := hown
  have hl : lv_has ls 3 [(0, .ref (ad_n 0))] := hl
  have hin0 := zin_X0
  have hin3 := zin_X3
  have l2 : ∀ (n2 : Nat) (v1 : Int32), fX3_heapWithBlack_L2 fuel n_black b_heaps b_piles b_heights n2 v1 = some o → ∀ ls : Array Slot, lv_has ls 3 [(0, .ref (ad_n 0)), (1, .int v1)] → W p l e roX3_heapWithBlack s m args below meth c s.heap [] 0 0 Q (F0 m 2 ls []) := by
    intro n2
    induction n2 with
    | zero =>
      intro v1 hF
      rw [fX3_heapWithBlack_L2] at hF
      cases hF
    | succ n2 ih2 =>
      have j55 : ∀ (v1 : Int32), fX3_heapWithBlack_J55 (fX3_heapWithBlack_L2 fuel n_black b_heaps b_piles b_heights n2) v1 = some o → ∀ ls : Array Slot, lv_has ls 3 [(0, .ref (ad_n 0)), (1, .int v1)] → W p l e roX3_heapWithBlack s m args below meth c s.heap [] 0 0 Q (F0 m 55 ls []) := by
        intro v1 hF ls hl
        unfold fX3_heapWithBlack_J55 at hF
        refine z_iinc (kv := 1) hx hb 1 dX3_heapWithBlack_55 hl rfl (by decide) (by decide) (fun g => [(1, .int g), (0, .ref (ad_n 0))]) (fun _ => rfl) hF (fun v1_8 ls hF hl => ?_)
        refine lv_goto (tgt := 2) hx hb dX3_heapWithBlack_58 (by decide) ?_
        exact ih2 v1_8 hF ls (lv_sub hl [1, 0] rfl)
      have l15 : ∀ (n15 : Nat) (v1 : Int32) (v2 : Int32), fX3_heapWithBlack_L15 n_black b_piles b_heights (fX3_heapWithBlack_L2 fuel n_black b_heaps b_piles b_heights n2) n15 v1 v2 = some o → ∀ ls : Array Slot, lv_has ls 3 [(0, .ref (ad_n 0)), (1, .int v1), (2, .int v2)] → W p l e roX3_heapWithBlack s m args below meth c s.heap [] 0 0 Q (F0 m 15 ls []) := by
        intro n15
        induction n15 with
        | zero =>
          intro v1 v2 hF
          rw [fX3_heapWithBlack_L15] at hF
          cases hF
        | succ n15 ih15 =>
          intro v1 v2 hF ls hl
          rw [fX3_heapWithBlack_L15] at hF
          refine lv_iload_n hx hb dX3_heapWithBlack_15 rfl (lv_at hl 2 rfl) ?_
          refine lv_aload_n hx hb dX3_heapWithBlack_16 rfl (lv_at hl 0 rfl) ?_
          refine va_get (D := D) (ci := 2) (v := .ref (ad_b 0)) (C := RX3) (T := TX3) (N := 15) hx hb hts hin3 hown hK hP 0 rfl rfl 2 (by decide) (hts _ zm_347) (fun _ h9 => h9) rfl dX3_heapWithBlack_17 ?_
          refine va_get (D := D) (ci := 0) (v := .ref (ad_b 5)) (C := RX0) (T := TX0) (N := 4) hx hb hts hin0 hown hK hP 9 rfl rfl 2 (by decide) (hts _ zm_360) (fun _ h9 => h9) rfl dX3_heapWithBlack_20 ?_
          refine lv_iload_n hx hb dX3_heapWithBlack_23 rfl (lv_at hl 1 rfl) ?_
          obtain ⟨h_2, hF⟩ := zgi hF
          refine va_iald hx hb hK hP 14 0 rfl rfl h_2 dX3_heapWithBlack_24 ?_
          refine lv_icmp_ge (tgt := 55) hx hb dX3_heapWithBlack_25 (by decide) (fun c_3 => ?_) (fun c_3 => ?_)
          · have hF := zt c_3 hF
            exact j55 v1 hF ls (lv_sub hl [0, 1] rfl)
          · have hF := zf c_3 hF
            refine lv_aload_n hx hb dX3_heapWithBlack_28 rfl (lv_at hl 0 rfl) ?_
            refine va_get (D := D) (ci := 2) (v := .ref (ad_n 3)) (C := RX3) (T := TX3) (N := 15) hx hb hts hin3 hown hK hP 0 rfl rfl 7 (by decide) (hts _ zm_364) (fun _ h9 => h9) rfl dX3_heapWithBlack_29 ?_
            refine lv_aload_n hx hb dX3_heapWithBlack_32 rfl (lv_at hl 0 rfl) ?_
            refine va_get (D := D) (ci := 2) (v := .ref (ad_b 0)) (C := RX3) (T := TX3) (N := 15) hx hb hts hin3 hown hK hP 0 rfl rfl 2 (by decide) (hts _ zm_347) (fun _ h9 => h9) rfl dX3_heapWithBlack_33 ?_
            refine va_get (D := D) (ci := 0) (v := .ref (ad_b 1)) (C := RX0) (T := TX0) (N := 4) hx hb hts hin0 hown hK hP 9 rfl rfl 1 (by decide) (hts _ zm_363) (fun _ h9 => h9) rfl dX3_heapWithBlack_36 ?_
            refine lv_iload_n hx hb dX3_heapWithBlack_39 rfl (lv_at hl 1 rfl) ?_
            refine z_aald hx hb hK hP 10 4 rfl rfl rfl h_2 dX3_heapWithBlack_40 ?_
            refine lv_iload_n hx hb dX3_heapWithBlack_41 rfl (lv_at hl 2 rfl) ?_
            obtain ⟨h_4, hF⟩ := zgi hF
            refine z_rald hx hb hK hP 11 0 rfl rfl rfl rfl (zin_lt h_2) h_4 dX3_heapWithBlack_42 ?_
            obtain ⟨h_5, hF⟩ := zgi hF
            refine va_zald hx hb hK hP 3 1 rfl rfl h_5 dX3_heapWithBlack_43 ?_
            refine lv_if_eq (tgt := 49) hx hb dX3_heapWithBlack_44 (by decide) (fun c_6 => ?_) (fun c_6 => ?_)
            · have hF := zt c_6 hF
              refine z_iinc (kv := 1) hx hb 2 dX3_heapWithBlack_49 hl rfl (by decide) (by decide) (fun g => [(2, .int g), (0, .ref (ad_n 0)), (1, .int v1)]) (fun _ => rfl) hF (fun v2_7 ls hF hl => ?_)
              refine lv_goto (tgt := 15) hx hb dX3_heapWithBlack_52 (by decide) ?_
              exact ih15 v1 v2_7 hF ls (lv_sub hl [1, 2, 0] rfl)
            · have hF := zf c_6 hF
              refine lv_iload_n hx hb dX3_heapWithBlack_47 rfl (lv_at hl 1 rfl) ?_
              obtain rfl := Option.some.inj hF
              exact hret _ _ rfl dX3_heapWithBlack_48
      intro v1 hF ls hl
      rw [fX3_heapWithBlack_L2] at hF
      refine lv_iload_n hx hb dX3_heapWithBlack_2 rfl (lv_at hl 1 rfl) ?_
      refine lv_aload_n hx hb dX3_heapWithBlack_3 rfl (lv_at hl 0 rfl) ?_
      refine va_get (D := D) (ci := 2) (v := .ref (ad_b 0)) (C := RX3) (T := TX3) (N := 15) hx hb hts hin3 hown hK hP 0 rfl rfl 2 (by decide) (hts _ zm_347) (fun _ h9 => h9) rfl dX3_heapWithBlack_4 ?_
      refine va_get (D := D) (ci := 0) (v := .int b_heaps) (C := RX0) (T := TX0) (N := 4) hx hb hts hin0 hown hK hP 9 rfl rfl 0 (by decide) (hts _ zm_355) (fun _ h9 => h9) rfl dX3_heapWithBlack_7 ?_
      refine lv_icmp_ge (tgt := 61) hx hb dX3_heapWithBlack_10 (by decide) (fun c_1 => ?_) (fun c_1 => ?_)
      · have hF := zt c_1 hF
        refine lv_bipush (v := (-4)) hx hb dX3_heapWithBlack_61 (by decide) ?_
        obtain rfl := Option.some.inj hF
        exact hret _ _ rfl dX3_heapWithBlack_63
      · have hF := zf c_1 hF
        refine lv_iconst (v := 0) hx hb dX3_heapWithBlack_13 (by decide) ?_
        refine lv_istore_n (lv' := [(2, .int 0), (0, .ref (ad_n 0)), (1, .int v1)]) hx hb dX3_heapWithBlack_14 rfl hl (by decide) rfl (fun ls hl => ?_)
        exact l15 fuel v1 0 hF ls (lv_sub hl [1, 2, 0] rfl)
  unfold fX3_heapWithBlack at hF
  refine lv_iconst (v := 0) hx hb dX3_heapWithBlack_0 (by decide) ?_
  refine lv_istore_n (lv' := [(1, .int 0), (0, .ref (ad_n 0))]) hx hb dX3_heapWithBlack_1 rfl hl (by decide) rfl (fun ls hl => ?_)
  exact l2 fuel 0 hF ls (lv_sub hl [1, 0] rfl)
abbrev roX3_takes : Room := { frames := 0, cells := 0, slots := 0, locals := 0 }
set_option maxHeartbeats 4000000 in
set_option maxRecDepth 100000 in
theorem kX3_takes (l : Launch) (D : va_G) (ca : Nat → ClassId) (t : Nat → Nat) (ad_n : Nat → Nat) (ad_y : Nat → Nat) (ad_b : Nat → Nat) (ad_r : Nat → Nat) (n_order : Nat → Int32) (n_weights : Nat → Int32) (n_black : Nat → Int32) (n_lifts : Nat → Int32) (n_begins : Nat → Int32) (n_ends : Nat → Int32) (n_has : Nat → Int32) (n_lifted : Nat → Int32) (n_allLifts : Int32) (n_doneAt : Int32) (r_guests : Int32) (r_kinds : Nat → Int32) (r_figures : Nat → Int32) (r_minutes : Nat → Int32) (r_settings : Nat → Int32) (r_hooks : Int32) (r_letters : Nat → Int32) (r_letterCount : Int32) (p1 : Int32) (p2 : Int32) (fuel : Nat) (o : Int32) (hF : fX3_takes fuel n_black r_settings p1 p2 = some o) : zRi l D (zT ca) t yX3_takes (.code yX3_takes cX3_takes 3 (some .boolean) :: zW) roX3_takes [.ref (ad_n 0), .int p1, .int p2] (wX3_nr ca ad_n ad_y ad_b ad_r (ad_r 0) n_order n_weights n_black n_lifts n_begins n_ends n_has n_lifted n_allLifts n_doneAt r_guests r_kinds r_figures r_minutes r_settings r_hooks r_letters r_letterCount) o := by
  refine zRi_of (cc := cX3_takes) (maxL := 3) (by decide) rfl (Nat.le_of_ble_eq_true rfl) ?_
  intro p e s m args below meth c A Q ls ⟨hx, hb, hml, hown, hts, hA, hK, hZ, hS⟩ hret hP hD hl
  have hts := fun w h => hts w (List.mem_cons_of_mem _ h)
  have hown : s.vm.findClass RX3 = some m.cls := hown
  have hl : lv_has ls 3 [(0, .ref (ad_n 0)), (1, .int p1), (2, .int p2)] := hl
  have hin3 := zin_X3
  have hin5 := zin_X5
  unfold fX3_takes at hF
  refine lv_iload_n hx hb dX3_takes_0 rfl (lv_at hl 2 rfl) ?_
  refine lv_iload_n hx hb dX3_takes_1 rfl (lv_at hl 1 rfl) ?_
  refine lv_icmp_eq (tgt := 36) hx hb dX3_takes_2 (by decide) (fun c_1 => ?_) (fun c_1 => ?_)
  · have hF := zt c_1 hF
    refine lv_iconst (v := 1) hx hb dX3_takes_36 (by decide) ?_
    refine lv_goto (tgt := 41) hx hb dX3_takes_37 (by decide) ?_
    obtain rfl := Option.some.inj hF
    exact hret _ _ (zbool (Or.inr rfl)) dX3_takes_41
  · have hF := zf c_1 hF
    refine lv_aload_n hx hb dX3_takes_5 rfl (lv_at hl 0 rfl) ?_
    refine va_get (D := D) (ci := 2) (v := .ref (ad_r 0)) (C := RX3) (T := TX3) (N := 15) hx hb hts hin3 hown hK hP 0 rfl rfl 0 (by decide) (hts _ zm_343) (fun _ h9 => h9) rfl dX3_takes_6 ?_
    refine va_get (D := D) (ci := 3) (v := .ref (ad_r 4)) (C := RX5) (T := TX5) (N := 8) hx hb hts hin5 hown hK hP 9 rfl rfl 4 (by decide) (hts _ zm_348) (fun _ h9 => h9) rfl dX3_takes_9 ?_
    refine lv_iconst (v := 3) hx hb dX3_takes_12 (by decide) ?_
    refine z_ialdK 3 hx hb hK hP 13 0 rfl rfl (zin_ok (by decide)) (by decide) dX3_takes_13 ?_
    refine lv_iconst (v := 1) hx hb dX3_takes_14 (by decide) ?_
    refine lv_icmp_ne (tgt := 40) hx hb dX3_takes_15 (by decide) (fun c_2 => ?_) (fun c_2 => ?_)
    · have hF := zf c_2 hF
      refine lv_iconst (v := 0) hx hb dX3_takes_40 (by decide) ?_
      obtain rfl := Option.some.inj hF
      exact hret _ _ (zbool (Or.inl rfl)) dX3_takes_41
    · have hF := zt c_2 hF
      refine lv_aload_n hx hb dX3_takes_18 rfl (lv_at hl 0 rfl) ?_
      refine va_get (D := D) (ci := 2) (v := .ref (ad_n 3)) (C := RX3) (T := TX3) (N := 15) hx hb hts hin3 hown hK hP 0 rfl rfl 7 (by decide) (hts _ zm_364) (fun _ h9 => h9) rfl dX3_takes_19 ?_
      refine lv_iload_n hx hb dX3_takes_22 rfl (lv_at hl 1 rfl) ?_
      obtain ⟨h_3, hF⟩ := zgi hF
      refine va_zald hx hb hK hP 3 1 rfl rfl h_3 dX3_takes_23 ?_
      refine lv_if_eq (tgt := 40) hx hb dX3_takes_24 (by decide) (fun c_4 => ?_) (fun c_4 => ?_)
      · have hF := zt c_4 hF
        refine lv_iconst (v := 0) hx hb dX3_takes_40 (by decide) ?_
        obtain rfl := Option.some.inj hF
        exact hret _ _ (zbool (Or.inl rfl)) dX3_takes_41
      · have hF := zf c_4 hF
        refine lv_aload_n hx hb dX3_takes_27 rfl (lv_at hl 0 rfl) ?_
        refine va_get (D := D) (ci := 2) (v := .ref (ad_n 3)) (C := RX3) (T := TX3) (N := 15) hx hb hts hin3 hown hK hP 0 rfl rfl 7 (by decide) (hts _ zm_364) (fun _ h9 => h9) rfl dX3_takes_28 ?_
        refine lv_iload_n hx hb dX3_takes_31 rfl (lv_at hl 2 rfl) ?_
        obtain ⟨h_5, hF⟩ := zgi hF
        refine va_zald hx hb hK hP 3 1 rfl rfl h_5 dX3_takes_32 ?_
        refine lv_if_eq (tgt := 40) hx hb dX3_takes_33 (by decide) (fun c_6 => ?_) (fun c_6 => ?_)
        · have hF := zt c_6 hF
          refine lv_iconst (v := 0) hx hb dX3_takes_40 (by decide) ?_
          obtain rfl := Option.some.inj hF
          exact hret _ _ (zbool (Or.inl rfl)) dX3_takes_41
        · have hF := zf c_6 hF
          refine lv_iconst (v := 1) hx hb dX3_takes_36 (by decide) ?_
          refine lv_goto (tgt := 41) hx hb dX3_takes_37 (by decide) ?_
          obtain rfl := Option.some.inj hF
          exact hret _ _ (zbool (Or.inr rfl)) dX3_takes_41
abbrev roX3_placeOf : Room := { frames := 0, cells := 0, slots := 0, locals := 0 }
set_option maxHeartbeats 4000000 in
set_option maxRecDepth 100000 in
theorem kX3_placeOf (l : Launch) (D : va_G) (ca : Nat → ClassId) (t : Nat → Nat) (ad_n : Nat → Nat) (ad_y : Nat → Nat) (ad_b : Nat → Nat) (ad_r : Nat → Nat) (n_order : Nat → Int32) (n_weights : Nat → Int32) (n_black : Nat → Int32) (n_lifts : Nat → Int32) (n_begins : Nat → Int32) (n_ends : Nat → Int32) (n_has : Nat → Int32) (n_lifted : Nat → Int32) (n_allLifts : Int32) (n_doneAt : Int32) (r_guests : Int32) (r_kinds : Nat → Int32) (r_figures : Nat → Int32) (r_minutes : Nat → Int32) (r_settings : Nat → Int32) (r_hooks : Int32) (r_letters : Nat → Int32) (r_letterCount : Int32) (p1 : Int32) (fuel : Nat) (o : Int32) (hF : fX3_placeOf fuel n_order r_guests p1 = some o) : zRi l D (zT ca) t yX3_placeOf (.code yX3_placeOf cX3_placeOf 3 (some .int) :: zW) roX3_placeOf [.ref (ad_n 0), .int p1] (wX3_nr ca ad_n ad_y ad_b ad_r (ad_r 0) n_order n_weights n_black n_lifts n_begins n_ends n_has n_lifted n_allLifts n_doneAt r_guests r_kinds r_figures r_minutes r_settings r_hooks r_letters r_letterCount) o := by
  refine zRi_of (cc := cX3_placeOf) (maxL := 3) (by decide) rfl (Nat.le_of_ble_eq_true rfl) ?_
  intro p e s m args below meth c A Q ls ⟨hx, hb, hml, hown, hts, hA, hK, hZ, hS⟩ hret hP hD hl
  have hts := fun w h => hts w (List.mem_cons_of_mem _ h)
  have hown : s.vm.findClass RX3 = some m.cls := hown
  have hl : lv_has ls 3 [(0, .ref (ad_n 0)), (1, .int p1)] := hl
  have hin3 := zin_X3
  have hin5 := zin_X5
  have l2 : ∀ (n2 : Nat) (v2 : Int32), fX3_placeOf_L2 n_order r_guests p1 n2 v2 = some o → ∀ ls : Array Slot, lv_has ls 3 [(0, .ref (ad_n 0)), (1, .int p1), (2, .int v2)] → W p l e roX3_placeOf s m args below meth c s.heap [] 0 0 Q (F0 m 2 ls []) := by
    intro n2
    induction n2 with
    | zero =>
      intro v2 hF
      rw [fX3_placeOf_L2] at hF
      cases hF
    | succ n2 ih2 =>
      intro v2 hF ls hl
      rw [fX3_placeOf_L2] at hF
      refine lv_iload_n hx hb dX3_placeOf_2 rfl (lv_at hl 2 rfl) ?_
      refine lv_aload_n hx hb dX3_placeOf_3 rfl (lv_at hl 0 rfl) ?_
      refine va_get (D := D) (ci := 2) (v := .ref (ad_r 0)) (C := RX3) (T := TX3) (N := 15) hx hb hts hin3 hown hK hP 0 rfl rfl 0 (by decide) (hts _ zm_343) (fun _ h9 => h9) rfl dX3_placeOf_4 ?_
      refine va_get (D := D) (ci := 3) (v := .int r_guests) (C := RX5) (T := TX5) (N := 8) hx hb hts hin5 hown hK hP 9 rfl rfl 0 (by decide) (hts _ zm_344) (fun _ h9 => h9) rfl dX3_placeOf_7 ?_
      refine lv_icmp_ge (tgt := 31) hx hb dX3_placeOf_10 (by decide) (fun c_1 => ?_) (fun c_1 => ?_)
      · have hF := zt c_1 hF
        refine lv_bipush (v := (-4)) hx hb dX3_placeOf_31 (by decide) ?_
        obtain rfl := Option.some.inj hF
        exact hret _ _ rfl dX3_placeOf_33
      · have hF := zf c_1 hF
        refine lv_aload_n hx hb dX3_placeOf_13 rfl (lv_at hl 0 rfl) ?_
        refine va_get (D := D) (ci := 2) (v := .ref (ad_n 1)) (C := RX3) (T := TX3) (N := 15) hx hb hts hin3 hown hK hP 0 rfl rfl 5 (by decide) (hts _ zm_346) (fun _ h9 => h9) rfl dX3_placeOf_14 ?_
        refine lv_iload_n hx hb dX3_placeOf_17 rfl (lv_at hl 2 rfl) ?_
        obtain ⟨h_2, hF⟩ := zgi hF
        refine va_iald hx hb hK hP 1 0 rfl rfl h_2 dX3_placeOf_18 ?_
        refine lv_iload_n hx hb dX3_placeOf_19 rfl (lv_at hl 1 rfl) ?_
        refine lv_icmp_ne (tgt := 25) hx hb dX3_placeOf_20 (by decide) (fun c_3 => ?_) (fun c_3 => ?_)
        · have hF := zf c_3 hF
          refine z_iinc (kv := 1) hx hb 2 dX3_placeOf_25 hl rfl (by decide) (by decide) (fun g => [(2, .int g), (0, .ref (ad_n 0)), (1, .int p1)]) (fun _ => rfl) hF (fun v2_4 ls hF hl => ?_)
          refine lv_goto (tgt := 2) hx hb dX3_placeOf_28 (by decide) ?_
          exact ih2 v2_4 hF ls (lv_sub hl [1, 2, 0] rfl)
        · have hF := zt c_3 hF
          refine lv_iload_n hx hb dX3_placeOf_23 rfl (lv_at hl 2 rfl) ?_
          obtain rfl := Option.some.inj hF
          exact hret _ _ rfl dX3_placeOf_24
  unfold fX3_placeOf at hF
  refine lv_iconst (v := 0) hx hb dX3_placeOf_0 (by decide) ?_
  refine lv_istore_n (lv' := [(2, .int 0), (0, .ref (ad_n 0)), (1, .int p1)]) hx hb dX3_placeOf_1 rfl hl (by decide) rfl (fun ls hl => ?_)
  exact l2 fuel 0 hF ls (lv_sub hl [1, 2, 0] rfl)
abbrev roX3_firstFromMinute : Room := { frames := 0, cells := 0, slots := 0, locals := 0 }
set_option maxHeartbeats 4000000 in
set_option maxRecDepth 100000 in
theorem kX3_firstFromMinute (l : Launch) (D : va_G) (ca : Nat → ClassId) (t : Nat → Nat) (ad_n : Nat → Nat) (ad_y : Nat → Nat) (ad_b : Nat → Nat) (ad_r : Nat → Nat) (n_order : Nat → Int32) (n_weights : Nat → Int32) (n_black : Nat → Int32) (n_lifts : Nat → Int32) (n_begins : Nat → Int32) (n_ends : Nat → Int32) (n_has : Nat → Int32) (n_lifted : Nat → Int32) (n_allLifts : Int32) (n_doneAt : Int32) (y_going : Nat → Int32) (y_coming : Nat → Int32) (y_holds : Int32) (y_latest : Int32) (r_guests : Int32) (r_kinds : Nat → Int32) (r_figures : Nat → Int32) (r_minutes : Nat → Int32) (r_settings : Nat → Int32) (r_hooks : Int32) (r_letters : Nat → Int32) (r_letterCount : Int32) (p1 : Int32) (fuel : Nat) (o : Int32) (hF : fX3_firstFromMinute fuel n_order y_going r_guests p1 = some o) : zRi l D (zT ca) t yX3_firstFromMinute (.code yX3_firstFromMinute cX3_firstFromMinute 3 (some .int) :: zW) roX3_firstFromMinute [.ref (ad_n 0), .int p1] (wX3_nyr ca ad_n ad_y ad_b ad_r (ad_r 0) n_order n_weights n_black n_lifts n_begins n_ends n_has n_lifted n_allLifts n_doneAt y_going y_coming y_holds y_latest r_guests r_kinds r_figures r_minutes r_settings r_hooks r_letters r_letterCount) o := by
  refine zRi_of (cc := cX3_firstFromMinute) (maxL := 3) (by decide) rfl (Nat.le_of_ble_eq_true rfl) ?_
  intro p e s m args below meth c A Q ls ⟨hx, hb, hml, hown, hts, hA, hK, hZ, hS⟩ hret hP hD hl
  have hts := fun w h => hts w (List.mem_cons_of_mem _ h)
  have hown : s.vm.findClass RX3 = some m.cls := hown
  have hl : lv_has ls 3 [(0, .ref (ad_n 0)), (1, .int p1)] := hl
  have hin3 := zin_X3
  have hin5 := zin_X5
  have l2 : ∀ (n2 : Nat) (v2 : Int32), fX3_firstFromMinute_L2 n_order y_going r_guests p1 n2 v2 = some o → ∀ ls : Array Slot, lv_has ls 3 [(0, .ref (ad_n 0)), (1, .int p1), (2, .int v2)] → W p l e roX3_firstFromMinute s m args below meth c s.heap [] 0 0 Q (F0 m 2 ls []) := by
    intro n2
    induction n2 with
    | zero =>
      intro v2 hF
      rw [fX3_firstFromMinute_L2] at hF
      cases hF
    | succ n2 ih2 =>
      intro v2 hF ls hl
      rw [fX3_firstFromMinute_L2] at hF
      refine lv_iload_n hx hb dX3_firstFromMinute_2 rfl (lv_at hl 2 rfl) ?_
      refine lv_aload_n hx hb dX3_firstFromMinute_3 rfl (lv_at hl 0 rfl) ?_
      refine va_get (D := D) (ci := 2) (v := .ref (ad_r 0)) (C := RX3) (T := TX3) (N := 15) hx hb hts hin3 hown hK hP 0 rfl rfl 0 (by decide) (hts _ zm_343) (fun _ h9 => h9) rfl dX3_firstFromMinute_4 ?_
      refine va_get (D := D) (ci := 3) (v := .int r_guests) (C := RX5) (T := TX5) (N := 8) hx hb hts hin5 hown hK hP 12 rfl rfl 0 (by decide) (hts _ zm_344) (fun _ h9 => h9) rfl dX3_firstFromMinute_7 ?_
      refine lv_icmp_ge (tgt := 36) hx hb dX3_firstFromMinute_10 (by decide) (fun c_1 => ?_) (fun c_1 => ?_)
      · have hF := zt c_1 hF
        refine lv_bipush (v := (-4)) hx hb dX3_firstFromMinute_36 (by decide) ?_
        obtain rfl := Option.some.inj hF
        exact hret _ _ rfl dX3_firstFromMinute_38
      · have hF := zf c_1 hF
        refine lv_aload_n hx hb dX3_firstFromMinute_13 rfl (lv_at hl 0 rfl) ?_
        refine va_get (D := D) (ci := 2) (v := .ref (ad_y 1)) (C := RX3) (T := TX3) (N := 15) hx hb hts hin3 hown hK hP 0 rfl rfl 3 (by decide) (hts _ zm_345) (fun _ h9 => h9) rfl dX3_firstFromMinute_14 ?_
        refine lv_aload_n hx hb dX3_firstFromMinute_17 rfl (lv_at hl 0 rfl) ?_
        refine va_get (D := D) (ci := 2) (v := .ref (ad_n 1)) (C := RX3) (T := TX3) (N := 15) hx hb hts hin3 hown hK hP 0 rfl rfl 5 (by decide) (hts _ zm_346) (fun _ h9 => h9) rfl dX3_firstFromMinute_18 ?_
        refine lv_iload_n hx hb dX3_firstFromMinute_21 rfl (lv_at hl 2 rfl) ?_
        obtain ⟨h_2, hF⟩ := zgi hF
        refine va_iald hx hb hK hP 1 0 rfl rfl h_2 dX3_firstFromMinute_22 ?_
        obtain ⟨h_3, hF⟩ := zgi hF
        refine va_iald hx hb hK hP 10 0 rfl rfl h_3 dX3_firstFromMinute_23 ?_
        refine lv_iload_n hx hb dX3_firstFromMinute_24 rfl (lv_at hl 1 rfl) ?_
        refine lv_icmp_lt (tgt := 30) hx hb dX3_firstFromMinute_25 (by decide) (fun c_4 => ?_) (fun c_4 => ?_)
        · have hF := zt c_4 hF
          refine z_iinc (kv := 1) hx hb 2 dX3_firstFromMinute_30 hl rfl (by decide) (by decide) (fun g => [(2, .int g), (0, .ref (ad_n 0)), (1, .int p1)]) (fun _ => rfl) hF (fun v2_5 ls hF hl => ?_)
          refine lv_goto (tgt := 2) hx hb dX3_firstFromMinute_33 (by decide) ?_
          exact ih2 v2_5 hF ls (lv_sub hl [1, 2, 0] rfl)
        · have hF := zf c_4 hF
          refine lv_iload_n hx hb dX3_firstFromMinute_28 rfl (lv_at hl 2 rfl) ?_
          obtain rfl := Option.some.inj hF
          exact hret _ _ rfl dX3_firstFromMinute_29
  unfold fX3_firstFromMinute at hF
  refine lv_iconst (v := 0) hx hb dX3_firstFromMinute_0 (by decide) ?_
  refine lv_istore_n (lv' := [(2, .int 0), (0, .ref (ad_n 0)), (1, .int p1)]) hx hb dX3_firstFromMinute_1 rfl hl (by decide) rfl (fun ls hl => ?_)
  exact l2 fuel 0 hF ls (lv_sub hl [1, 2, 0] rfl)
abbrev roX3_allWaiting : Room := { frames := 0, cells := 0, slots := 0, locals := 0 }
set_option maxHeartbeats 4000000 in
set_option maxRecDepth 100000 in
theorem kX3_allWaiting (l : Launch) (D : va_G) (ca : Nat → ClassId) (t : Nat → Nat) (ad_n : Nat → Nat) (ad_y : Nat → Nat) (ad_b : Nat → Nat) (ad_r : Nat → Nat) (n_order : Nat → Int32) (n_weights : Nat → Int32) (n_black : Nat → Int32) (n_lifts : Nat → Int32) (n_begins : Nat → Int32) (n_ends : Nat → Int32) (n_has : Nat → Int32) (n_lifted : Nat → Int32) (n_allLifts : Int32) (n_doneAt : Int32) (y_going : Nat → Int32) (y_coming : Nat → Int32) (y_holds : Int32) (y_latest : Int32) (r_guests : Int32) (r_kinds : Nat → Int32) (r_figures : Nat → Int32) (r_minutes : Nat → Int32) (r_settings : Nat → Int32) (r_hooks : Int32) (r_letters : Nat → Int32) (r_letterCount : Int32) (fuel : Nat) (o : Int32) (hF : fX3_allWaiting fuel n_begins y_going r_guests = some o) : zRi l D (zT ca) t yX3_allWaiting (.code yX3_allWaiting cX3_allWaiting 3 (some .int) :: zW) roX3_allWaiting [.ref (ad_n 0)] (wX3_nyr ca ad_n ad_y ad_b ad_r (ad_r 0) n_order n_weights n_black n_lifts n_begins n_ends n_has n_lifted n_allLifts n_doneAt y_going y_coming y_holds y_latest r_guests r_kinds r_figures r_minutes r_settings r_hooks r_letters r_letterCount) o := by
  refine zRi_of (cc := cX3_allWaiting) (maxL := 3) (by decide) rfl (Nat.le_of_ble_eq_true rfl) ?_
  intro p e s m args below meth c A Q ls ⟨hx, hb, hml, hown, hts, hA, hK, hZ, hS⟩ hret hP hD hl
  have hts := fun w h => hts w (List.mem_cons_of_mem _ h)
  have hown : s.vm.findClass RX3 = some m.cls := hown
  have hl : lv_has ls 3 [(0, .ref (ad_n 0))] := hl
  have hin3 := zin_X3
  have hin5 := zin_X5
  have l4 : ∀ (n4 : Nat) (v1 : Int32) (v2 : Int32), fX3_allWaiting_L4 n_begins y_going r_guests n4 v1 v2 = some o → ∀ ls : Array Slot, lv_has ls 3 [(0, .ref (ad_n 0)), (1, .int v1), (2, .int v2)] → W p l e roX3_allWaiting s m args below meth c s.heap [] 0 0 Q (F0 m 4 ls []) := by
    intro n4
    induction n4 with
    | zero =>
      intro v1 v2 hF
      rw [fX3_allWaiting_L4] at hF
      cases hF
    | succ n4 ih4 =>
      intro v1 v2 hF ls hl
      rw [fX3_allWaiting_L4] at hF
      refine lv_iload_n hx hb dX3_allWaiting_4 rfl (lv_at hl 2 rfl) ?_
      refine lv_aload_n hx hb dX3_allWaiting_5 rfl (lv_at hl 0 rfl) ?_
      refine va_get (D := D) (ci := 2) (v := .ref (ad_r 0)) (C := RX3) (T := TX3) (N := 15) hx hb hts hin3 hown hK hP 0 rfl rfl 0 (by decide) (hts _ zm_343) (fun _ h9 => h9) rfl dX3_allWaiting_6 ?_
      refine va_get (D := D) (ci := 3) (v := .int r_guests) (C := RX5) (T := TX5) (N := 8) hx hb hts hin5 hown hK hP 12 rfl rfl 0 (by decide) (hts _ zm_344) (fun _ h9 => h9) rfl dX3_allWaiting_9 ?_
      refine lv_icmp_ge (tgt := 37) hx hb dX3_allWaiting_12 (by decide) (fun c_1 => ?_) (fun c_1 => ?_)
      · have hF := zt c_1 hF
        refine lv_iload_n hx hb dX3_allWaiting_37 rfl (lv_at hl 1 rfl) ?_
        obtain rfl := Option.some.inj hF
        exact hret _ _ rfl dX3_allWaiting_38
      · have hF := zf c_1 hF
        refine lv_iload_n hx hb dX3_allWaiting_15 rfl (lv_at hl 1 rfl) ?_
        refine lv_aload_n hx hb dX3_allWaiting_16 rfl (lv_at hl 0 rfl) ?_
        refine va_get (D := D) (ci := 2) (v := .ref (ad_n 5)) (C := RX3) (T := TX3) (N := 15) hx hb hts hin3 hown hK hP 0 rfl rfl 9 (by decide) (hts _ zm_365) (fun _ h9 => h9) rfl dX3_allWaiting_17 ?_
        refine lv_iload_n hx hb dX3_allWaiting_20 rfl (lv_at hl 2 rfl) ?_
        obtain ⟨h_2, hF⟩ := zgi hF
        refine va_iald hx hb hK hP 5 0 rfl rfl h_2 dX3_allWaiting_21 ?_
        refine lv_aload_n hx hb dX3_allWaiting_22 rfl (lv_at hl 0 rfl) ?_
        refine va_get (D := D) (ci := 2) (v := .ref (ad_y 1)) (C := RX3) (T := TX3) (N := 15) hx hb hts hin3 hown hK hP 0 rfl rfl 3 (by decide) (hts _ zm_345) (fun _ h9 => h9) rfl dX3_allWaiting_23 ?_
        refine lv_iload_n hx hb dX3_allWaiting_26 rfl (lv_at hl 2 rfl) ?_
        refine va_iald hx hb hK hP 10 0 rfl rfl h_2 dX3_allWaiting_27 ?_
        refine lv_isub hx hb dX3_allWaiting_28 ?_
        refine z_let hF (fun x_3 hF => ?_)
        refine lv_iadd hx hb dX3_allWaiting_29 ?_
        refine z_let hF (fun v1_4 hF => ?_)
        refine lv_istore_n (lv' := [(1, .int v1_4), (0, .ref (ad_n 0)), (2, .int v2)]) hx hb dX3_allWaiting_30 rfl hl (by decide) rfl (fun ls hl => ?_)
        refine z_iinc (kv := 1) hx hb 2 dX3_allWaiting_31 hl rfl (by decide) (by decide) (fun g => [(2, .int g), (1, .int v1_4), (0, .ref (ad_n 0))]) (fun _ => rfl) hF (fun v2_5 ls hF hl => ?_)
        refine lv_goto (tgt := 4) hx hb dX3_allWaiting_34 (by decide) ?_
        exact ih4 v1_4 v2_5 hF ls (lv_sub hl [2, 1, 0] rfl)
  unfold fX3_allWaiting at hF
  refine lv_iconst (v := 0) hx hb dX3_allWaiting_0 (by decide) ?_
  refine lv_istore_n (lv' := [(1, .int 0), (0, .ref (ad_n 0))]) hx hb dX3_allWaiting_1 rfl hl (by decide) rfl (fun ls hl => ?_)
  refine lv_iconst (v := 0) hx hb dX3_allWaiting_2 (by decide) ?_
  refine lv_istore_n (lv' := [(2, .int 0), (1, .int 0), (0, .ref (ad_n 0))]) hx hb dX3_allWaiting_3 rfl hl (by decide) rfl (fun ls hl => ?_)
  exact l4 fuel 0 0 hF ls (lv_sub hl [2, 1, 0] rfl)
abbrev roX3_howManyHaveAnothers : Room := { frames := 0, cells := 0, slots := 0, locals := 0 }
set_option maxHeartbeats 4000000 in
set_option maxRecDepth 100000 in
theorem kX3_howManyHaveAnothers (l : Launch) (D : va_G) (ca : Nat → ClassId) (t : Nat → Nat) (ad_n : Nat → Nat) (ad_y : Nat → Nat) (ad_b : Nat → Nat) (ad_r : Nat → Nat) (n_order : Nat → Int32) (n_weights : Nat → Int32) (n_black : Nat → Int32) (n_lifts : Nat → Int32) (n_begins : Nat → Int32) (n_ends : Nat → Int32) (n_has : Nat → Int32) (n_lifted : Nat → Int32) (n_allLifts : Int32) (n_doneAt : Int32) (r_guests : Int32) (r_kinds : Nat → Int32) (r_figures : Nat → Int32) (r_minutes : Nat → Int32) (r_settings : Nat → Int32) (r_hooks : Int32) (r_letters : Nat → Int32) (r_letterCount : Int32) (fuel : Nat) (o : Int32) (hF : fX3_howManyHaveAnothers fuel n_has r_guests = some o) : zRi l D (zT ca) t yX3_howManyHaveAnothers (.code yX3_howManyHaveAnothers cX3_howManyHaveAnothers 3 (some .int) :: zW) roX3_howManyHaveAnothers [.ref (ad_n 0)] (wX3_nr ca ad_n ad_y ad_b ad_r (ad_r 0) n_order n_weights n_black n_lifts n_begins n_ends n_has n_lifted n_allLifts n_doneAt r_guests r_kinds r_figures r_minutes r_settings r_hooks r_letters r_letterCount) o := by
  refine zRi_of (cc := cX3_howManyHaveAnothers) (maxL := 3) (by decide) rfl (Nat.le_of_ble_eq_true rfl) ?_
  intro p e s m args below meth c A Q ls ⟨hx, hb, hml, hown, hts, hA, hK, hZ, hS⟩ hret hP hD hl
  have hts := fun w h => hts w (List.mem_cons_of_mem _ h)
  have hown : s.vm.findClass RX3 = some m.cls := hown
  have hl : lv_has ls 3 [(0, .ref (ad_n 0))] := hl
  have hin3 := zin_X3
  have hin5 := zin_X5
  have l4 : ∀ (n4 : Nat) (v1 : Int32) (v2 : Int32), fX3_howManyHaveAnothers_L4 n_has r_guests n4 v1 v2 = some o → ∀ ls : Array Slot, lv_has ls 3 [(0, .ref (ad_n 0)), (1, .int v1), (2, .int v2)] → W p l e roX3_howManyHaveAnothers s m args below meth c s.heap [] 0 0 Q (F0 m 4 ls []) := by
    intro n4
    induction n4 with
    | zero =>
      intro v1 v2 hF
      rw [fX3_howManyHaveAnothers_L4] at hF
      cases hF
    | succ n4 ih4 =>
      have j39 : ∀ (v1 : Int32) (v2 : Int32), fX3_howManyHaveAnothers_J39 (fX3_howManyHaveAnothers_L4 n_has r_guests n4) v1 v2 = some o → ∀ ls : Array Slot, lv_has ls 3 [(0, .ref (ad_n 0)), (1, .int v1), (2, .int v2)] → W p l e roX3_howManyHaveAnothers s m args below meth c s.heap [] 0 0 Q (F0 m 39 ls []) := by
        intro v1 v2 hF ls hl
        unfold fX3_howManyHaveAnothers_J39 at hF
        refine z_iinc (kv := 1) hx hb 2 dX3_howManyHaveAnothers_39 hl rfl (by decide) (by decide) (fun g => [(2, .int g), (0, .ref (ad_n 0)), (1, .int v1)]) (fun _ => rfl) hF (fun v2_6 ls hF hl => ?_)
        refine lv_goto (tgt := 4) hx hb dX3_howManyHaveAnothers_42 (by decide) ?_
        exact ih4 v1 v2_6 hF ls (lv_sub hl [1, 2, 0] rfl)
      intro v1 v2 hF ls hl
      rw [fX3_howManyHaveAnothers_L4] at hF
      refine lv_iload_n hx hb dX3_howManyHaveAnothers_4 rfl (lv_at hl 2 rfl) ?_
      refine lv_aload_n hx hb dX3_howManyHaveAnothers_5 rfl (lv_at hl 0 rfl) ?_
      refine va_get (D := D) (ci := 2) (v := .ref (ad_r 0)) (C := RX3) (T := TX3) (N := 15) hx hb hts hin3 hown hK hP 0 rfl rfl 0 (by decide) (hts _ zm_343) (fun _ h9 => h9) rfl dX3_howManyHaveAnothers_6 ?_
      refine va_get (D := D) (ci := 3) (v := .int r_guests) (C := RX5) (T := TX5) (N := 8) hx hb hts hin5 hown hK hP 9 rfl rfl 0 (by decide) (hts _ zm_344) (fun _ h9 => h9) rfl dX3_howManyHaveAnothers_9 ?_
      refine lv_icmp_ge (tgt := 45) hx hb dX3_howManyHaveAnothers_12 (by decide) (fun c_1 => ?_) (fun c_1 => ?_)
      · have hF := zt c_1 hF
        refine lv_iload_n hx hb dX3_howManyHaveAnothers_45 rfl (lv_at hl 1 rfl) ?_
        obtain rfl := Option.some.inj hF
        exact hret _ _ rfl dX3_howManyHaveAnothers_46
      · have hF := zf c_1 hF
        refine lv_aload_n hx hb dX3_howManyHaveAnothers_15 rfl (lv_at hl 0 rfl) ?_
        refine va_get (D := D) (ci := 2) (v := .ref (ad_n 7)) (C := RX3) (T := TX3) (N := 15) hx hb hts hin3 hown hK hP 0 rfl rfl 11 (by decide) (hts _ zm_366) (fun _ h9 => h9) rfl dX3_howManyHaveAnothers_16 ?_
        refine lv_iload_n hx hb dX3_howManyHaveAnothers_19 rfl (lv_at hl 2 rfl) ?_
        obtain ⟨h_2, hF⟩ := zgi hF
        refine va_iald hx hb hK hP 7 0 rfl rfl h_2 dX3_howManyHaveAnothers_20 ?_
        refine lv_iload_n hx hb dX3_howManyHaveAnothers_21 rfl (lv_at hl 2 rfl) ?_
        refine lv_icmp_eq (tgt := 39) hx hb dX3_howManyHaveAnothers_22 (by decide) (fun c_3 => ?_) (fun c_3 => ?_)
        · have hF := zt c_3 hF
          exact j39 v1 v2 hF ls (lv_sub hl [0, 1, 2] rfl)
        · have hF := zf c_3 hF
          refine lv_aload_n hx hb dX3_howManyHaveAnothers_25 rfl (lv_at hl 0 rfl) ?_
          refine va_get (D := D) (ci := 2) (v := .ref (ad_n 7)) (C := RX3) (T := TX3) (N := 15) hx hb hts hin3 hown hK hP 0 rfl rfl 11 (by decide) (hts _ zm_366) (fun _ h9 => h9) rfl dX3_howManyHaveAnothers_26 ?_
          refine lv_iload_n hx hb dX3_howManyHaveAnothers_29 rfl (lv_at hl 2 rfl) ?_
          refine va_iald hx hb hK hP 7 0 rfl rfl h_2 dX3_howManyHaveAnothers_30 ?_
          refine lv_bipush (v := (-4)) hx hb dX3_howManyHaveAnothers_31 (by decide) ?_
          refine lv_icmp_eq (tgt := 39) hx hb dX3_howManyHaveAnothers_33 (by decide) (fun c_4 => ?_) (fun c_4 => ?_)
          · have hF := zt c_4 hF
            exact j39 v1 v2 hF ls (lv_sub hl [0, 1, 2] rfl)
          · have hF := zf c_4 hF
            refine z_iinc (kv := 1) hx hb 1 dX3_howManyHaveAnothers_36 hl rfl (by decide) (by decide) (fun g => [(1, .int g), (0, .ref (ad_n 0)), (2, .int v2)]) (fun _ => rfl) hF (fun v1_5 ls hF hl => ?_)
            exact j39 v1_5 v2 hF ls (lv_sub hl [1, 0, 2] rfl)
  unfold fX3_howManyHaveAnothers at hF
  refine lv_iconst (v := 0) hx hb dX3_howManyHaveAnothers_0 (by decide) ?_
  refine lv_istore_n (lv' := [(1, .int 0), (0, .ref (ad_n 0))]) hx hb dX3_howManyHaveAnothers_1 rfl hl (by decide) rfl (fun ls hl => ?_)
  refine lv_iconst (v := 0) hx hb dX3_howManyHaveAnothers_2 (by decide) ?_
  refine lv_istore_n (lv' := [(2, .int 0), (1, .int 0), (0, .ref (ad_n 0))]) hx hb dX3_howManyHaveAnothers_3 rfl hl (by decide) rfl (fun ls hl => ?_)
  exact l4 fuel 0 0 hF ls (lv_sub hl [2, 1, 0] rfl)
abbrev roX3_howManyHaveNone : Room := { frames := 0, cells := 0, slots := 0, locals := 0 }
set_option maxHeartbeats 4000000 in
set_option maxRecDepth 100000 in
theorem kX3_howManyHaveNone (l : Launch) (D : va_G) (ca : Nat → ClassId) (t : Nat → Nat) (ad_n : Nat → Nat) (ad_y : Nat → Nat) (ad_b : Nat → Nat) (ad_r : Nat → Nat) (n_order : Nat → Int32) (n_weights : Nat → Int32) (n_black : Nat → Int32) (n_lifts : Nat → Int32) (n_begins : Nat → Int32) (n_ends : Nat → Int32) (n_has : Nat → Int32) (n_lifted : Nat → Int32) (n_allLifts : Int32) (n_doneAt : Int32) (r_guests : Int32) (r_kinds : Nat → Int32) (r_figures : Nat → Int32) (r_minutes : Nat → Int32) (r_settings : Nat → Int32) (r_hooks : Int32) (r_letters : Nat → Int32) (r_letterCount : Int32) (fuel : Nat) (o : Int32) (hF : fX3_howManyHaveNone fuel n_has r_guests = some o) : zRi l D (zT ca) t yX3_howManyHaveNone (.code yX3_howManyHaveNone cX3_howManyHaveNone 3 (some .int) :: zW) roX3_howManyHaveNone [.ref (ad_n 0)] (wX3_nr ca ad_n ad_y ad_b ad_r (ad_r 0) n_order n_weights n_black n_lifts n_begins n_ends n_has n_lifted n_allLifts n_doneAt r_guests r_kinds r_figures r_minutes r_settings r_hooks r_letters r_letterCount) o := by
  refine zRi_of (cc := cX3_howManyHaveNone) (maxL := 3) (by decide) rfl (Nat.le_of_ble_eq_true rfl) ?_
  intro p e s m args below meth c A Q ls ⟨hx, hb, hml, hown, hts, hA, hK, hZ, hS⟩ hret hP hD hl
  have hts := fun w h => hts w (List.mem_cons_of_mem _ h)
  have hown : s.vm.findClass RX3 = some m.cls := hown
  have hl : lv_has ls 3 [(0, .ref (ad_n 0))] := hl
  have hin3 := zin_X3
  have hin5 := zin_X5
  have l4 : ∀ (n4 : Nat) (v1 : Int32) (v2 : Int32), fX3_howManyHaveNone_L4 n_has r_guests n4 v1 v2 = some o → ∀ ls : Array Slot, lv_has ls 3 [(0, .ref (ad_n 0)), (1, .int v1), (2, .int v2)] → W p l e roX3_howManyHaveNone s m args below meth c s.heap [] 0 0 Q (F0 m 4 ls []) := by
    intro n4
    induction n4 with
    | zero =>
      intro v1 v2 hF
      rw [fX3_howManyHaveNone_L4] at hF
      cases hF
    | succ n4 ih4 =>
      have j29 : ∀ (v1 : Int32) (v2 : Int32), fX3_howManyHaveNone_J29 (fX3_howManyHaveNone_L4 n_has r_guests n4) v1 v2 = some o → ∀ ls : Array Slot, lv_has ls 3 [(0, .ref (ad_n 0)), (1, .int v1), (2, .int v2)] → W p l e roX3_howManyHaveNone s m args below meth c s.heap [] 0 0 Q (F0 m 29 ls []) := by
        intro v1 v2 hF ls hl
        unfold fX3_howManyHaveNone_J29 at hF
        refine z_iinc (kv := 1) hx hb 2 dX3_howManyHaveNone_29 hl rfl (by decide) (by decide) (fun g => [(2, .int g), (0, .ref (ad_n 0)), (1, .int v1)]) (fun _ => rfl) hF (fun v2_5 ls hF hl => ?_)
        refine lv_goto (tgt := 4) hx hb dX3_howManyHaveNone_32 (by decide) ?_
        exact ih4 v1 v2_5 hF ls (lv_sub hl [1, 2, 0] rfl)
      intro v1 v2 hF ls hl
      rw [fX3_howManyHaveNone_L4] at hF
      refine lv_iload_n hx hb dX3_howManyHaveNone_4 rfl (lv_at hl 2 rfl) ?_
      refine lv_aload_n hx hb dX3_howManyHaveNone_5 rfl (lv_at hl 0 rfl) ?_
      refine va_get (D := D) (ci := 2) (v := .ref (ad_r 0)) (C := RX3) (T := TX3) (N := 15) hx hb hts hin3 hown hK hP 0 rfl rfl 0 (by decide) (hts _ zm_343) (fun _ h9 => h9) rfl dX3_howManyHaveNone_6 ?_
      refine va_get (D := D) (ci := 3) (v := .int r_guests) (C := RX5) (T := TX5) (N := 8) hx hb hts hin5 hown hK hP 9 rfl rfl 0 (by decide) (hts _ zm_344) (fun _ h9 => h9) rfl dX3_howManyHaveNone_9 ?_
      refine lv_icmp_ge (tgt := 35) hx hb dX3_howManyHaveNone_12 (by decide) (fun c_1 => ?_) (fun c_1 => ?_)
      · have hF := zt c_1 hF
        refine lv_iload_n hx hb dX3_howManyHaveNone_35 rfl (lv_at hl 1 rfl) ?_
        obtain rfl := Option.some.inj hF
        exact hret _ _ rfl dX3_howManyHaveNone_36
      · have hF := zf c_1 hF
        refine lv_aload_n hx hb dX3_howManyHaveNone_15 rfl (lv_at hl 0 rfl) ?_
        refine va_get (D := D) (ci := 2) (v := .ref (ad_n 7)) (C := RX3) (T := TX3) (N := 15) hx hb hts hin3 hown hK hP 0 rfl rfl 11 (by decide) (hts _ zm_366) (fun _ h9 => h9) rfl dX3_howManyHaveNone_16 ?_
        refine lv_iload_n hx hb dX3_howManyHaveNone_19 rfl (lv_at hl 2 rfl) ?_
        obtain ⟨h_2, hF⟩ := zgi hF
        refine va_iald hx hb hK hP 7 0 rfl rfl h_2 dX3_howManyHaveNone_20 ?_
        refine lv_bipush (v := (-4)) hx hb dX3_howManyHaveNone_21 (by decide) ?_
        refine lv_icmp_ne (tgt := 29) hx hb dX3_howManyHaveNone_23 (by decide) (fun c_3 => ?_) (fun c_3 => ?_)
        · have hF := zf c_3 hF
          exact j29 v1 v2 hF ls (lv_sub hl [0, 1, 2] rfl)
        · have hF := zt c_3 hF
          refine z_iinc (kv := 1) hx hb 1 dX3_howManyHaveNone_26 hl rfl (by decide) (by decide) (fun g => [(1, .int g), (0, .ref (ad_n 0)), (2, .int v2)]) (fun _ => rfl) hF (fun v1_4 ls hF hl => ?_)
          exact j29 v1_4 v2 hF ls (lv_sub hl [1, 0, 2] rfl)
  unfold fX3_howManyHaveNone at hF
  refine lv_iconst (v := 0) hx hb dX3_howManyHaveNone_0 (by decide) ?_
  refine lv_istore_n (lv' := [(1, .int 0), (0, .ref (ad_n 0))]) hx hb dX3_howManyHaveNone_1 rfl hl (by decide) rfl (fun ls hl => ?_)
  refine lv_iconst (v := 0) hx hb dX3_howManyHaveNone_2 (by decide) ?_
  refine lv_istore_n (lv' := [(2, .int 0), (1, .int 0), (0, .ref (ad_n 0))]) hx hb dX3_howManyHaveNone_3 rfl hl (by decide) rfl (fun ls hl => ?_)
  exact l4 fuel 0 0 hF ls (lv_sub hl [2, 1, 0] rfl)
abbrev roX3_lastEnd : Room := { frames := 1, cells := 0, slots := 0, locals := 24 }
set_option maxHeartbeats 4000000 in
set_option maxRecDepth 100000 in
theorem kX3_lastEnd (l : Launch) (D : va_G) (ca : Nat → ClassId) (t : Nat → Nat) (ad_n : Nat → Nat) (ad_y : Nat → Nat) (ad_b : Nat → Nat) (ad_r : Nat → Nat) (n_order : Nat → Int32) (n_weights : Nat → Int32) (n_black : Nat → Int32) (n_lifts : Nat → Int32) (n_begins : Nat → Int32) (n_ends : Nat → Int32) (n_has : Nat → Int32) (n_lifted : Nat → Int32) (n_allLifts : Int32) (n_doneAt : Int32) (r_guests : Int32) (r_kinds : Nat → Int32) (r_figures : Nat → Int32) (r_minutes : Nat → Int32) (r_settings : Nat → Int32) (r_hooks : Int32) (r_letters : Nat → Int32) (r_letterCount : Int32) (fuel : Nat) (o : Int32) (hF : fX3_lastEnd fuel n_ends r_guests = some o) : zRi l D (zT ca) t yX3_lastEnd (.code yX3_lastEnd cX3_lastEnd 3 (some .int) :: zW) roX3_lastEnd [.ref (ad_n 0)] (wX3_nr ca ad_n ad_y ad_b ad_r (ad_r 0) n_order n_weights n_black n_lifts n_begins n_ends n_has n_lifted n_allLifts n_doneAt r_guests r_kinds r_figures r_minutes r_settings r_hooks r_letters r_letterCount) o := by
  refine zRi_of (cc := cX3_lastEnd) (maxL := 3) (by decide) rfl (Nat.le_of_ble_eq_true rfl) ?_
  intro p e s m args below meth c A Q ls ⟨hx, hb, hml, hown, hts, hA, hK, hZ, hS⟩ hret hP hD hl
  have hts := fun w h => hts w (List.mem_cons_of_mem _ h)
  have hown : s.vm.findClass RX3 = some m.cls := hown
  have hl : lv_has ls 3 [(0, .ref (ad_n 0))] := hl
  have hin3 := zin_X3
  have hin5 := zin_X5
  have l4 : ∀ (n4 : Nat) (v1 : Int32) (v2 : Int32), fX3_lastEnd_L4 n_ends r_guests n4 v1 v2 = some o → ∀ ls : Array Slot, lv_has ls 3 [(0, .ref (ad_n 0)), (1, .int v1), (2, .int v2)] → W p l e roX3_lastEnd s m args below meth c s.heap [] 0 0 Q (F0 m 4 ls []) := by
    intro n4
    induction n4 with
    | zero =>
      intro v1 v2 hF
      rw [fX3_lastEnd_L4] at hF
      cases hF
    | succ n4 ih4 =>
      intro v1 v2 hF ls hl
      rw [fX3_lastEnd_L4] at hF
      refine lv_iload_n hx hb dX3_lastEnd_4 rfl (lv_at hl 2 rfl) ?_
      refine lv_aload_n hx hb dX3_lastEnd_5 rfl (lv_at hl 0 rfl) ?_
      refine va_get (D := D) (ci := 2) (v := .ref (ad_r 0)) (C := RX3) (T := TX3) (N := 15) hx hb hts hin3 hown hK hP 0 rfl rfl 0 (by decide) (hts _ zm_343) (fun _ h9 => h9) rfl dX3_lastEnd_6 ?_
      refine va_get (D := D) (ci := 3) (v := .int r_guests) (C := RX5) (T := TX5) (N := 8) hx hb hts hin5 hown hK hP 9 rfl rfl 0 (by decide) (hts _ zm_344) (fun _ h9 => h9) rfl dX3_lastEnd_9 ?_
      refine lv_icmp_ge (tgt := 32) hx hb dX3_lastEnd_12 (by decide) (fun c_1 => ?_) (fun c_1 => ?_)
      · have hF := zt c_1 hF
        refine lv_iload_n hx hb dX3_lastEnd_32 rfl (lv_at hl 1 rfl) ?_
        obtain rfl := Option.some.inj hF
        exact hret _ _ rfl dX3_lastEnd_33
      · have hF := zf c_1 hF
        refine lv_iload_n hx hb dX3_lastEnd_15 rfl (lv_at hl 1 rfl) ?_
        refine lv_aload_n hx hb dX3_lastEnd_16 rfl (lv_at hl 0 rfl) ?_
        refine va_get (D := D) (ci := 2) (v := .ref (ad_n 6)) (C := RX3) (T := TX3) (N := 15) hx hb hts hin3 hown hK hP 0 rfl rfl 10 (by decide) (hts _ zm_367) (fun _ h9 => h9) rfl dX3_lastEnd_17 ?_
        refine lv_iload_n hx hb dX3_lastEnd_20 rfl (lv_at hl 2 rfl) ?_
        obtain ⟨h_2, hF⟩ := zgi hF
        refine va_iald hx hb hK hP 6 0 rfl rfl h_2 dX3_lastEnd_21 ?_
        refine va_mmax hx hb (hml.trans hl.1.symm) hown (hts _ zm_368) (hts _ zm_22) (hts _ zm_23) (hts _ zm_24) (Nat.le_of_ble_eq_true rfl) (Nat.le_of_ble_eq_true rfl) (Nat.zero_le _) (Nat.zero_le _) dX3_lastEnd_22 ?_
        refine z_let hF (fun x_3 hF => ?_)
        refine lv_istore_n (lv' := [(1, .int x_3), (0, .ref (ad_n 0)), (2, .int v2)]) hx hb dX3_lastEnd_25 rfl hl (by decide) rfl (fun ls hl => ?_)
        refine z_iinc (kv := 1) hx hb 2 dX3_lastEnd_26 hl rfl (by decide) (by decide) (fun g => [(2, .int g), (1, .int x_3), (0, .ref (ad_n 0))]) (fun _ => rfl) hF (fun v2_4 ls hF hl => ?_)
        refine lv_goto (tgt := 4) hx hb dX3_lastEnd_29 (by decide) ?_
        exact ih4 x_3 v2_4 hF ls (lv_sub hl [2, 1, 0] rfl)
  unfold fX3_lastEnd at hF
  refine lv_iconst (v := 0) hx hb dX3_lastEnd_0 (by decide) ?_
  refine lv_istore_n (lv' := [(1, .int 0), (0, .ref (ad_n 0))]) hx hb dX3_lastEnd_1 rfl hl (by decide) rfl (fun ls hl => ?_)
  refine lv_iconst (v := 0) hx hb dX3_lastEnd_2 (by decide) ?_
  refine lv_istore_n (lv' := [(2, .int 0), (1, .int 0), (0, .ref (ad_n 0))]) hx hb dX3_lastEnd_3 rfl hl (by decide) rfl (fun ls hl => ?_)
  exact l4 fuel 0 0 hF ls (lv_sub hl [2, 1, 0] rfl)
abbrev roX3_stepsRound : Room := { frames := 0, cells := 0, slots := 0, locals := 0 }
set_option maxHeartbeats 4000000 in
set_option maxRecDepth 100000 in
theorem kX3_stepsRound (l : Launch) (D : va_G) (ca : Nat → ClassId) (t : Nat → Nat) (ad_n : Nat → Nat) (ad_y : Nat → Nat) (ad_b : Nat → Nat) (ad_r : Nat → Nat) (n_order : Nat → Int32) (n_weights : Nat → Int32) (n_black : Nat → Int32) (n_lifts : Nat → Int32) (n_begins : Nat → Int32) (n_ends : Nat → Int32) (n_has : Nat → Int32) (n_lifted : Nat → Int32) (n_allLifts : Int32) (n_doneAt : Int32) (r_guests : Int32) (r_kinds : Nat → Int32) (r_figures : Nat → Int32) (r_minutes : Nat → Int32) (r_settings : Nat → Int32) (r_hooks : Int32) (r_letters : Nat → Int32) (r_letterCount : Int32) (p1 : Int32) (fuel : Nat) (o : Int32) (hF : fX3_stepsRound fuel n_has r_guests p1 = some o) : zRi l D (zT ca) t yX3_stepsRound (.code yX3_stepsRound cX3_stepsRound 4 (some .int) :: zW) roX3_stepsRound [.ref (ad_n 0), .int p1] (wX3_nr ca ad_n ad_y ad_b ad_r (ad_r 0) n_order n_weights n_black n_lifts n_begins n_ends n_has n_lifted n_allLifts n_doneAt r_guests r_kinds r_figures r_minutes r_settings r_hooks r_letters r_letterCount) o := by
  refine zRi_of (cc := cX3_stepsRound) (maxL := 4) (by decide) rfl (Nat.le_of_ble_eq_true rfl) ?_
  intro p e s m args below meth c A Q ls ⟨hx, hb, hml, hown, hts, hA, hK, hZ, hS⟩ hret hP hD hl
  have hts := fun w h => hts w (List.mem_cons_of_mem _ h)
  have hown : s.vm.findClass RX3 = some m.cls := hown
  have hl : lv_has ls 4 [(0, .ref (ad_n 0)), (1, .int p1)] := hl
  have hin3 := zin_X3
  have hin5 := zin_X5
  have l4 : ∀ (n4 : Nat) (v2 : Int32) (v3 : Int32), fX3_stepsRound_L4 n_has r_guests p1 n4 v2 v3 = some o → ∀ ls : Array Slot, lv_has ls 4 [(0, .ref (ad_n 0)), (1, .int p1), (2, .int v2), (3, .int v3)] → W p l e roX3_stepsRound s m args below meth c s.heap [] 0 0 Q (F0 m 4 ls []) := by
    intro n4
    induction n4 with
    | zero =>
      intro v2 v3 hF
      rw [fX3_stepsRound_L4] at hF
      cases hF
    | succ n4 ih4 =>
      intro v2 v3 hF ls hl
      rw [fX3_stepsRound_L4] at hF
      refine lv_iload_n hx hb dX3_stepsRound_4 rfl (lv_at hl 3 rfl) ?_
      refine lv_aload_n hx hb dX3_stepsRound_5 rfl (lv_at hl 0 rfl) ?_
      refine va_get (D := D) (ci := 2) (v := .ref (ad_r 0)) (C := RX3) (T := TX3) (N := 15) hx hb hts hin3 hown hK hP 0 rfl rfl 0 (by decide) (hts _ zm_343) (fun _ h9 => h9) rfl dX3_stepsRound_6 ?_
      refine va_get (D := D) (ci := 3) (v := .int r_guests) (C := RX5) (T := TX5) (N := 8) hx hb hts hin5 hown hK hP 9 rfl rfl 0 (by decide) (hts _ zm_344) (fun _ h9 => h9) rfl dX3_stepsRound_9 ?_
      refine lv_icmp_gt (tgt := 43) hx hb dX3_stepsRound_12 (by decide) (fun c_1 => ?_) (fun c_1 => ?_)
      · have hF := zt c_1 hF
        refine lv_iconst (v := 0) hx hb dX3_stepsRound_43 (by decide) ?_
        obtain rfl := Option.some.inj hF
        exact hret _ _ rfl dX3_stepsRound_44
      · have hF := zf c_1 hF
        refine lv_aload_n hx hb dX3_stepsRound_15 rfl (lv_at hl 0 rfl) ?_
        refine va_get (D := D) (ci := 2) (v := .ref (ad_n 7)) (C := RX3) (T := TX3) (N := 15) hx hb hts hin3 hown hK hP 0 rfl rfl 11 (by decide) (hts _ zm_366) (fun _ h9 => h9) rfl dX3_stepsRound_16 ?_
        refine lv_iload_n hx hb dX3_stepsRound_19 rfl (lv_at hl 2 rfl) ?_
        obtain ⟨h_2, hF⟩ := zgi hF
        refine va_iald hx hb hK hP 7 0 rfl rfl h_2 dX3_stepsRound_20 ?_
        refine z_let hF (fun v2_3 hF => ?_)
        refine lv_istore_n (lv' := [(2, .int v2_3), (0, .ref (ad_n 0)), (1, .int p1), (3, .int v3)]) hx hb dX3_stepsRound_21 rfl hl (by decide) rfl (fun ls hl => ?_)
        refine lv_iload_n hx hb dX3_stepsRound_22 rfl (lv_at hl 0 rfl) ?_
        refine lv_bipush (v := (-4)) hx hb dX3_stepsRound_23 (by decide) ?_
        refine lv_icmp_ne (tgt := 30) hx hb dX3_stepsRound_25 (by decide) (fun c_4 => ?_) (fun c_4 => ?_)
        · have hF := zf c_4 hF
          refine lv_iload_n hx hb dX3_stepsRound_30 rfl (lv_at hl 0 rfl) ?_
          refine lv_iload_n hx hb dX3_stepsRound_31 rfl (lv_at hl 2 rfl) ?_
          refine lv_icmp_ne (tgt := 37) hx hb dX3_stepsRound_32 (by decide) (fun c_5 => ?_) (fun c_5 => ?_)
          · have hF := zf c_5 hF
            refine z_iinc (kv := 1) hx hb 3 dX3_stepsRound_37 hl rfl (by decide) (by decide) (fun g => [(3, .int g), (2, .int v2_3), (0, .ref (ad_n 0)), (1, .int p1)]) (fun _ => rfl) hF (fun v3_6 ls hF hl => ?_)
            refine lv_goto (tgt := 4) hx hb dX3_stepsRound_40 (by decide) ?_
            exact ih4 v2_3 v3_6 hF ls (lv_sub hl [2, 3, 1, 0] rfl)
          · have hF := zt c_5 hF
            refine lv_iload_n hx hb dX3_stepsRound_35 rfl (lv_at hl 3 rfl) ?_
            obtain rfl := Option.some.inj hF
            exact hret _ _ rfl dX3_stepsRound_36
        · have hF := zt c_4 hF
          refine lv_iconst (v := 0) hx hb dX3_stepsRound_28 (by decide) ?_
          obtain rfl := Option.some.inj hF
          exact hret _ _ rfl dX3_stepsRound_29
  unfold fX3_stepsRound at hF
  refine lv_iload_n hx hb dX3_stepsRound_0 rfl (lv_at hl 1 rfl) ?_
  refine lv_istore_n (lv' := [(2, .int p1), (0, .ref (ad_n 0)), (1, .int p1)]) hx hb dX3_stepsRound_1 rfl hl (by decide) rfl (fun ls hl => ?_)
  refine lv_iconst (v := 1) hx hb dX3_stepsRound_2 (by decide) ?_
  refine lv_istore_n (lv' := [(3, .int 1), (2, .int p1), (0, .ref (ad_n 0)), (1, .int p1)]) hx hb dX3_stepsRound_3 rfl hl (by decide) rfl (fun ls hl => ?_)
  exact l4 fuel p1 1 hF ls (lv_sub hl [2, 3, 1, 0] rfl)
theorem zds_X1_isBlack : yX1_isBlack.cls ≠ "java/lang/invoke/MethodHandle" ∧ yX1_isBlack.cls ≠ "java/lang/invoke/VarHandle" ∧ (parseMethodDescriptor yX1_isBlack.desc).map (fun d => d.parameters.length) = some 1 := by decide +kernel
theorem zdv_X3_sortByGoing : yX3_sortByGoing.cls = RX3 ∧ yX3_sortByGoing.cls ≠ "java/lang/invoke/MethodHandle" ∧ yX3_sortByGoing.cls ≠ "java/lang/invoke/VarHandle" ∧ (parseMethodDescriptor yX3_sortByGoing.desc).map (fun d => d.parameters.length) = some 0 := by decide +kernel
theorem zdv_X5_goingMinute : yX5_goingMinute.cls = RX5 ∧ yX5_goingMinute.cls ≠ "java/lang/invoke/MethodHandle" ∧ yX5_goingMinute.cls ≠ "java/lang/invoke/VarHandle" ∧ (parseMethodDescriptor yX5_goingMinute.desc).map (fun d => d.parameters.length) = some 1 := by decide +kernel
abbrev roX3_begin : Room := { frames := 3, cells := 0, slots := 0, locals := 67 }
set_option maxHeartbeats 4000000 in
set_option maxRecDepth 100000 in
theorem kX3_begin (l : Launch) (D : va_G) (ca : Nat → ClassId) (t : Nat → Nat) (ad_n : Nat → Nat) (ad_y : Nat → Nat) (ad_b : Nat → Nat) (ad_r : Nat → Nat) (n_room : Nat) (n_order : Nat → Int32) (n_weights : Nat → Int32) (n_black : Nat → Int32) (n_lifts : Nat → Int32) (n_begins : Nat → Int32) (n_ends : Nat → Int32) (n_has : Nat → Int32) (n_lifted : Nat → Int32) (n_allLifts : Int32) (n_doneAt : Int32) (y_going : Nat → Int32) (y_coming : Nat → Int32) (y_holds : Int32) (y_latest : Int32) (r_guests : Int32) (r_kinds : Nat → Int32) (r_figures : Nat → Int32) (r_minutes : Nat → Int32) (r_settings : Nat → Int32) (r_hooks : Int32) (r_letters : Nat → Int32) (r_letterCount : Int32) (fuel : Nat) (o : (Nat → Int32) × (Nat → Int32) × (Nat → Int32) × (Nat → Int32) × (Nat → Int32)) (hF : fX3_begin fuel n_order n_weights n_black y_going y_coming r_guests r_kinds r_figures r_minutes = some o) : zMv l D (zT ca) t yX3_begin (.code yX3_begin cX3_begin 3 none :: zW) roX3_begin [.ref (ad_n 0), .ref (ad_r 0)] (wX3_nyr ca ad_n ad_y ad_b ad_r n_room n_order n_weights n_black n_lifts n_begins n_ends n_has n_lifted n_allLifts n_doneAt y_going y_coming y_holds y_latest r_guests r_kinds r_figures r_minutes r_settings r_hooks r_letters r_letterCount) (wX3_nyr ca ad_n ad_y ad_b ad_r (ad_r 0) o.1 o.2.1 o.2.2.1 n_lifts n_begins n_ends n_has n_lifted n_allLifts n_doneAt o.2.2.2.1 o.2.2.2.2 y_holds y_latest r_guests r_kinds r_figures r_minutes r_settings r_hooks r_letters r_letterCount) := by
  refine zMv_of (cc := cX3_begin) (maxL := 3) (by decide) rfl (Nat.le_of_ble_eq_true rfl) ?_
  intro p e s m args below meth c A Q ls ⟨hx, hb, hml, hown, hts, hA, hK, hZ, hS⟩ hret hP hD hl
  have hts := fun w h => hts w (List.mem_cons_of_mem _ h)
  have hown : s.vm.findClass RX3 = some m.cls := hown
  have hl : lv_has ls 3 [(0, .ref (ad_n 0)), (1, .ref (ad_r 0))] := hl
  have hin3 := zin_X3
  have hin5 := zin_X5
  have j77 : ∀ (n_order : Nat → Int32) (n_weights : Nat → Int32) (n_black : Nat → Int32) (y_going : Nat → Int32) (y_coming : Nat → Int32) (H : Heap) (locs : List Loc), fX3_begin_J77 fuel r_guests n_order n_weights n_black y_going y_coming = some o → va_P D vwCl (wX3_nyr ca ad_n ad_y ad_b ad_r (ad_r 0) n_order n_weights n_black n_lifts n_begins n_ends n_has n_lifted n_allLifts n_doneAt y_going y_coming y_holds y_latest r_guests r_kinds r_figures r_minutes r_settings r_hooks r_letters r_letterCount) H → va_D A (wX3_nyr ca ad_n ad_y ad_b ad_r (ad_r 0) n_order n_weights n_black n_lifts n_begins n_ends n_has n_lifted n_allLifts n_doneAt y_going y_coming y_holds y_latest r_guests r_kinds r_figures r_minutes r_settings r_hooks r_letters r_letterCount) → va_S A s.heap H locs → ∀ ls : Array Slot, lv_has ls 3 [(0, .ref (ad_n 0))] → W p l e roX3_begin s m args below meth c H locs 0 0 Q (F0 m 77 ls []) := by
    intro n_order n_weights n_black y_going y_coming H locs hF hP hD hS ls hl
    unfold fX3_begin_J77 at hF
    refine lv_aload_n hx hb dX3_begin_77 rfl (lv_at hl 0 rfl) ?_
    obtain ⟨o_11, hc_11, hF⟩ := zb hF
    refine zcVv (rest := []) (ws' := (wX3_nyr ca ad_n ad_y ad_b ad_r (ad_r 0) o_11 n_weights n_black n_lifts n_begins n_ends n_has n_lifted n_allLifts n_doneAt y_going y_coming y_holds y_latest r_guests r_kinds r_figures r_minutes r_settings r_hooks r_letters r_letterCount)) (kX3_sortByGoing l D ca t ad_n ad_y ad_b ad_r n_order n_weights n_black n_lifts n_begins n_ends n_has n_lifted n_allLifts n_doneAt y_going y_coming y_holds y_latest r_guests r_kinds r_figures r_minutes r_settings r_hooks r_letters r_letterCount fuel _ hc_11) ⟨hx, hb, hml, hown, hts⟩ (zcwV hts zm_565 zm_566 zm_567 zm_568 zm_564 rfl rfl zdv_X3_sortByGoing ⟨Nat.le_of_ble_eq_true rfl, Nat.le_of_ble_eq_true rfl⟩) hA hK hZ hP hD hS [0, 1, 2, 3, 4, 5, 6, 7, 8, 9, 10, 11, 12, 13, 14, 15, 16, 17] [] [0, 1, 2, 3, 4, 5, 6, 7, 8, 9, 10, 11, 12, 13, 14, 15, 16, 17] rfl rfl rfl rfl rfl rfl rfl 2 0 rfl rfl rfl hl.1 (Nat.le_of_ble_eq_true rfl) dX3_begin_78 rfl (fun H locs hP hD hS => ?_)
    obtain rfl := Option.some.inj hF
    exact hret _ _ _ _ hP hD hS dX3_begin_81
  have l7 : ∀ (n7 : Nat) (v2 : Int32) (n_order : Nat → Int32) (n_weights : Nat → Int32) (n_black : Nat → Int32) (y_going : Nat → Int32) (y_coming : Nat → Int32) (H : Heap) (locs : List Loc), fX3_begin_L7 fuel r_guests r_kinds r_figures r_minutes n7 v2 n_order n_weights n_black y_going y_coming = some o → va_P D vwCl (wX3_nyr ca ad_n ad_y ad_b ad_r (ad_r 0) n_order n_weights n_black n_lifts n_begins n_ends n_has n_lifted n_allLifts n_doneAt y_going y_coming y_holds y_latest r_guests r_kinds r_figures r_minutes r_settings r_hooks r_letters r_letterCount) H → va_D A (wX3_nyr ca ad_n ad_y ad_b ad_r (ad_r 0) n_order n_weights n_black n_lifts n_begins n_ends n_has n_lifted n_allLifts n_doneAt y_going y_coming y_holds y_latest r_guests r_kinds r_figures r_minutes r_settings r_hooks r_letters r_letterCount) → va_S A s.heap H locs → ∀ ls : Array Slot, lv_has ls 3 [(0, .ref (ad_n 0)), (2, .int v2)] → W p l e roX3_begin s m args below meth c H locs 0 0 Q (F0 m 7 ls []) := by
    intro n7
    induction n7 with
    | zero =>
      intro v2 n_order n_weights n_black y_going y_coming H locs hF
      rw [fX3_begin_L7] at hF
      cases hF
    | succ n7 ih7 =>
      intro v2 n_order n_weights n_black y_going y_coming H locs hF hP hD hS ls hl
      rw [fX3_begin_L7] at hF
      refine lv_iload_n hx hb dX3_begin_7 rfl (lv_at hl 1 rfl) ?_
      refine lv_aload_n hx hb dX3_begin_8 rfl (lv_at hl 0 rfl) ?_
      refine va_get (D := D) (ci := 2) (v := .ref (ad_r 0)) (C := RX3) (T := TX3) (N := 15) hx hb hts hin3 hown hK hP 0 rfl rfl 0 (by decide) (hts _ zm_343) (fun _ h9 => h9) rfl dX3_begin_9 ?_
      refine va_get (D := D) (ci := 3) (v := .int r_guests) (C := RX5) (T := TX5) (N := 8) hx hb hts hin5 hown hK hP 12 rfl rfl 0 (by decide) (hts _ zm_344) (fun _ h9 => h9) rfl dX3_begin_12 ?_
      refine lv_icmp_ge (tgt := 77) hx hb dX3_begin_15 (by decide) (fun c_1 => ?_) (fun c_1 => ?_)
      · have hF := zt c_1 hF
        exact j77 n_order n_weights n_black y_going y_coming _ _ hF hP hD hS ls (lv_sub hl [0] rfl)
      · have hF := zf c_1 hF
        refine lv_aload_n hx hb dX3_begin_18 rfl (lv_at hl 0 rfl) ?_
        refine va_get (D := D) (ci := 2) (v := .ref (ad_y 1)) (C := RX3) (T := TX3) (N := 15) hx hb hts hin3 hown hK hP 0 rfl rfl 3 (by decide) (hts _ zm_345) (fun _ h9 => h9) rfl dX3_begin_19 ?_
        refine lv_iload_n hx hb dX3_begin_22 rfl (lv_at hl 1 rfl) ?_
        refine lv_aload_n hx hb dX3_begin_23 rfl (lv_at hl 0 rfl) ?_
        refine va_get (D := D) (ci := 2) (v := .ref (ad_r 0)) (C := RX3) (T := TX3) (N := 15) hx hb hts hin3 hown hK hP 0 rfl rfl 0 (by decide) (hts _ zm_343) (fun _ h9 => h9) rfl dX3_begin_24 ?_
        refine lv_iload_n hx hb dX3_begin_27 rfl (lv_at hl 1 rfl) ?_
        obtain ⟨o_2, hc_2, hF⟩ := zb hF
        refine zcVR (rest := [.int v2, .ref (ad_y 1)]) (kX5_goingMinute l D ca t ad_r r_guests r_kinds r_figures r_minutes r_settings r_hooks r_letters r_letterCount v2 fuel _ hc_2) ⟨hx, hb, hml, hown, hts⟩ (zcwV hts zm_555 zm_556 zm_557 zm_387 zm_554 rfl rfl zdv_X5_goingMinute ⟨Nat.le_of_ble_eq_true rfl, Nat.le_of_ble_eq_true rfl⟩) hA hK hZ hP hD hS [12, 13, 14, 15, 16, 17] rfl rfl 3 12 rfl rfl rfl hl.1 (Nat.le_of_ble_eq_true rfl) dX3_begin_28 rfl ?_
        obtain ⟨h_3, hF⟩ := zgi hF
        refine z_iast hx hb hK hP hD hS 10 0 rfl rfl h_3 dX3_begin_31 (fun g => (wX3_nyr ca ad_n ad_y ad_b ad_r (ad_r 0) n_order n_weights n_black n_lifts n_begins n_ends n_has n_lifted n_allLifts n_doneAt g y_coming y_holds y_latest r_guests r_kinds r_figures r_minutes r_settings r_hooks r_letters r_letterCount)) (fun _ => rfl) hF (fun y_going_4 H locs hF hP hD hS => ?_)
        refine lv_aload_n hx hb dX3_begin_32 rfl (lv_at hl 0 rfl) ?_
        refine va_get (D := D) (ci := 2) (v := .ref (ad_n 2)) (C := RX3) (T := TX3) (N := 15) hx hb hts hin3 hown hK hP 0 rfl rfl 6 (by decide) (hts _ zm_362) (fun _ h9 => h9) rfl dX3_begin_33 ?_
        refine lv_iload_n hx hb dX3_begin_36 rfl (lv_at hl 1 rfl) ?_
        refine lv_aload_n hx hb dX3_begin_37 rfl (lv_at hl 0 rfl) ?_
        refine va_get (D := D) (ci := 2) (v := .ref (ad_r 0)) (C := RX3) (T := TX3) (N := 15) hx hb hts hin3 hown hK hP 0 rfl rfl 0 (by decide) (hts _ zm_343) (fun _ h9 => h9) rfl dX3_begin_38 ?_
        refine lv_iload_n hx hb dX3_begin_41 rfl (lv_at hl 1 rfl) ?_
        obtain ⟨o_5, hc_5, hF⟩ := zb hF
        refine zcVR (rest := [.int v2, .ref (ad_n 2)]) (kX5_weightOf l D ca t ad_r r_guests r_kinds r_figures r_minutes r_settings r_hooks r_letters r_letterCount v2 fuel _ hc_5) ⟨hx, hb, hml, hown, hts⟩ (zcwV hts zm_558 zm_404 zm_405 zm_387 zm_402 rfl rfl zdv_X5_weightOf ⟨Nat.le_of_ble_eq_true rfl, Nat.le_of_ble_eq_true rfl⟩) hA hK hZ hP hD hS [12, 13, 14, 15, 16, 17] rfl rfl 3 12 rfl rfl rfl hl.1 (Nat.le_of_ble_eq_true rfl) dX3_begin_42 rfl ?_
        refine z_iast hx hb hK hP hD hS 2 0 rfl rfl h_3 dX3_begin_45 (fun g => (wX3_nyr ca ad_n ad_y ad_b ad_r (ad_r 0) n_order g n_black n_lifts n_begins n_ends n_has n_lifted n_allLifts n_doneAt y_going_4 y_coming y_holds y_latest r_guests r_kinds r_figures r_minutes r_settings r_hooks r_letters r_letterCount)) (fun _ => rfl) hF (fun n_weights_6 H locs hF hP hD hS => ?_)
        refine lv_aload_n hx hb dX3_begin_46 rfl (lv_at hl 0 rfl) ?_
        refine va_get (D := D) (ci := 2) (v := .ref (ad_n 3)) (C := RX3) (T := TX3) (N := 15) hx hb hts hin3 hown hK hP 0 rfl rfl 7 (by decide) (hts _ zm_364) (fun _ h9 => h9) rfl dX3_begin_47 ?_
        refine lv_iload_n hx hb dX3_begin_50 rfl (lv_at hl 1 rfl) ?_
        refine lv_aload_n hx hb dX3_begin_51 rfl (lv_at hl 0 rfl) ?_
        refine va_get (D := D) (ci := 2) (v := .ref (ad_r 0)) (C := RX3) (T := TX3) (N := 15) hx hb hts hin3 hown hK hP 0 rfl rfl 0 (by decide) (hts _ zm_343) (fun _ h9 => h9) rfl dX3_begin_52 ?_
        refine va_get (D := D) (ci := 3) (v := .ref (ad_r 1)) (C := RX5) (T := TX5) (N := 8) hx hb hts hin5 hown hK hP 12 rfl rfl 1 (by decide) (hts _ zm_559) (fun _ h9 => h9) rfl dX3_begin_55 ?_
        refine lv_iload_n hx hb dX3_begin_58 rfl (lv_at hl 1 rfl) ?_
        refine va_iald hx hb hK hP 13 0 rfl rfl h_3 dX3_begin_59 ?_
        obtain ⟨o_7, hc_7, hF⟩ := zb hF
        refine zcSR (rest := [.int v2, .ref (ad_n 3)]) (kX1_isBlack l D ca t (r_kinds v2.toNatClampNeg) fuel _ hc_7) ⟨hx, hb, hml, hown, hts⟩ (zcwS hts zm_562 zm_561 zm_394 zm_560 rfl rfl zds_X1_isBlack ⟨Nat.le_of_ble_eq_true rfl, Nat.le_of_ble_eq_true rfl⟩) hA hK hZ hP hD hS [] rfl rfl rfl hl.1 (Nat.le_of_ble_eq_true rfl) dX3_begin_60 rfl ?_
        refine z_zast hx hb hK hP hD hS 3 1 rfl rfl h_3 dX3_begin_63 (fun g => (wX3_nyr ca ad_n ad_y ad_b ad_r (ad_r 0) n_order n_weights_6 g n_lifts n_begins n_ends n_has n_lifted n_allLifts n_doneAt y_going_4 y_coming y_holds y_latest r_guests r_kinds r_figures r_minutes r_settings r_hooks r_letters r_letterCount)) (fun _ => rfl) hF (fun n_black_8 H locs hF hP hD hS => ?_)
        refine lv_aload_n hx hb dX3_begin_64 rfl (lv_at hl 0 rfl) ?_
        refine va_get (D := D) (ci := 2) (v := .ref (ad_y 2)) (C := RX3) (T := TX3) (N := 15) hx hb hts hin3 hown hK hP 0 rfl rfl 4 (by decide) (hts _ zm_563) (fun _ h9 => h9) rfl dX3_begin_65 ?_
        refine lv_iload_n hx hb dX3_begin_68 rfl (lv_at hl 1 rfl) ?_
        refine lv_iload_n hx hb dX3_begin_69 rfl (lv_at hl 1 rfl) ?_
        refine z_iast hx hb hK hP hD hS 11 0 rfl rfl h_3 dX3_begin_70 (fun g => (wX3_nyr ca ad_n ad_y ad_b ad_r (ad_r 0) n_order n_weights_6 n_black_8 n_lifts n_begins n_ends n_has n_lifted n_allLifts n_doneAt y_going_4 g y_holds y_latest r_guests r_kinds r_figures r_minutes r_settings r_hooks r_letters r_letterCount)) (fun _ => rfl) hF (fun y_coming_9 H locs hF hP hD hS => ?_)
        refine z_iinc (kv := 1) hx hb 1 dX3_begin_71 hl rfl (by decide) (by decide) (fun g => [(2, .int g), (0, .ref (ad_n 0))]) (fun _ => rfl) hF (fun v2_10 ls hF hl => ?_)
        refine lv_goto (tgt := 7) hx hb dX3_begin_74 (by decide) ?_
        exact ih7 v2_10 n_order n_weights_6 n_black_8 y_going_4 y_coming_9 _ _ hF hP hD hS ls (lv_sub hl [1, 0] rfl)
  unfold fX3_begin at hF
  refine lv_aload_n hx hb dX3_begin_0 rfl (lv_at hl 0 rfl) ?_
  refine lv_aload_n hx hb dX3_begin_1 rfl (lv_at hl 1 rfl) ?_
  refine va_put (D := D) (ci := 2) (v := .ref (ad_r 0)) (C := RX3) (T := TX3) (N := 15) hx hb hts hin3 tyX3 tyX3_ok nmX3 hown hK hP hD hS 0 rfl rfl 0 (by decide) (hts _ zm_343) (fun _ h9 => h9) rfl (tyX3_ok 0 (by decide)) rfl rfl (Nat.le_of_ble_eq_true rfl) dX3_begin_2 (fun H locs hP hD hS => ?_)
  have hP : va_P D vwCl (wX3_nyr ca ad_n ad_y ad_b ad_r (ad_r 0) n_order n_weights n_black n_lifts n_begins n_ends n_has n_lifted n_allLifts n_doneAt y_going y_coming y_holds y_latest r_guests r_kinds r_figures r_minutes r_settings r_hooks r_letters r_letterCount) H := hP
  have hD : va_D A (wX3_nyr ca ad_n ad_y ad_b ad_r (ad_r 0) n_order n_weights n_black n_lifts n_begins n_ends n_has n_lifted n_allLifts n_doneAt y_going y_coming y_holds y_latest r_guests r_kinds r_figures r_minutes r_settings r_hooks r_letters r_letterCount) := hD
  refine lv_iconst (v := 0) hx hb dX3_begin_5 (by decide) ?_
  refine lv_istore_n (lv' := [(2, .int 0), (0, .ref (ad_n 0)), (1, .ref (ad_r 0))]) hx hb dX3_begin_6 rfl hl (by decide) rfl (fun ls hl => ?_)
  exact l7 fuel 0 n_order n_weights n_black y_going y_coming _ _ hF hP hD hS ls (lv_sub hl [1, 0] rfl)
