abbrev roX9_fewest : Room := { frames := 6, cells := 0, slots := 0, locals := 135 }
set_option maxHeartbeats 4000000 in
set_option maxRecDepth 100000 in
theorem kX9_fewest (l : Launch) (D : va_G) (ca : Nat → ClassId) (t : Nat → Nat) (ad_s : Nat → Nat) (ad_x : Nat → Nat) (ad_d : Nat → Nat) (ad_p : Nat → Nat) (ad_n : Nat → Nat) (ad_q : Nat → Nat) (ad_t : Nat → Nat) (ad_m : Nat → Nat) (ad_z : Nat → Nat) (ad_c : Nat → Nat) (x_hasPicture : Int32) (d_guests : Int32) (d_kinds : Nat → Int32) (d_figures : Nat → Int32) (d_minutes : Nat → Int32) (d_settings : Nat → Int32) (d_hooks : Int32) (d_letters : Nat → Int32) (d_letterCount : Int32) (q_row : Nat → Int32) (q_firstsLifts : Nat → Int32) (q_othersLifts : Nat → Int32) (q_seed : Int32) (q_found : Int32) (q_foundLifts : Int32) (q_mostLifts : Int32) (q_sumOfLifts : Int32) (q_sumOfMissers : Int32) (m_room : Nat) (m_order : Nat → Int32) (m_weights : Nat → Int32) (m_black : Nat → Int32) (m_lifts : Nat → Int32) (m_begins : Nat → Int32) (m_ends : Nat → Int32) (m_has : Nat → Int32) (m_lifted : Nat → Int32) (m_allLifts : Int32) (m_doneAt : Int32) (z_going : Nat → Int32) (z_coming : Nat → Int32) (z_holds : Int32) (z_latest : Int32) (fuel : Nat) (o : Int32 × (Nat → Int32) × (Nat → Int32) × (Nat → Int32) × (Nat → Int32) × (Nat → Int32) × (Nat → Int32)) (hF : fX9_fewest fuel d_guests d_kinds d_figures d_minutes q_row m_order m_weights m_black z_going z_coming = some o) : zMi l D (zT ca) t yX9_fewest (.code yX9_fewest cX9_fewest 1 (some .int) :: zW) roX9_fewest [.ref (ad_x 0)] (wX9_xdqmz ca ad_s ad_x ad_d ad_p ad_n ad_q ad_t ad_m ad_z ad_c x_hasPicture d_guests d_kinds d_figures d_minutes d_settings d_hooks d_letters d_letterCount q_row q_firstsLifts q_othersLifts q_seed q_found q_foundLifts q_mostLifts q_sumOfLifts q_sumOfMissers m_room m_order m_weights m_black m_lifts m_begins m_ends m_has m_lifted m_allLifts m_doneAt z_going z_coming z_holds z_latest) (wX9_xdqmz ca ad_s ad_x ad_d ad_p ad_n ad_q ad_t ad_m ad_z ad_c x_hasPicture d_guests d_kinds d_figures d_minutes d_settings d_hooks d_letters d_letterCount o.2.1 q_firstsLifts q_othersLifts q_seed q_found q_foundLifts q_mostLifts q_sumOfLifts q_sumOfMissers (ad_d 0) o.2.2.1 o.2.2.2.1 o.2.2.2.2.1 m_lifts m_begins m_ends m_has m_lifted m_allLifts m_doneAt o.2.2.2.2.2.1 o.2.2.2.2.2.2 z_holds z_latest) o.1 := by
  refine zMi_of (cc := cX9_fewest) (maxL := 1) (by decide) rfl (Nat.le_of_ble_eq_true rfl) ?_
  intro p e s m args below meth c A Q ls ⟨hx, hb, hml, hown, hts, hA, hK, hZ, hS⟩ hret hP hD hl
  have hts := fun w h => hts w (List.mem_cons_of_mem _ h)
  have hown : s.vm.findClass RX9 = some m.cls := hown
  have hl : lv_has ls 1 [(0, .ref (ad_x 0))] := hl
  have hin9 := zin_X9
  unfold fX9_fewest at hF
  refine lv_aload_n hx hb dX9_fewest_0 rfl (lv_at hl 0 rfl) ?_
  refine va_get (D := D) (ci := 6) (v := .ref (ad_q 0)) (C := RX9) (T := TX9) (N := 6) hx hb hts hin9 hown hK hP 0 rfl rfl 5 (by decide) (hts _ zm_663) (fun _ h9 => h9) rfl dX9_fewest_1 ?_
  refine lv_aload_n hx hb dX9_fewest_4 rfl (lv_at hl 0 rfl) ?_
  refine va_get (D := D) (ci := 6) (v := .ref (ad_d 0)) (C := RX9) (T := TX9) (N := 6) hx hb hts hin9 hown hK hP 0 rfl rfl 0 (by decide) (hts _ zm_3) (fun _ h9 => h9) rfl dX9_fewest_5 ?_
  obtain ⟨o_1, hc_1, hF⟩ := zb hF
  refine zcVi (rest := []) (ws' := (wX9_xdqmz ca ad_s ad_x ad_d ad_p ad_n ad_q ad_t ad_m ad_z ad_c x_hasPicture d_guests d_kinds d_figures d_minutes d_settings d_hooks d_letters d_letterCount o_1.2.1 q_firstsLifts q_othersLifts q_seed q_found q_foundLifts q_mostLifts q_sumOfLifts q_sumOfMissers (ad_d 0) o_1.2.2.1 o_1.2.2.2.1 o_1.2.2.2.2.1 m_lifts m_begins m_ends m_has m_lifted m_allLifts m_doneAt o_1.2.2.2.2.2.1 o_1.2.2.2.2.2.2 z_holds z_latest)) (kX8_fewestHeaps l D ca t ad_q ad_t ad_m ad_z ad_c ad_d q_row q_firstsLifts q_othersLifts q_seed q_found q_foundLifts q_mostLifts q_sumOfLifts q_sumOfMissers m_room m_order m_weights m_black m_lifts m_begins m_ends m_has m_lifted m_allLifts m_doneAt z_going z_coming z_holds z_latest d_guests d_kinds d_figures d_minutes d_settings d_hooks d_letters d_letterCount fuel _ hc_1) ⟨hx, hb, hml, hown, hts⟩ (zcwV hts zm_664 zm_661 zm_662 zm_658 zm_659 rfl rfl zdv_X8_fewestHeaps ⟨Nat.le_of_ble_eq_true rfl, Nat.le_of_ble_eq_true rfl⟩) hA hK hZ hP hD hS [8, 9, 10, 11, 12, 13, 14, 15, 16, 17, 18, 19, 20, 21, 22, 23, 2, 3, 4, 5, 6, 7] [0, 1] [0, 1, 18, 19, 20, 21, 22, 23, 2, 3, 4, 5, 6, 7, 8, 9, 10, 11, 12, 13, 14, 15, 16, 17] rfl rfl rfl rfl rfl rfl rfl 5 8 rfl rfl rfl hl.1 (Nat.le_of_ble_eq_true rfl) dX9_fewest_8 rfl (fun H locs hP hD hS => ?_)
  obtain rfl := Option.some.inj hF
  exact hret _ _ _ _ hP hD hS rfl dX9_fewest_11
theorem zdv_X8_shownGuest : yX8_shownGuest.cls = RX8 ∧ yX8_shownGuest.cls ≠ "java/lang/invoke/MethodHandle" ∧ yX8_shownGuest.cls ≠ "java/lang/invoke/VarHandle" ∧ (parseMethodDescriptor yX8_shownGuest.desc).map (fun d => d.parameters.length) = some 2 := by decide +kernel
abbrev roX9_shown : Room := { frames := 7, cells := 0, slots := 0, locals := 161 }
set_option maxHeartbeats 4000000 in
set_option maxRecDepth 100000 in
theorem kX9_shown (l : Launch) (D : va_G) (ca : Nat → ClassId) (t : Nat → Nat) (ad_s : Nat → Nat) (ad_x : Nat → Nat) (ad_d : Nat → Nat) (ad_p : Nat → Nat) (ad_n : Nat → Nat) (ad_q : Nat → Nat) (ad_t : Nat → Nat) (ad_m : Nat → Nat) (ad_z : Nat → Nat) (ad_c : Nat → Nat) (x_hasPicture : Int32) (d_guests : Int32) (d_kinds : Nat → Int32) (d_figures : Nat → Int32) (d_minutes : Nat → Int32) (d_settings : Nat → Int32) (d_hooks : Int32) (d_letters : Nat → Int32) (d_letterCount : Int32) (q_row : Nat → Int32) (q_firstsLifts : Nat → Int32) (q_othersLifts : Nat → Int32) (q_seed : Int32) (q_found : Int32) (q_foundLifts : Int32) (q_mostLifts : Int32) (q_sumOfLifts : Int32) (q_sumOfMissers : Int32) (m_room : Nat) (m_order : Nat → Int32) (m_weights : Nat → Int32) (m_black : Nat → Int32) (m_lifts : Nat → Int32) (m_begins : Nat → Int32) (m_ends : Nat → Int32) (m_has : Nat → Int32) (m_lifted : Nat → Int32) (m_allLifts : Int32) (m_doneAt : Int32) (z_going : Nat → Int32) (z_coming : Nat → Int32) (z_holds : Int32) (z_latest : Int32) (p1 : Int32) (fuel : Nat) (o : Int32 × (Nat → Int32) × Nat × (Nat → Int32) × (Nat → Int32) × (Nat → Int32) × (Nat → Int32) × (Nat → Int32)) (hF : fX9_shown fuel d_guests d_kinds d_figures d_minutes q_row m_room m_order m_weights m_black z_going z_coming ad_d p1 = some o) : zMi l D (zT ca) t yX9_shown (.code yX9_shown cX9_shown 2 (some .int) :: zW) roX9_shown [.ref (ad_x 0), .int p1] (wX9_xdqmz ca ad_s ad_x ad_d ad_p ad_n ad_q ad_t ad_m ad_z ad_c x_hasPicture d_guests d_kinds d_figures d_minutes d_settings d_hooks d_letters d_letterCount q_row q_firstsLifts q_othersLifts q_seed q_found q_foundLifts q_mostLifts q_sumOfLifts q_sumOfMissers m_room m_order m_weights m_black m_lifts m_begins m_ends m_has m_lifted m_allLifts m_doneAt z_going z_coming z_holds z_latest) (wX9_xdqmz ca ad_s ad_x ad_d ad_p ad_n ad_q ad_t ad_m ad_z ad_c x_hasPicture d_guests d_kinds d_figures d_minutes d_settings d_hooks d_letters d_letterCount o.2.1 q_firstsLifts q_othersLifts q_seed q_found q_foundLifts q_mostLifts q_sumOfLifts q_sumOfMissers o.2.2.1 o.2.2.2.1 o.2.2.2.2.1 o.2.2.2.2.2.1 m_lifts m_begins m_ends m_has m_lifted m_allLifts m_doneAt o.2.2.2.2.2.2.1 o.2.2.2.2.2.2.2 z_holds z_latest) o.1 := by
  refine zMi_of (cc := cX9_shown) (maxL := 2) (by decide) rfl (Nat.le_of_ble_eq_true rfl) ?_
  intro p e s m args below meth c A Q ls ⟨hx, hb, hml, hown, hts, hA, hK, hZ, hS⟩ hret hP hD hl
  have hts := fun w h => hts w (List.mem_cons_of_mem _ h)
  have hown : s.vm.findClass RX9 = some m.cls := hown
  have hl : lv_has ls 2 [(0, .ref (ad_x 0)), (1, .int p1)] := hl
  have hin9 := zin_X9
  unfold fX9_shown at hF
  refine lv_iload_n hx hb dX9_shown_0 rfl (lv_at hl 1 rfl) ?_
  refine lv_if_ge (tgt := 8) hx hb dX9_shown_1 (by decide) (fun c_1 => ?_) (fun c_1 => ?_)
  · have hF := zt c_1 hF
    refine lv_aload_n hx hb dX9_shown_8 rfl (lv_at hl 0 rfl) ?_
    refine va_get (D := D) (ci := 6) (v := .ref (ad_q 0)) (C := RX9) (T := TX9) (N := 6) hx hb hts hin9 hown hK hP 0 rfl rfl 5 (by decide) (hts _ zm_663) (fun _ h9 => h9) rfl dX9_shown_9 ?_
    refine lv_aload_n hx hb dX9_shown_12 rfl (lv_at hl 0 rfl) ?_
    refine va_get (D := D) (ci := 6) (v := .ref (ad_d 0)) (C := RX9) (T := TX9) (N := 6) hx hb hts hin9 hown hK hP 0 rfl rfl 0 (by decide) (hts _ zm_3) (fun _ h9 => h9) rfl dX9_shown_13 ?_
    refine lv_iload_n hx hb dX9_shown_16 rfl (lv_at hl 1 rfl) ?_
    obtain ⟨o_2, hc_2, hF⟩ := zb hF
    refine zcVi (rest := []) (ws' := (wX9_xdqmz ca ad_s ad_x ad_d ad_p ad_n ad_q ad_t ad_m ad_z ad_c x_hasPicture d_guests d_kinds d_figures d_minutes d_settings d_hooks d_letters d_letterCount o_2.2.1 q_firstsLifts q_othersLifts q_seed q_found q_foundLifts q_mostLifts q_sumOfLifts q_sumOfMissers (ad_d 0) o_2.2.2.1 o_2.2.2.2.1 o_2.2.2.2.2.1 m_lifts m_begins m_ends m_has m_lifted m_allLifts m_doneAt o_2.2.2.2.2.2.1 o_2.2.2.2.2.2.2 z_holds z_latest)) (kX8_shownGuest l D ca t ad_q ad_t ad_m ad_z ad_c ad_d q_row q_firstsLifts q_othersLifts q_seed q_found q_foundLifts q_mostLifts q_sumOfLifts q_sumOfMissers m_room m_order m_weights m_black m_lifts m_begins m_ends m_has m_lifted m_allLifts m_doneAt z_going z_coming z_holds z_latest d_guests d_kinds d_figures d_minutes d_settings d_hooks d_letters d_letterCount p1 fuel _ hc_2) ⟨hx, hb, hml, hown, hts⟩ (zcwV hts zm_666 zm_667 zm_668 zm_658 zm_665 rfl rfl zdv_X8_shownGuest ⟨Nat.le_of_ble_eq_true rfl, Nat.le_of_ble_eq_true rfl⟩) hA hK hZ hP hD hS [8, 9, 10, 11, 12, 13, 14, 15, 16, 17, 18, 19, 20, 21, 22, 23, 2, 3, 4, 5, 6, 7] [0, 1] [0, 1, 18, 19, 20, 21, 22, 23, 2, 3, 4, 5, 6, 7, 8, 9, 10, 11, 12, 13, 14, 15, 16, 17] rfl rfl rfl rfl rfl rfl rfl 5 8 rfl rfl rfl hl.1 (Nat.le_of_ble_eq_true rfl) dX9_shown_17 rfl (fun H locs hP hD hS => ?_)
    obtain rfl := Option.some.inj hF
    exact hret _ _ _ _ hP hD hS rfl dX9_shown_20
  · have hF := zf c_1 hF
    refine lv_iconst (v := (-1)) hx hb dX9_shown_4 (by decide) ?_
    refine lv_goto (tgt := 20) hx hb dX9_shown_5 (by decide) ?_
    obtain rfl := Option.some.inj hF
    exact hret _ _ _ _ hP hD hS rfl dX9_shown_20
abbrev roX9_then : Room := { frames := 5, cells := 0, slots := 0, locals := 117 }
set_option maxHeartbeats 4000000 in
set_option maxRecDepth 100000 in
theorem kX9_then (l : Launch) (D : va_G) (ca : Nat → ClassId) (t : Nat → Nat) (ad_s : Nat → Nat) (ad_x : Nat → Nat) (ad_d : Nat → Nat) (ad_p : Nat → Nat) (ad_n : Nat → Nat) (ad_y : Nat → Nat) (ad_b : Nat → Nat) (ad_q : Nat → Nat) (x_hasPicture : Int32) (d_guests : Int32) (d_kinds : Nat → Int32) (d_figures : Nat → Int32) (d_minutes : Nat → Int32) (d_settings : Nat → Int32) (d_hooks : Int32) (d_letters : Nat → Int32) (d_letterCount : Int32) (n_room : Nat) (n_order : Nat → Int32) (n_weights : Nat → Int32) (n_black : Nat → Int32) (n_lifts : Nat → Int32) (n_begins : Nat → Int32) (n_ends : Nat → Int32) (n_has : Nat → Int32) (n_lifted : Nat → Int32) (n_allLifts : Int32) (n_doneAt : Int32) (y_going : Nat → Int32) (y_coming : Nat → Int32) (y_holds : Int32) (y_latest : Int32) (b_heaps : Int32) (b_piles : Nat → Nat → Int32) (b_heights : Nat → Int32) (b_spots : Nat → Int32) (p1 : Int32) (p2 : Int32) (p3 : Int32) (fuel : Nat) (o : Int32 × Nat × (Nat → Int32) × (Nat → Int32) × (Nat → Int32) × (Nat → Int32) × (Nat → Int32) × (Nat → Int32) × (Nat → Int32) × (Nat → Int32) × Int32 × Int32 × (Nat → Int32) × (Nat → Int32) × Int32 × Int32 × Int32 × (Nat → Nat → Int32) × (Nat → Int32) × (Nat → Int32)) (hF : fX9_then fuel d_guests d_kinds d_figures d_minutes d_settings d_hooks d_letters d_letterCount n_room n_order n_weights n_black n_lifts n_begins n_ends n_has n_lifted n_allLifts n_doneAt y_going y_coming y_holds y_latest b_heaps b_piles b_heights b_spots ad_d p1 p2 p3 = some o) : zMi l D (zT ca) t yX9_then (.code yX9_then cX9_then 4 (some .int) :: zW) roX9_then [.ref (ad_x 0), .int p1, .int p2, .int p3] (wX9_xdnyb ca ad_s ad_x ad_d ad_p ad_n ad_y ad_b ad_q x_hasPicture d_guests d_kinds d_figures d_minutes d_settings d_hooks d_letters d_letterCount n_room n_order n_weights n_black n_lifts n_begins n_ends n_has n_lifted n_allLifts n_doneAt y_going y_coming y_holds y_latest b_heaps b_piles b_heights b_spots) (wX9_xdnyb ca ad_s ad_x ad_d ad_p ad_n ad_y ad_b ad_q x_hasPicture d_guests d_kinds d_figures d_minutes d_settings d_hooks d_letters d_letterCount o.2.1 o.2.2.1 o.2.2.2.1 o.2.2.2.2.1 o.2.2.2.2.2.1 o.2.2.2.2.2.2.1 o.2.2.2.2.2.2.2.1 o.2.2.2.2.2.2.2.2.1 o.2.2.2.2.2.2.2.2.2.1 o.2.2.2.2.2.2.2.2.2.2.1 o.2.2.2.2.2.2.2.2.2.2.2.1 o.2.2.2.2.2.2.2.2.2.2.2.2.1 o.2.2.2.2.2.2.2.2.2.2.2.2.2.1 o.2.2.2.2.2.2.2.2.2.2.2.2.2.2.1 o.2.2.2.2.2.2.2.2.2.2.2.2.2.2.2.1 o.2.2.2.2.2.2.2.2.2.2.2.2.2.2.2.2.1 o.2.2.2.2.2.2.2.2.2.2.2.2.2.2.2.2.2.1 o.2.2.2.2.2.2.2.2.2.2.2.2.2.2.2.2.2.2.1 o.2.2.2.2.2.2.2.2.2.2.2.2.2.2.2.2.2.2.2) o.1 := by
  refine zMi_of (cc := cX9_then) (maxL := 4) (by decide) rfl (Nat.le_of_ble_eq_true rfl) ?_
  intro p e s m args below meth c A Q ls ⟨hx, hb, hml, hown, hts, hA, hK, hZ, hS⟩ hret hP hD hl
  have hts := fun w h => hts w (List.mem_cons_of_mem _ h)
  have hown : s.vm.findClass RX9 = some m.cls := hown
  have hl : lv_has ls 4 [(0, .ref (ad_x 0)), (1, .int p1), (2, .int p2), (3, .int p3)] := hl
  have hin3 := zin_X3
  have hin5 := zin_X5
  have hin9 := zin_X9
  unfold fX9_then at hF
  refine lv_iload_n hx hb dX9_then_0 rfl (lv_at hl 1 rfl) ?_
  refine lv_if_lt (tgt := 26) hx hb dX9_then_1 (by decide) (fun c_1 => ?_) (fun c_1 => ?_)
  · have hF := zt c_1 hF
    refine lv_iconst (v := (-1)) hx hb dX9_then_26 (by decide) ?_
    obtain rfl := Option.some.inj hF
    exact hret _ _ _ _ hP hD hS rfl dX9_then_27
  · have hF := zf c_1 hF
    refine lv_iload_n hx hb dX9_then_4 rfl (lv_at hl 1 rfl) ?_
    refine lv_aload_n hx hb dX9_then_5 rfl (lv_at hl 0 rfl) ?_
    refine va_get (D := D) (ci := 6) (v := .ref (ad_d 0)) (C := RX9) (T := TX9) (N := 6) hx hb hts hin9 hown hK hP 0 rfl rfl 0 (by decide) (hts _ zm_3) (fun _ h9 => h9) rfl dX9_then_6 ?_
    refine va_get (D := D) (ci := 3) (v := .int d_guests) (C := RX5) (T := TX5) (N := 8) hx hb hts hin5 hown hK hP 2 rfl rfl 0 (by decide) (hts _ zm_4) (fun _ h9 => h9) rfl dX9_then_9 ?_
    refine lv_icmp_gt (tgt := 26) hx hb dX9_then_12 (by decide) (fun c_2 => ?_) (fun c_2 => ?_)
    · have hF := zt c_2 hF
      refine lv_iconst (v := (-1)) hx hb dX9_then_26 (by decide) ?_
      obtain rfl := Option.some.inj hF
      exact hret _ _ _ _ hP hD hS rfl dX9_then_27
    · have hF := zf c_2 hF
      refine lv_iload_n hx hb dX9_then_15 rfl (lv_at hl 2 rfl) ?_
      obtain ⟨o_3, hc_3, hF⟩ := zb hF
      refine zcSR (rest := []) (kX9_isHeap l D ca t p2 fuel _ hc_3) ⟨hx, hb, hml, hown, hts⟩ (zcwS hts zm_745 zm_308 zm_7 zm_307 rfl rfl zds_X9_isHeap ⟨Nat.le_of_ble_eq_true rfl, Nat.le_of_ble_eq_true rfl⟩) hA hK hZ hP hD hS [] rfl rfl rfl hl.1 (Nat.le_of_ble_eq_true rfl) dX9_then_16 rfl ?_
      refine lv_if_eq (tgt := 26) hx hb dX9_then_19 (by decide) (fun c_4 => ?_) (fun c_4 => ?_)
      · have hF := zt c_4 hF
        refine lv_iconst (v := (-1)) hx hb dX9_then_26 (by decide) ?_
        obtain rfl := Option.some.inj hF
        exact hret _ _ _ _ hP hD hS rfl dX9_then_27
      · have hF := zf c_4 hF
        refine lv_iload_n hx hb dX9_then_22 rfl (lv_at hl 3 rfl) ?_
        refine lv_if_ge (tgt := 28) hx hb dX9_then_23 (by decide) (fun c_5 => ?_) (fun c_5 => ?_)
        · have hF := zt c_5 hF
          refine lv_aload_n hx hb dX9_then_28 rfl (lv_at hl 0 rfl) ?_
          refine va_get (D := D) (ci := 6) (v := .ref (ad_n 0)) (C := RX9) (T := TX9) (N := 6) hx hb hts hin9 hown hK hP 0 rfl rfl 4 (by decide) (hts _ zm_618) (fun _ h9 => h9) rfl dX9_then_29 ?_
          refine lv_aload_n hx hb dX9_then_32 rfl (lv_at hl 0 rfl) ?_
          refine va_get (D := D) (ci := 6) (v := .ref (ad_d 0)) (C := RX9) (T := TX9) (N := 6) hx hb hts hin9 hown hK hP 0 rfl rfl 0 (by decide) (hts _ zm_3) (fun _ h9 => h9) rfl dX9_then_33 ?_
          obtain ⟨o_6, hc_6, hF⟩ := zb hF
          refine zcVv (rest := []) (ws' := (wX9_xdnyb ca ad_s ad_x ad_d ad_p ad_n ad_y ad_b ad_q x_hasPicture d_guests d_kinds d_figures d_minutes d_settings d_hooks d_letters d_letterCount (ad_d 0) o_6.1 o_6.2.1 o_6.2.2.1 n_lifts n_begins n_ends n_has n_lifted n_allLifts n_doneAt o_6.2.2.2.1 o_6.2.2.2.2 y_holds y_latest b_heaps b_piles b_heights b_spots)) (kX3_begin l D ca t ad_n ad_y ad_b ad_d n_room n_order n_weights n_black n_lifts n_begins n_ends n_has n_lifted n_allLifts n_doneAt y_going y_coming y_holds y_latest d_guests d_kinds d_figures d_minutes d_settings d_hooks d_letters d_letterCount fuel _ hc_6) ⟨hx, hb, hml, hown, hts⟩ (zcwV hts zm_619 zm_604 zm_605 zm_568 zm_602 rfl rfl zdv_X3_begin ⟨Nat.le_of_ble_eq_true rfl, Nat.le_of_ble_eq_true rfl⟩) hA hK hZ hP hD hS [8, 9, 10, 11, 12, 13, 14, 15, 16, 17, 18, 19, 2, 3, 4, 5, 6, 7] [0, 1, 20, 21, 22, 23, 24, 25, 26] [0, 1, 21, 22, 23, 24, 25, 26, 9, 10, 11, 12, 13, 14, 15, 16, 17, 18, 19, 20, 2, 3, 4, 5, 6, 7, 8] rfl rfl rfl rfl rfl rfl rfl 2 8 rfl rfl rfl hl.1 (Nat.le_of_ble_eq_true rfl) dX9_then_36 rfl (fun H locs hP hD hS => ?_)
          refine lv_aload_n hx hb dX9_then_39 rfl (lv_at hl 0 rfl) ?_
          refine va_get (D := D) (ci := 6) (v := .ref (ad_n 0)) (C := RX9) (T := TX9) (N := 6) hx hb hts hin9 hown hK hP 0 rfl rfl 4 (by decide) (hts _ zm_618) (fun _ h9 => h9) rfl dX9_then_40 ?_
          refine va_get (D := D) (ci := 2) (v := .ref (ad_y 0)) (C := RX3) (T := TX3) (N := 15) hx hb hts hin3 hown hK hP 8 rfl rfl 1 (by decide) (hts _ zm_746) (fun _ h9 => h9) rfl dX9_then_43 ?_
          refine lv_aload_n hx hb dX9_then_46 rfl (lv_at hl 0 rfl) ?_
          refine va_get (D := D) (ci := 6) (v := .ref (ad_d 0)) (C := RX9) (T := TX9) (N := 6) hx hb hts hin9 hown hK hP 0 rfl rfl 0 (by decide) (hts _ zm_3) (fun _ h9 => h9) rfl dX9_then_47 ?_
          obtain ⟨o_7, hc_7, hF⟩ := zb hF
          refine zcVv (rest := []) (ws' := (wX9_xdnyb ca ad_s ad_x ad_d ad_p ad_n ad_y ad_b ad_q x_hasPicture d_guests d_kinds d_figures d_minutes d_settings d_hooks d_letters d_letterCount (ad_d 0) o_6.1 o_6.2.1 o_6.2.2.1 n_lifts n_begins n_ends n_has n_lifted n_allLifts n_doneAt o_6.2.2.2.1 o_6.2.2.2.2 o_7.1 o_7.2.1 o_7.2.2.1 o_7.2.2.2.1 o_7.2.2.2.2.1 o_7.2.2.2.2.2)) (kX2_layAll l D ca t ad_y ad_b ad_d o_6.2.2.2.1 o_6.2.2.2.2 y_holds y_latest b_heaps b_piles b_heights b_spots d_guests d_kinds d_figures d_minutes d_settings d_hooks d_letters d_letterCount fuel _ hc_7) ⟨hx, hb, hml, hown, hts⟩ (zcwV hts zm_747 zm_715 zm_716 zm_340 zm_713 rfl rfl zdv_X2_layAll ⟨Nat.le_of_ble_eq_true rfl, Nat.le_of_ble_eq_true rfl⟩) hA hK hZ hP hD hS [17, 18, 19, 20, 21, 22, 23, 24, 25, 26, 2, 3, 4, 5, 6, 7] [0, 1, 8, 9, 10, 11, 12, 13, 14, 15, 16] [0, 1, 21, 22, 23, 24, 25, 26, 2, 3, 4, 5, 6, 7, 8, 9, 10, 11, 12, 13, 14, 15, 16, 17, 18, 19, 20] rfl rfl rfl rfl rfl rfl rfl 1 17 rfl rfl rfl hl.1 (Nat.le_of_ble_eq_true rfl) dX9_then_50 rfl (fun H locs hP hD hS => ?_)
          refine lv_aload_n hx hb dX9_then_53 rfl (lv_at hl 0 rfl) ?_
          refine va_get (D := D) (ci := 6) (v := .ref (ad_n 0)) (C := RX9) (T := TX9) (N := 6) hx hb hts hin9 hown hK hP 0 rfl rfl 4 (by decide) (hts _ zm_618) (fun _ h9 => h9) rfl dX9_then_54 ?_
          refine lv_iload_n hx hb dX9_then_57 rfl (lv_at hl 1 rfl) ?_
          refine lv_bipush (v := (-4)) hx hb dX9_then_58 (by decide) ?_
          obtain ⟨o_8, hc_8, hF⟩ := zb hF
          refine zcVi (rest := []) (ws' := (wX9_xdnyb ca ad_s ad_x ad_d ad_p ad_n ad_y ad_b ad_q x_hasPicture d_guests d_kinds d_figures d_minutes d_settings d_hooks d_letters d_letterCount (ad_d 0) o_6.1 o_6.2.1 o_6.2.2.1 o_8.2.1 o_8.2.2.1 o_8.2.2.2.1 o_8.2.2.2.2.1 o_8.2.2.2.2.2.1 o_8.2.2.2.2.2.2.1 o_8.2.2.2.2.2.2.2.1 o_6.2.2.2.1 o_6.2.2.2.2 o_7.1 o_7.2.1 o_7.2.2.1 o_8.2.2.2.2.2.2.2.2.1 o_8.2.2.2.2.2.2.2.2.2.1 o_8.2.2.2.2.2.2.2.2.2.2)) (kX3_letGo l D ca t ad_n ad_y ad_b ad_d o_6.1 o_6.2.1 o_6.2.2.1 n_lifts n_begins n_ends n_has n_lifted n_allLifts n_doneAt o_6.2.2.2.1 o_6.2.2.2.2 o_7.1 o_7.2.1 o_7.2.2.1 o_7.2.2.2.1 o_7.2.2.2.2.1 o_7.2.2.2.2.2 d_guests d_kinds d_figures d_minutes d_settings d_hooks d_letters d_letterCount p1 (-4) fuel _ hc_8) ⟨hx, hb, hml, hown, hts⟩ (zcwV hts zm_748 zm_703 zm_704 zm_568 zm_701 rfl rfl zdv_X3_letGo ⟨Nat.le_of_ble_eq_true rfl, Nat.le_of_ble_eq_true rfl⟩) hA hK hZ hP hD hS [8, 9, 10, 11, 12, 13, 14, 15, 16, 17, 18, 19, 20, 21, 22, 23, 24, 25, 26, 2, 3, 4, 5, 6, 7] [0, 1] [0, 1, 21, 22, 23, 24, 25, 26, 2, 3, 4, 5, 6, 7, 8, 9, 10, 11, 12, 13, 14, 15, 16, 17, 18, 19, 20] rfl rfl rfl rfl rfl rfl rfl 2 8 rfl rfl rfl hl.1 (Nat.le_of_ble_eq_true rfl) dX9_then_60 rfl (fun H locs hP hD hS => ?_)
          refine lv_pop hx hb dX9_then_63 rfl ?_
          refine lv_aload_n hx hb dX9_then_64 rfl (lv_at hl 0 rfl) ?_
          refine va_get (D := D) (ci := 6) (v := .ref (ad_n 0)) (C := RX9) (T := TX9) (N := 6) hx hb hts hin9 hown hK hP 0 rfl rfl 4 (by decide) (hts _ zm_618) (fun _ h9 => h9) rfl dX9_then_65 ?_
          refine va_get (D := D) (ci := 2) (v := .ref (ad_b 0)) (C := RX3) (T := TX3) (N := 15) hx hb hts hin3 hown hK hP 8 rfl rfl 2 (by decide) (hts _ zm_749) (fun _ h9 => h9) rfl dX9_then_68 ?_
          refine lv_iload_n hx hb dX9_then_71 rfl (lv_at hl 2 rfl) ?_
          refine lv_iload_n hx hb dX9_then_72 rfl (lv_at hl 3 rfl) ?_
          obtain ⟨o_9, hc_9, hF⟩ := zb hF
          refine zcVR (rest := []) (kX0_coatAt l D ca t ad_b o_7.2.2.1 o_8.2.2.2.2.2.2.2.2.1 o_8.2.2.2.2.2.2.2.2.2.1 o_8.2.2.2.2.2.2.2.2.2.2 p2 p3 fuel _ hc_9) ⟨hx, hb, hml, hown, hts⟩ (zcwV hts zm_750 zm_438 zm_439 zm_314 zm_436 rfl rfl zdv_X0_coatAt ⟨Nat.le_of_ble_eq_true rfl, Nat.le_of_ble_eq_true rfl⟩) hA hK hZ hP hD hS [20, 21, 22, 23, 24, 25, 26] rfl rfl 0 20 rfl rfl rfl hl.1 (Nat.le_of_ble_eq_true rfl) dX9_then_73 rfl ?_
          obtain rfl := Option.some.inj hF
          exact hret _ _ _ _ hP hD hS rfl dX9_then_76
        · have hF := zf c_5 hF
          refine lv_iconst (v := (-1)) hx hb dX9_then_26 (by decide) ?_
          obtain rfl := Option.some.inj hF
          exact hret _ _ _ _ hP hD hS rfl dX9_then_27
theorem zdv_X8_bestMinuteToTurn : yX8_bestMinuteToTurn.cls = RX8 ∧ yX8_bestMinuteToTurn.cls ≠ "java/lang/invoke/MethodHandle" ∧ yX8_bestMinuteToTurn.cls ≠ "java/lang/invoke/VarHandle" ∧ (parseMethodDescriptor yX8_bestMinuteToTurn.desc).map (fun d => d.parameters.length) = some 1 := by decide +kernel
abbrev roX9_bestTurn : Room := { frames := 7, cells := 0, slots := 0, locals := 163 }
set_option maxHeartbeats 4000000 in
set_option maxRecDepth 100000 in
theorem kX9_bestTurn (l : Launch) (D : va_G) (ca : Nat → ClassId) (t : Nat → Nat) (ad_s : Nat → Nat) (ad_x : Nat → Nat) (ad_d : Nat → Nat) (ad_p : Nat → Nat) (ad_n : Nat → Nat) (ad_q : Nat → Nat) (ad_t : Nat → Nat) (ad_m : Nat → Nat) (ad_z : Nat → Nat) (ad_c : Nat → Nat) (x_hasPicture : Int32) (d_guests : Int32) (d_kinds : Nat → Int32) (d_figures : Nat → Int32) (d_minutes : Nat → Int32) (d_settings : Nat → Int32) (d_hooks : Int32) (d_letters : Nat → Int32) (d_letterCount : Int32) (q_row : Nat → Int32) (q_firstsLifts : Nat → Int32) (q_othersLifts : Nat → Int32) (q_seed : Int32) (q_found : Int32) (q_foundLifts : Int32) (q_mostLifts : Int32) (q_sumOfLifts : Int32) (q_sumOfMissers : Int32) (m_room : Nat) (m_order : Nat → Int32) (m_weights : Nat → Int32) (m_black : Nat → Int32) (m_lifts : Nat → Int32) (m_begins : Nat → Int32) (m_ends : Nat → Int32) (m_has : Nat → Int32) (m_lifted : Nat → Int32) (m_allLifts : Int32) (m_doneAt : Int32) (z_going : Nat → Int32) (z_coming : Nat → Int32) (z_holds : Int32) (z_latest : Int32) (c_heaps : Int32) (c_piles : Nat → Nat → Int32) (c_heights : Nat → Int32) (c_spots : Nat → Int32) (fuel : Nat) (o : Int32 × Int32 × Int32 × (Nat → Int32) × (Nat → Int32) × (Nat → Int32) × (Nat → Int32) × (Nat → Int32) × (Nat → Int32) × (Nat → Int32) × (Nat → Int32) × Int32 × Int32 × (Nat → Int32) × (Nat → Int32) × Int32 × Int32 × Int32 × (Nat → Nat → Int32) × (Nat → Int32) × (Nat → Int32)) (hF : fX9_bestTurn fuel d_guests d_kinds d_figures d_minutes d_settings d_hooks d_letters d_letterCount q_found q_foundLifts m_order m_weights m_black m_lifts m_begins m_ends m_has m_lifted m_allLifts m_doneAt z_going z_coming z_holds z_latest c_heaps c_piles c_heights c_spots = some o) : zMi l D (zT ca) t yX9_bestTurn (.code yX9_bestTurn cX9_bestTurn 1 (some .int) :: zW) roX9_bestTurn [.ref (ad_x 0)] (wX9_xdqmzc ca ad_s ad_x ad_d ad_p ad_n ad_q ad_t ad_m ad_z ad_c x_hasPicture d_guests d_kinds d_figures d_minutes d_settings d_hooks d_letters d_letterCount q_row q_firstsLifts q_othersLifts q_seed q_found q_foundLifts q_mostLifts q_sumOfLifts q_sumOfMissers m_room m_order m_weights m_black m_lifts m_begins m_ends m_has m_lifted m_allLifts m_doneAt z_going z_coming z_holds z_latest c_heaps c_piles c_heights c_spots) (wX9_xdqmzc ca ad_s ad_x ad_d ad_p ad_n ad_q ad_t ad_m ad_z ad_c x_hasPicture d_guests d_kinds d_figures d_minutes d_settings d_hooks d_letters d_letterCount q_row q_firstsLifts q_othersLifts q_seed o.2.1 o.2.2.1 q_mostLifts q_sumOfLifts q_sumOfMissers (ad_d 0) o.2.2.2.1 o.2.2.2.2.1 o.2.2.2.2.2.1 o.2.2.2.2.2.2.1 o.2.2.2.2.2.2.2.1 o.2.2.2.2.2.2.2.2.1 o.2.2.2.2.2.2.2.2.2.1 o.2.2.2.2.2.2.2.2.2.2.1 o.2.2.2.2.2.2.2.2.2.2.2.1 o.2.2.2.2.2.2.2.2.2.2.2.2.1 o.2.2.2.2.2.2.2.2.2.2.2.2.2.1 o.2.2.2.2.2.2.2.2.2.2.2.2.2.2.1 o.2.2.2.2.2.2.2.2.2.2.2.2.2.2.2.1 o.2.2.2.2.2.2.2.2.2.2.2.2.2.2.2.2.1 o.2.2.2.2.2.2.2.2.2.2.2.2.2.2.2.2.2.1 o.2.2.2.2.2.2.2.2.2.2.2.2.2.2.2.2.2.2.1 o.2.2.2.2.2.2.2.2.2.2.2.2.2.2.2.2.2.2.2.1 o.2.2.2.2.2.2.2.2.2.2.2.2.2.2.2.2.2.2.2.2) o.1 := by
  refine zMi_of (cc := cX9_bestTurn) (maxL := 1) (by decide) rfl (Nat.le_of_ble_eq_true rfl) ?_
  intro p e s m args below meth c A Q ls ⟨hx, hb, hml, hown, hts, hA, hK, hZ, hS⟩ hret hP hD hl
  have hts := fun w h => hts w (List.mem_cons_of_mem _ h)
  have hown : s.vm.findClass RX9 = some m.cls := hown
  have hl : lv_has ls 1 [(0, .ref (ad_x 0))] := hl
  have hin9 := zin_X9
  unfold fX9_bestTurn at hF
  refine lv_aload_n hx hb dX9_bestTurn_0 rfl (lv_at hl 0 rfl) ?_
  refine va_get (D := D) (ci := 6) (v := .ref (ad_q 0)) (C := RX9) (T := TX9) (N := 6) hx hb hts hin9 hown hK hP 0 rfl rfl 5 (by decide) (hts _ zm_663) (fun _ h9 => h9) rfl dX9_bestTurn_1 ?_
  refine lv_aload_n hx hb dX9_bestTurn_4 rfl (lv_at hl 0 rfl) ?_
  refine va_get (D := D) (ci := 6) (v := .ref (ad_d 0)) (C := RX9) (T := TX9) (N := 6) hx hb hts hin9 hown hK hP 0 rfl rfl 0 (by decide) (hts _ zm_3) (fun _ h9 => h9) rfl dX9_bestTurn_5 ?_
  obtain ⟨o_1, hc_1, hF⟩ := zb hF
  refine zcVi (rest := []) (ws' := (wX9_xdqmzc ca ad_s ad_x ad_d ad_p ad_n ad_q ad_t ad_m ad_z ad_c x_hasPicture d_guests d_kinds d_figures d_minutes d_settings d_hooks d_letters d_letterCount q_row q_firstsLifts q_othersLifts q_seed o_1.2.1 o_1.2.2.1 q_mostLifts q_sumOfLifts q_sumOfMissers (ad_d 0) o_1.2.2.2.1 o_1.2.2.2.2.1 o_1.2.2.2.2.2.1 o_1.2.2.2.2.2.2.1 o_1.2.2.2.2.2.2.2.1 o_1.2.2.2.2.2.2.2.2.1 o_1.2.2.2.2.2.2.2.2.2.1 o_1.2.2.2.2.2.2.2.2.2.2.1 o_1.2.2.2.2.2.2.2.2.2.2.2.1 o_1.2.2.2.2.2.2.2.2.2.2.2.2.1 o_1.2.2.2.2.2.2.2.2.2.2.2.2.2.1 o_1.2.2.2.2.2.2.2.2.2.2.2.2.2.2.1 o_1.2.2.2.2.2.2.2.2.2.2.2.2.2.2.2.1 o_1.2.2.2.2.2.2.2.2.2.2.2.2.2.2.2.2.1 o_1.2.2.2.2.2.2.2.2.2.2.2.2.2.2.2.2.2.1 o_1.2.2.2.2.2.2.2.2.2.2.2.2.2.2.2.2.2.2.1 o_1.2.2.2.2.2.2.2.2.2.2.2.2.2.2.2.2.2.2.2.1 o_1.2.2.2.2.2.2.2.2.2.2.2.2.2.2.2.2.2.2.2.2)) (kX8_bestMinuteToTurn l D ca t ad_q ad_t ad_m ad_z ad_c ad_d q_row q_firstsLifts q_othersLifts q_seed q_found q_foundLifts q_mostLifts q_sumOfLifts q_sumOfMissers m_room m_order m_weights m_black m_lifts m_begins m_ends m_has m_lifted m_allLifts m_doneAt z_going z_coming z_holds z_latest c_heaps c_piles c_heights c_spots d_guests d_kinds d_figures d_minutes d_settings d_hooks d_letters d_letterCount fuel _ hc_1) ⟨hx, hb, hml, hown, hts⟩ (zcwV hts zm_752 zm_753 zm_754 zm_658 zm_751 rfl rfl zdv_X8_bestMinuteToTurn ⟨Nat.le_of_ble_eq_true rfl, Nat.le_of_ble_eq_true rfl⟩) hA hK hZ hP hD hS [8, 9, 10, 11, 12, 13, 14, 15, 16, 17, 18, 19, 20, 21, 22, 23, 24, 25, 26, 27, 28, 29, 30, 2, 3, 4, 5, 6, 7] [0, 1] [0, 1, 25, 26, 27, 28, 29, 30, 2, 3, 4, 5, 6, 7, 8, 9, 10, 11, 12, 13, 14, 15, 16, 17, 18, 19, 20, 21, 22, 23, 24] rfl rfl rfl rfl rfl rfl rfl 5 8 rfl rfl rfl hl.1 (Nat.le_of_ble_eq_true rfl) dX9_bestTurn_8 rfl (fun H locs hP hD hS => ?_)
  obtain rfl := Option.some.inj hF
  exact hret _ _ _ _ hP hD hS rfl dX9_bestTurn_11
theorem zds_X4_greatestDivisor : yX4_greatestDivisor.cls ≠ "java/lang/invoke/MethodHandle" ∧ yX4_greatestDivisor.cls ≠ "java/lang/invoke/VarHandle" ∧ (parseMethodDescriptor yX4_greatestDivisor.desc).map (fun d => d.parameters.length) = some 2 := by decide +kernel
theorem zdv_X8_tryAllGoings : yX8_tryAllGoings.cls = RX8 ∧ yX8_tryAllGoings.cls ≠ "java/lang/invoke/MethodHandle" ∧ yX8_tryAllGoings.cls ≠ "java/lang/invoke/VarHandle" ∧ (parseMethodDescriptor yX8_tryAllGoings.desc).map (fun d => d.parameters.length) = some 1 := by decide +kernel
abbrev roX9_mean : Room := { frames := 7, cells := 0, slots := 0, locals := 163 }
set_option maxHeartbeats 4000000 in
set_option maxRecDepth 100000 in
theorem kX9_mean (l : Launch) (D : va_G) (ca : Nat → ClassId) (t : Nat → Nat) (ad_s : Nat → Nat) (ad_x : Nat → Nat) (ad_d : Nat → Nat) (ad_p : Nat → Nat) (ad_n : Nat → Nat) (ad_q : Nat → Nat) (ad_t : Nat → Nat) (ad_m : Nat → Nat) (ad_z : Nat → Nat) (ad_c : Nat → Nat) (x_hasPicture : Int32) (d_guests : Int32) (d_kinds : Nat → Int32) (d_figures : Nat → Int32) (d_minutes : Nat → Int32) (d_settings : Nat → Int32) (d_hooks : Int32) (d_letters : Nat → Int32) (d_letterCount : Int32) (q_row : Nat → Int32) (q_firstsLifts : Nat → Int32) (q_othersLifts : Nat → Int32) (q_seed : Int32) (q_found : Int32) (q_foundLifts : Int32) (q_mostLifts : Int32) (q_sumOfLifts : Int32) (q_sumOfMissers : Int32) (m_room : Nat) (m_order : Nat → Int32) (m_weights : Nat → Int32) (m_black : Nat → Int32) (m_lifts : Nat → Int32) (m_begins : Nat → Int32) (m_ends : Nat → Int32) (m_has : Nat → Int32) (m_lifted : Nat → Int32) (m_allLifts : Int32) (m_doneAt : Int32) (z_going : Nat → Int32) (z_coming : Nat → Int32) (z_holds : Int32) (z_latest : Int32) (c_heaps : Int32) (c_piles : Nat → Nat → Int32) (c_heights : Nat → Int32) (c_spots : Nat → Int32) (p1 : Int32) (fuel : Nat) (o : Int64 × Int32 × Int32 × Int32 × Int32 × Nat × (Nat → Int32) × (Nat → Int32) × (Nat → Int32) × (Nat → Int32) × (Nat → Int32) × (Nat → Int32) × (Nat → Int32) × (Nat → Int32) × Int32 × Int32 × (Nat → Int32) × (Nat → Int32) × Int32 × Int32 × Int32 × (Nat → Nat → Int32) × (Nat → Int32) × (Nat → Int32)) (hF : fX9_mean fuel d_guests d_kinds d_figures d_minutes d_settings d_hooks d_letters d_letterCount q_found q_foundLifts q_mostLifts q_sumOfLifts m_room m_order m_weights m_black m_lifts m_begins m_ends m_has m_lifted m_allLifts m_doneAt z_going z_coming z_holds z_latest c_heaps c_piles c_heights c_spots ad_d p1 = some o) : zMl l D (zT ca) t yX9_mean (.code yX9_mean cX9_mean 4 (some .long) :: zW) roX9_mean [.ref (ad_x 0), .int p1] (wX9_xdqmzc ca ad_s ad_x ad_d ad_p ad_n ad_q ad_t ad_m ad_z ad_c x_hasPicture d_guests d_kinds d_figures d_minutes d_settings d_hooks d_letters d_letterCount q_row q_firstsLifts q_othersLifts q_seed q_found q_foundLifts q_mostLifts q_sumOfLifts q_sumOfMissers m_room m_order m_weights m_black m_lifts m_begins m_ends m_has m_lifted m_allLifts m_doneAt z_going z_coming z_holds z_latest c_heaps c_piles c_heights c_spots) (wX9_xdqmzc ca ad_s ad_x ad_d ad_p ad_n ad_q ad_t ad_m ad_z ad_c x_hasPicture d_guests d_kinds d_figures d_minutes d_settings d_hooks d_letters d_letterCount q_row q_firstsLifts q_othersLifts q_seed o.2.1 o.2.2.1 o.2.2.2.1 o.2.2.2.2.1 q_sumOfMissers o.2.2.2.2.2.1 o.2.2.2.2.2.2.1 o.2.2.2.2.2.2.2.1 o.2.2.2.2.2.2.2.2.1 o.2.2.2.2.2.2.2.2.2.1 o.2.2.2.2.2.2.2.2.2.2.1 o.2.2.2.2.2.2.2.2.2.2.2.1 o.2.2.2.2.2.2.2.2.2.2.2.2.1 o.2.2.2.2.2.2.2.2.2.2.2.2.2.1 o.2.2.2.2.2.2.2.2.2.2.2.2.2.2.1 o.2.2.2.2.2.2.2.2.2.2.2.2.2.2.2.1 o.2.2.2.2.2.2.2.2.2.2.2.2.2.2.2.2.1 o.2.2.2.2.2.2.2.2.2.2.2.2.2.2.2.2.2.1 o.2.2.2.2.2.2.2.2.2.2.2.2.2.2.2.2.2.2.1 o.2.2.2.2.2.2.2.2.2.2.2.2.2.2.2.2.2.2.2.1 o.2.2.2.2.2.2.2.2.2.2.2.2.2.2.2.2.2.2.2.2.1 o.2.2.2.2.2.2.2.2.2.2.2.2.2.2.2.2.2.2.2.2.2.1 o.2.2.2.2.2.2.2.2.2.2.2.2.2.2.2.2.2.2.2.2.2.2.1 o.2.2.2.2.2.2.2.2.2.2.2.2.2.2.2.2.2.2.2.2.2.2.2) o.1 := by
  refine zMl_of (cc := cX9_mean) (maxL := 4) (by decide) rfl (Nat.le_of_ble_eq_true rfl) ?_
  intro p e s m args below meth c A Q ls ⟨hx, hb, hml, hown, hts, hA, hK, hZ, hS⟩ hret hP hD hl
  have hts := fun w h => hts w (List.mem_cons_of_mem _ h)
  have hown : s.vm.findClass RX9 = some m.cls := hown
  have hl : lv_has ls 4 [(0, .ref (ad_x 0)), (1, .int p1)] := hl
  have hin5 := zin_X5
  have hin8 := zin_X8
  have hin9 := zin_X9
  unfold fX9_mean at hF
  refine lv_iload_n hx hb dX9_mean_0 rfl (lv_at hl 1 rfl) ?_
  obtain ⟨o_1, hc_1, hF⟩ := zb hF
  refine zcSR (rest := []) (kX9_isFirstOrSecond l D ca t p1 fuel _ hc_1) ⟨hx, hb, hml, hown, hts⟩ (zcwS hts zm_482 zm_481 zm_7 zm_480 rfl rfl zds_X9_isFirstOrSecond ⟨Nat.le_of_ble_eq_true rfl, Nat.le_of_ble_eq_true rfl⟩) hA hK hZ hP hD hS [] rfl rfl rfl hl.1 (Nat.le_of_ble_eq_true rfl) dX9_mean_1 rfl ?_
  refine lv_if_ne (tgt := 11) hx hb dX9_mean_4 (by decide) (fun c_2 => ?_) (fun c_2 => ?_)
  · have hF := zf c_2 hF
    refine lv_aload_n hx hb dX9_mean_11 rfl (lv_at hl 0 rfl) ?_
    refine va_get (D := D) (ci := 6) (v := .ref (ad_d 0)) (C := RX9) (T := TX9) (N := 6) hx hb hts hin9 hown hK hP 0 rfl rfl 0 (by decide) (hts _ zm_3) (fun _ h9 => h9) rfl dX9_mean_12 ?_
    refine va_get (D := D) (ci := 3) (v := .int d_guests) (C := RX5) (T := TX5) (N := 8) hx hb hts hin5 hown hK hP 2 rfl rfl 0 (by decide) (hts _ zm_4) (fun _ h9 => h9) rfl dX9_mean_15 ?_
    refine lv_iconst (v := 5) hx hb dX9_mean_18 (by decide) ?_
    refine lv_icmp_le (tgt := 26) hx hb dX9_mean_19 (by decide) (fun c_3 => ?_) (fun c_3 => ?_)
    · have hF := zt c_3 hF
      refine lv_aload_n hx hb dX9_mean_26 rfl (lv_at hl 0 rfl) ?_
      refine va_get (D := D) (ci := 6) (v := .ref (ad_q 0)) (C := RX9) (T := TX9) (N := 6) hx hb hts hin9 hown hK hP 0 rfl rfl 5 (by decide) (hts _ zm_663) (fun _ h9 => h9) rfl dX9_mean_27 ?_
      refine lv_aload_n hx hb dX9_mean_30 rfl (lv_at hl 0 rfl) ?_
      refine va_get (D := D) (ci := 6) (v := .ref (ad_d 0)) (C := RX9) (T := TX9) (N := 6) hx hb hts hin9 hown hK hP 0 rfl rfl 0 (by decide) (hts _ zm_3) (fun _ h9 => h9) rfl dX9_mean_31 ?_
      obtain ⟨o_4, hc_4, hF⟩ := zb hF
      refine zcVv (rest := []) (ws' := (wX9_xdqmzc ca ad_s ad_x ad_d ad_p ad_n ad_q ad_t ad_m ad_z ad_c x_hasPicture d_guests d_kinds d_figures d_minutes d_settings d_hooks d_letters d_letterCount q_row q_firstsLifts q_othersLifts q_seed o_4.1 o_4.2.1 o_4.2.2.1 o_4.2.2.2.1 q_sumOfMissers (ad_d 0) o_4.2.2.2.2.1 o_4.2.2.2.2.2.1 o_4.2.2.2.2.2.2.1 o_4.2.2.2.2.2.2.2.1 o_4.2.2.2.2.2.2.2.2.1 o_4.2.2.2.2.2.2.2.2.2.1 o_4.2.2.2.2.2.2.2.2.2.2.1 o_4.2.2.2.2.2.2.2.2.2.2.2.1 o_4.2.2.2.2.2.2.2.2.2.2.2.2.1 o_4.2.2.2.2.2.2.2.2.2.2.2.2.2.1 o_4.2.2.2.2.2.2.2.2.2.2.2.2.2.2.1 o_4.2.2.2.2.2.2.2.2.2.2.2.2.2.2.2.1 o_4.2.2.2.2.2.2.2.2.2.2.2.2.2.2.2.2.1 o_4.2.2.2.2.2.2.2.2.2.2.2.2.2.2.2.2.2.1 o_4.2.2.2.2.2.2.2.2.2.2.2.2.2.2.2.2.2.2.1 o_4.2.2.2.2.2.2.2.2.2.2.2.2.2.2.2.2.2.2.2.1 o_4.2.2.2.2.2.2.2.2.2.2.2.2.2.2.2.2.2.2.2.2.1 o_4.2.2.2.2.2.2.2.2.2.2.2.2.2.2.2.2.2.2.2.2.2)) (kX8_tryAllGoings l D ca t ad_q ad_t ad_m ad_z ad_c ad_d q_row q_firstsLifts q_othersLifts q_seed q_found q_foundLifts q_mostLifts q_sumOfLifts q_sumOfMissers m_room m_order m_weights m_black m_lifts m_begins m_ends m_has m_lifted m_allLifts m_doneAt z_going z_coming z_holds z_latest c_heaps c_piles c_heights c_spots d_guests d_kinds d_figures d_minutes d_settings d_hooks d_letters d_letterCount fuel _ hc_4) ⟨hx, hb, hml, hown, hts⟩ (zcwV hts zm_756 zm_757 zm_758 zm_658 zm_755 rfl rfl zdv_X8_tryAllGoings ⟨Nat.le_of_ble_eq_true rfl, Nat.le_of_ble_eq_true rfl⟩) hA hK hZ hP hD hS [8, 9, 10, 11, 12, 13, 14, 15, 16, 17, 18, 19, 20, 21, 22, 23, 24, 25, 26, 27, 28, 29, 30, 2, 3, 4, 5, 6, 7] [0, 1] [0, 1, 25, 26, 27, 28, 29, 30, 2, 3, 4, 5, 6, 7, 8, 9, 10, 11, 12, 13, 14, 15, 16, 17, 18, 19, 20, 21, 22, 23, 24] rfl rfl rfl rfl rfl rfl rfl 5 8 rfl rfl rfl hl.1 (Nat.le_of_ble_eq_true rfl) dX9_mean_34 rfl (fun H locs hP hD hS => ?_)
      refine lv_aload_n hx hb dX9_mean_37 rfl (lv_at hl 0 rfl) ?_
      refine va_get (D := D) (ci := 6) (v := .ref (ad_d 0)) (C := RX9) (T := TX9) (N := 6) hx hb hts hin9 hown hK hP 0 rfl rfl 0 (by decide) (hts _ zm_3) (fun _ h9 => h9) rfl dX9_mean_38 ?_
      refine va_get (D := D) (ci := 3) (v := .int d_guests) (C := RX5) (T := TX5) (N := 8) hx hb hts hin5 hown hK hP 2 rfl rfl 0 (by decide) (hts _ zm_4) (fun _ h9 => h9) rfl dX9_mean_41 ?_
      obtain ⟨o_5, hc_5, hF⟩ := zb hF
      refine zcSR (rest := []) (kX4_howMany l D ca t d_guests fuel _ hc_5) ⟨hx, hb, hml, hown, hts⟩ (zcwS hts zm_759 zm_735 zm_586 zm_734 rfl rfl zds_X4_howMany ⟨Nat.le_of_ble_eq_true rfl, Nat.le_of_ble_eq_true rfl⟩) hA hK hZ hP hD hS [] rfl rfl rfl hl.1 (Nat.le_of_ble_eq_true rfl) dX9_mean_44 rfl ?_
      refine lv_istore_n (lv' := [(2, .int o_5), (0, .ref (ad_x 0)), (1, .int p1)]) hx hb dX9_mean_47 rfl hl (by decide) rfl (fun ls hl => ?_)
      refine lv_aload_n hx hb dX9_mean_48 rfl (lv_at hl 1 rfl) ?_
      refine va_get (D := D) (ci := 6) (v := .ref (ad_q 0)) (C := RX9) (T := TX9) (N := 6) hx hb hts hin9 hown hK hP 0 rfl rfl 5 (by decide) (hts _ zm_663) (fun _ h9 => h9) rfl dX9_mean_49 ?_
      refine va_get (D := D) (ci := 5) (v := .int o_4.2.2.2.1) (C := RX8) (T := TX8) (N := 11) hx hb hts hin8 hown hK hP 8 rfl rfl 9 (by decide) (hts _ zm_760) (fun _ h9 => h9) rfl dX9_mean_52 ?_
      refine lv_iload_n hx hb dX9_mean_55 rfl (lv_at hl 0 rfl) ?_
      obtain ⟨o_6, hc_6, hF⟩ := zb hF
      refine zcSR (rest := []) (kX4_greatestDivisor l D ca t o_4.2.2.2.1 o_5 fuel _ hc_6) ⟨hx, hb, hml, hown, hts⟩ (zcwS hts zm_763 zm_762 zm_586 zm_761 rfl rfl zds_X4_greatestDivisor ⟨Nat.le_of_ble_eq_true rfl, Nat.le_of_ble_eq_true rfl⟩) hA hK hZ hP hD hS [] rfl rfl rfl hl.1 (Nat.le_of_ble_eq_true rfl) dX9_mean_56 rfl ?_
      refine lv_istore_n (lv' := [(3, .int o_6), (2, .int o_5), (0, .ref (ad_x 0)), (1, .int p1)]) hx hb dX9_mean_59 rfl hl (by decide) rfl (fun ls hl => ?_)
      refine lv_iload_n hx hb dX9_mean_60 rfl (lv_at hl 0 rfl) ?_
      refine lv_iconst (v := 1) hx hb dX9_mean_61 (by decide) ?_
      refine lv_icmp_ge (tgt := 67) hx hb dX9_mean_62 (by decide) (fun c_7 => ?_) (fun c_7 => ?_)
      · have hF := zt c_7 hF
        refine lv_iload_n hx hb dX9_mean_67 rfl (lv_at hl 3 rfl) ?_
        refine lv_if_ne (tgt := 84) hx hb dX9_mean_68 (by decide) (fun c_8 => ?_) (fun c_8 => ?_)
        · have hF := zf c_8 hF
          refine lv_iload_n hx hb dX9_mean_84 rfl (lv_at hl 1 rfl) ?_
          refine lv_iload_n hx hb dX9_mean_85 rfl (lv_at hl 0 rfl) ?_
          obtain ⟨h_9, hF⟩ := zgd hF
          refine lv_idiv hx hb dX9_mean_86 h_9 ?_
          refine lv_i2l hx hb dX9_mean_87 rfl ?_
          obtain rfl := Option.some.inj hF
          exact hret _ _ _ _ hP hD hS dX9_mean_88
        · have hF := zt c_8 hF
          refine lv_aload_n hx hb dX9_mean_71 rfl (lv_at hl 2 rfl) ?_
          refine va_get (D := D) (ci := 6) (v := .ref (ad_q 0)) (C := RX9) (T := TX9) (N := 6) hx hb hts hin9 hown hK hP 0 rfl rfl 5 (by decide) (hts _ zm_663) (fun _ h9 => h9) rfl dX9_mean_72 ?_
          refine va_get (D := D) (ci := 5) (v := .int o_4.2.2.2.1) (C := RX8) (T := TX8) (N := 11) hx hb hts hin8 hown hK hP 8 rfl rfl 9 (by decide) (hts _ zm_760) (fun _ h9 => h9) rfl dX9_mean_75 ?_
          refine lv_iload_n hx hb dX9_mean_78 rfl (lv_at hl 0 rfl) ?_
          obtain ⟨h_10, hF⟩ := zgd hF
          refine lv_idiv hx hb dX9_mean_79 h_10 ?_
          refine lv_i2l hx hb dX9_mean_80 rfl ?_
          refine lv_goto (tgt := 88) hx hb dX9_mean_81 (by decide) ?_
          obtain rfl := Option.some.inj hF
          exact hret _ _ _ _ hP hD hS dX9_mean_88
      · have hF := zf c_7 hF
        refine lv_lconst (v := 0) hx hb dX9_mean_65 (by decide) ?_
        obtain rfl := Option.some.inj hF
        exact hret _ _ _ _ hP hD hS dX9_mean_66
    · have hF := zf c_3 hF
      refine lv_ldc2 hx hb hown (hts _ zm_764) dX9_mean_22 ?_
      obtain rfl := Option.some.inj hF
      exact hret _ _ _ _ hP hD hS dX9_mean_25
  · have hF := zt c_2 hF
    refine lv_ldc2 hx hb hown (hts _ zm_765) dX9_mean_7 ?_
    obtain rfl := Option.some.inj hF
    exact hret _ _ _ _ hP hD hS dX9_mean_10
abbrev roX9_orders : Room := { frames := 7, cells := 0, slots := 0, locals := 163 }
set_option maxHeartbeats 4000000 in
set_option maxRecDepth 100000 in
theorem kX9_orders (l : Launch) (D : va_G) (ca : Nat → ClassId) (t : Nat → Nat) (ad_s : Nat → Nat) (ad_x : Nat → Nat) (ad_d : Nat → Nat) (ad_p : Nat → Nat) (ad_n : Nat → Nat) (ad_q : Nat → Nat) (ad_t : Nat → Nat) (ad_m : Nat → Nat) (ad_z : Nat → Nat) (ad_c : Nat → Nat) (x_hasPicture : Int32) (d_guests : Int32) (d_kinds : Nat → Int32) (d_figures : Nat → Int32) (d_minutes : Nat → Int32) (d_settings : Nat → Int32) (d_hooks : Int32) (d_letters : Nat → Int32) (d_letterCount : Int32) (q_row : Nat → Int32) (q_firstsLifts : Nat → Int32) (q_othersLifts : Nat → Int32) (q_seed : Int32) (q_found : Int32) (q_foundLifts : Int32) (q_mostLifts : Int32) (q_sumOfLifts : Int32) (q_sumOfMissers : Int32) (m_room : Nat) (m_order : Nat → Int32) (m_weights : Nat → Int32) (m_black : Nat → Int32) (m_lifts : Nat → Int32) (m_begins : Nat → Int32) (m_ends : Nat → Int32) (m_has : Nat → Int32) (m_lifted : Nat → Int32) (m_allLifts : Int32) (m_doneAt : Int32) (z_going : Nat → Int32) (z_coming : Nat → Int32) (z_holds : Int32) (z_latest : Int32) (c_heaps : Int32) (c_piles : Nat → Nat → Int32) (c_heights : Nat → Int32) (c_spots : Nat → Int32) (p1 : Int32) (fuel : Nat) (o : Int32 × Int32 × Int32 × Int32 × Int32 × Nat × (Nat → Int32) × (Nat → Int32) × (Nat → Int32) × (Nat → Int32) × (Nat → Int32) × (Nat → Int32) × (Nat → Int32) × (Nat → Int32) × Int32 × Int32 × (Nat → Int32) × (Nat → Int32) × Int32 × Int32 × Int32 × (Nat → Nat → Int32) × (Nat → Int32) × (Nat → Int32)) (hF : fX9_orders fuel d_guests d_kinds d_figures d_minutes d_settings d_hooks d_letters d_letterCount q_found q_foundLifts q_mostLifts q_sumOfLifts m_room m_order m_weights m_black m_lifts m_begins m_ends m_has m_lifted m_allLifts m_doneAt z_going z_coming z_holds z_latest c_heaps c_piles c_heights c_spots ad_d p1 = some o) : zMi l D (zT ca) t yX9_orders (.code yX9_orders cX9_orders 2 (some .int) :: zW) roX9_orders [.ref (ad_x 0), .int p1] (wX9_xdqmzc ca ad_s ad_x ad_d ad_p ad_n ad_q ad_t ad_m ad_z ad_c x_hasPicture d_guests d_kinds d_figures d_minutes d_settings d_hooks d_letters d_letterCount q_row q_firstsLifts q_othersLifts q_seed q_found q_foundLifts q_mostLifts q_sumOfLifts q_sumOfMissers m_room m_order m_weights m_black m_lifts m_begins m_ends m_has m_lifted m_allLifts m_doneAt z_going z_coming z_holds z_latest c_heaps c_piles c_heights c_spots) (wX9_xdqmzc ca ad_s ad_x ad_d ad_p ad_n ad_q ad_t ad_m ad_z ad_c x_hasPicture d_guests d_kinds d_figures d_minutes d_settings d_hooks d_letters d_letterCount q_row q_firstsLifts q_othersLifts q_seed o.2.1 o.2.2.1 o.2.2.2.1 o.2.2.2.2.1 q_sumOfMissers o.2.2.2.2.2.1 o.2.2.2.2.2.2.1 o.2.2.2.2.2.2.2.1 o.2.2.2.2.2.2.2.2.1 o.2.2.2.2.2.2.2.2.2.1 o.2.2.2.2.2.2.2.2.2.2.1 o.2.2.2.2.2.2.2.2.2.2.2.1 o.2.2.2.2.2.2.2.2.2.2.2.2.1 o.2.2.2.2.2.2.2.2.2.2.2.2.2.1 o.2.2.2.2.2.2.2.2.2.2.2.2.2.2.1 o.2.2.2.2.2.2.2.2.2.2.2.2.2.2.2.1 o.2.2.2.2.2.2.2.2.2.2.2.2.2.2.2.2.1 o.2.2.2.2.2.2.2.2.2.2.2.2.2.2.2.2.2.1 o.2.2.2.2.2.2.2.2.2.2.2.2.2.2.2.2.2.2.1 o.2.2.2.2.2.2.2.2.2.2.2.2.2.2.2.2.2.2.2.1 o.2.2.2.2.2.2.2.2.2.2.2.2.2.2.2.2.2.2.2.2.1 o.2.2.2.2.2.2.2.2.2.2.2.2.2.2.2.2.2.2.2.2.2.1 o.2.2.2.2.2.2.2.2.2.2.2.2.2.2.2.2.2.2.2.2.2.2.1 o.2.2.2.2.2.2.2.2.2.2.2.2.2.2.2.2.2.2.2.2.2.2.2) o.1 := by
  refine zMi_of (cc := cX9_orders) (maxL := 2) (by decide) rfl (Nat.le_of_ble_eq_true rfl) ?_
  intro p e s m args below meth c A Q ls ⟨hx, hb, hml, hown, hts, hA, hK, hZ, hS⟩ hret hP hD hl
  have hts := fun w h => hts w (List.mem_cons_of_mem _ h)
  have hown : s.vm.findClass RX9 = some m.cls := hown
  have hl : lv_has ls 2 [(0, .ref (ad_x 0)), (1, .int p1)] := hl
  have hin5 := zin_X5
  have hin8 := zin_X8
  have hin9 := zin_X9
  unfold fX9_orders at hF
  refine lv_iload_n hx hb dX9_orders_0 rfl (lv_at hl 1 rfl) ?_
  obtain ⟨o_1, hc_1, hF⟩ := zb hF
  refine zcSR (rest := []) (kX9_isFirstOrSecond l D ca t p1 fuel _ hc_1) ⟨hx, hb, hml, hown, hts⟩ (zcwS hts zm_482 zm_481 zm_7 zm_480 rfl rfl zds_X9_isFirstOrSecond ⟨Nat.le_of_ble_eq_true rfl, Nat.le_of_ble_eq_true rfl⟩) hA hK hZ hP hD hS [] rfl rfl rfl hl.1 (Nat.le_of_ble_eq_true rfl) dX9_orders_1 rfl ?_
  refine lv_if_ne (tgt := 9) hx hb dX9_orders_4 (by decide) (fun c_2 => ?_) (fun c_2 => ?_)
  · have hF := zf c_2 hF
    refine lv_aload_n hx hb dX9_orders_9 rfl (lv_at hl 0 rfl) ?_
    refine va_get (D := D) (ci := 6) (v := .ref (ad_d 0)) (C := RX9) (T := TX9) (N := 6) hx hb hts hin9 hown hK hP 0 rfl rfl 0 (by decide) (hts _ zm_3) (fun _ h9 => h9) rfl dX9_orders_10 ?_
    refine va_get (D := D) (ci := 3) (v := .int d_guests) (C := RX5) (T := TX5) (N := 8) hx hb hts hin5 hown hK hP 2 rfl rfl 0 (by decide) (hts _ zm_4) (fun _ h9 => h9) rfl dX9_orders_13 ?_
    refine lv_iconst (v := 5) hx hb dX9_orders_16 (by decide) ?_
    refine lv_icmp_le (tgt := 23) hx hb dX9_orders_17 (by decide) (fun c_3 => ?_) (fun c_3 => ?_)
    · have hF := zt c_3 hF
      refine lv_aload_n hx hb dX9_orders_23 rfl (lv_at hl 0 rfl) ?_
      refine va_get (D := D) (ci := 6) (v := .ref (ad_q 0)) (C := RX9) (T := TX9) (N := 6) hx hb hts hin9 hown hK hP 0 rfl rfl 5 (by decide) (hts _ zm_663) (fun _ h9 => h9) rfl dX9_orders_24 ?_
      refine lv_aload_n hx hb dX9_orders_27 rfl (lv_at hl 0 rfl) ?_
      refine va_get (D := D) (ci := 6) (v := .ref (ad_d 0)) (C := RX9) (T := TX9) (N := 6) hx hb hts hin9 hown hK hP 0 rfl rfl 0 (by decide) (hts _ zm_3) (fun _ h9 => h9) rfl dX9_orders_28 ?_
      obtain ⟨o_4, hc_4, hF⟩ := zb hF
      refine zcVv (rest := []) (ws' := (wX9_xdqmzc ca ad_s ad_x ad_d ad_p ad_n ad_q ad_t ad_m ad_z ad_c x_hasPicture d_guests d_kinds d_figures d_minutes d_settings d_hooks d_letters d_letterCount q_row q_firstsLifts q_othersLifts q_seed o_4.1 o_4.2.1 o_4.2.2.1 o_4.2.2.2.1 q_sumOfMissers (ad_d 0) o_4.2.2.2.2.1 o_4.2.2.2.2.2.1 o_4.2.2.2.2.2.2.1 o_4.2.2.2.2.2.2.2.1 o_4.2.2.2.2.2.2.2.2.1 o_4.2.2.2.2.2.2.2.2.2.1 o_4.2.2.2.2.2.2.2.2.2.2.1 o_4.2.2.2.2.2.2.2.2.2.2.2.1 o_4.2.2.2.2.2.2.2.2.2.2.2.2.1 o_4.2.2.2.2.2.2.2.2.2.2.2.2.2.1 o_4.2.2.2.2.2.2.2.2.2.2.2.2.2.2.1 o_4.2.2.2.2.2.2.2.2.2.2.2.2.2.2.2.1 o_4.2.2.2.2.2.2.2.2.2.2.2.2.2.2.2.2.1 o_4.2.2.2.2.2.2.2.2.2.2.2.2.2.2.2.2.2.1 o_4.2.2.2.2.2.2.2.2.2.2.2.2.2.2.2.2.2.2.1 o_4.2.2.2.2.2.2.2.2.2.2.2.2.2.2.2.2.2.2.2.1 o_4.2.2.2.2.2.2.2.2.2.2.2.2.2.2.2.2.2.2.2.2.1 o_4.2.2.2.2.2.2.2.2.2.2.2.2.2.2.2.2.2.2.2.2.2)) (kX8_tryAllGoings l D ca t ad_q ad_t ad_m ad_z ad_c ad_d q_row q_firstsLifts q_othersLifts q_seed q_found q_foundLifts q_mostLifts q_sumOfLifts q_sumOfMissers m_room m_order m_weights m_black m_lifts m_begins m_ends m_has m_lifted m_allLifts m_doneAt z_going z_coming z_holds z_latest c_heaps c_piles c_heights c_spots d_guests d_kinds d_figures d_minutes d_settings d_hooks d_letters d_letterCount fuel _ hc_4) ⟨hx, hb, hml, hown, hts⟩ (zcwV hts zm_756 zm_757 zm_758 zm_658 zm_755 rfl rfl zdv_X8_tryAllGoings ⟨Nat.le_of_ble_eq_true rfl, Nat.le_of_ble_eq_true rfl⟩) hA hK hZ hP hD hS [8, 9, 10, 11, 12, 13, 14, 15, 16, 17, 18, 19, 20, 21, 22, 23, 24, 25, 26, 27, 28, 29, 30, 2, 3, 4, 5, 6, 7] [0, 1] [0, 1, 25, 26, 27, 28, 29, 30, 2, 3, 4, 5, 6, 7, 8, 9, 10, 11, 12, 13, 14, 15, 16, 17, 18, 19, 20, 21, 22, 23, 24] rfl rfl rfl rfl rfl rfl rfl 5 8 rfl rfl rfl hl.1 (Nat.le_of_ble_eq_true rfl) dX9_orders_31 rfl (fun H locs hP hD hS => ?_)
      refine lv_iload_n hx hb dX9_orders_34 rfl (lv_at hl 1 rfl) ?_
      refine lv_if_ne (tgt := 48) hx hb dX9_orders_35 (by decide) (fun c_5 => ?_) (fun c_5 => ?_)
      · have hF := zf c_5 hF
        refine lv_aload_n hx hb dX9_orders_48 rfl (lv_at hl 0 rfl) ?_
        refine va_get (D := D) (ci := 6) (v := .ref (ad_q 0)) (C := RX9) (T := TX9) (N := 6) hx hb hts hin9 hown hK hP 0 rfl rfl 5 (by decide) (hts _ zm_663) (fun _ h9 => h9) rfl dX9_orders_49 ?_
        refine va_get (D := D) (ci := 5) (v := .int o_4.2.1) (C := RX8) (T := TX8) (N := 11) hx hb hts hin8 hown hK hP 8 rfl rfl 7 (by decide) (hts _ zm_766) (fun _ h9 => h9) rfl dX9_orders_52 ?_
        obtain rfl := Option.some.inj hF
        exact hret _ _ _ _ hP hD hS rfl dX9_orders_55
      · have hF := zt c_5 hF
        refine lv_aload_n hx hb dX9_orders_38 rfl (lv_at hl 0 rfl) ?_
        refine va_get (D := D) (ci := 6) (v := .ref (ad_q 0)) (C := RX9) (T := TX9) (N := 6) hx hb hts hin9 hown hK hP 0 rfl rfl 5 (by decide) (hts _ zm_663) (fun _ h9 => h9) rfl dX9_orders_39 ?_
        refine va_get (D := D) (ci := 5) (v := .int o_4.2.2.1) (C := RX8) (T := TX8) (N := 11) hx hb hts hin8 hown hK hP 8 rfl rfl 8 (by decide) (hts _ zm_767) (fun _ h9 => h9) rfl dX9_orders_42 ?_
        refine lv_goto (tgt := 55) hx hb dX9_orders_45 (by decide) ?_
        obtain rfl := Option.some.inj hF
        exact hret _ _ _ _ hP hD hS rfl dX9_orders_55
    · have hF := zf c_3 hF
      refine lv_bipush (v := (-3)) hx hb dX9_orders_20 (by decide) ?_
      obtain rfl := Option.some.inj hF
      exact hret _ _ _ _ hP hD hS rfl dX9_orders_22
  · have hF := zt c_2 hF
    refine lv_iconst (v := (-1)) hx hb dX9_orders_7 (by decide) ?_
    obtain rfl := Option.some.inj hF
    exact hret _ _ _ _ hP hD hS rfl dX9_orders_8
theorem zdv_X8_tryAllComings : yX8_tryAllComings.cls = RX8 ∧ yX8_tryAllComings.cls ≠ "java/lang/invoke/MethodHandle" ∧ yX8_tryAllComings.cls ≠ "java/lang/invoke/VarHandle" ∧ (parseMethodDescriptor yX8_tryAllComings.desc).map (fun d => d.parameters.length) = some 2 := by decide +kernel
abbrev roX9_reads : Room := { frames := 6, cells := 0, slots := 0, locals := 142 }
set_option maxHeartbeats 4000000 in
set_option maxRecDepth 100000 in
theorem kX9_reads (l : Launch) (D : va_G) (ca : Nat → ClassId) (t : Nat → Nat) (ad_s : Nat → Nat) (ad_x : Nat → Nat) (ad_d : Nat → Nat) (ad_p : Nat → Nat) (ad_n : Nat → Nat) (ad_q : Nat → Nat) (ad_t : Nat → Nat) (ad_m : Nat → Nat) (ad_z : Nat → Nat) (ad_c : Nat → Nat) (s_holds : Nat → Int32) (s_kind : Nat → Int32) (s_figure : Nat → Int32) (s_sort : Nat → Int32) (s_size : Nat → Int32) (s_el : Nat → Nat → Int32) (x_hasPicture : Int32) (d_guests : Int32) (d_kinds : Nat → Int32) (d_figures : Nat → Int32) (d_minutes : Nat → Int32) (d_settings : Nat → Int32) (d_hooks : Int32) (d_letters : Nat → Int32) (d_letterCount : Int32) (q_row : Nat → Int32) (q_firstsLifts : Nat → Int32) (q_othersLifts : Nat → Int32) (q_seed : Int32) (q_found : Int32) (q_foundLifts : Int32) (q_mostLifts : Int32) (q_sumOfLifts : Int32) (q_sumOfMissers : Int32) (m_room : Nat) (m_order : Nat → Int32) (m_weights : Nat → Int32) (m_black : Nat → Int32) (m_lifts : Nat → Int32) (m_begins : Nat → Int32) (m_ends : Nat → Int32) (m_has : Nat → Int32) (m_lifted : Nat → Int32) (m_allLifts : Int32) (m_doneAt : Int32) (z_going : Nat → Int32) (z_coming : Nat → Int32) (z_holds : Int32) (z_latest : Int32) (c_heaps : Int32) (c_piles : Nat → Nat → Int32) (c_heights : Nat → Int32) (c_spots : Nat → Int32) (p1 : Int32) (p2 : Int32) (fuel : Nat) (o : Int32 × Int32 × Int32 × Nat × (Nat → Int32) × (Nat → Int32) × (Nat → Int32) × (Nat → Int32) × (Nat → Int32) × Int32 × Int32 × Int32 × (Nat → Nat → Int32) × (Nat → Int32) × (Nat → Int32)) (hF : fX9_reads fuel s_holds s_size s_el d_guests d_kinds d_figures d_minutes d_settings d_hooks d_letters d_letterCount q_found q_foundLifts m_room m_order m_weights m_black z_going z_coming z_holds z_latest c_heaps c_piles c_heights c_spots ad_d p1 p2 = some o) : zMi l D (zT ca) t yX9_reads (.code yX9_reads cX9_reads 5 (some .int) :: zW) roX9_reads [.ref (ad_x 0), .int p1, .int p2] (wX9_sxdqmzc ca ad_s ad_x ad_d ad_p ad_n ad_q ad_t ad_m ad_z ad_c s_holds s_kind s_figure s_sort s_size s_el x_hasPicture d_guests d_kinds d_figures d_minutes d_settings d_hooks d_letters d_letterCount q_row q_firstsLifts q_othersLifts q_seed q_found q_foundLifts q_mostLifts q_sumOfLifts q_sumOfMissers m_room m_order m_weights m_black m_lifts m_begins m_ends m_has m_lifted m_allLifts m_doneAt z_going z_coming z_holds z_latest c_heaps c_piles c_heights c_spots) (wX9_sxdqmzc ca ad_s ad_x ad_d ad_p ad_n ad_q ad_t ad_m ad_z ad_c s_holds s_kind s_figure s_sort s_size s_el x_hasPicture d_guests d_kinds d_figures d_minutes d_settings d_hooks d_letters d_letterCount q_row q_firstsLifts q_othersLifts q_seed o.2.1 o.2.2.1 q_mostLifts q_sumOfLifts q_sumOfMissers o.2.2.2.1 o.2.2.2.2.1 o.2.2.2.2.2.1 o.2.2.2.2.2.2.1 m_lifts m_begins m_ends m_has m_lifted m_allLifts m_doneAt o.2.2.2.2.2.2.2.1 o.2.2.2.2.2.2.2.2.1 o.2.2.2.2.2.2.2.2.2.1 o.2.2.2.2.2.2.2.2.2.2.1 o.2.2.2.2.2.2.2.2.2.2.2.1 o.2.2.2.2.2.2.2.2.2.2.2.2.1 o.2.2.2.2.2.2.2.2.2.2.2.2.2.1 o.2.2.2.2.2.2.2.2.2.2.2.2.2.2) o.1 := by
  refine zMi_of (cc := cX9_reads) (maxL := 5) (by decide) rfl (Nat.le_of_ble_eq_true rfl) ?_
  intro p e s m args below meth c A Q ls ⟨hx, hb, hml, hown, hts, hA, hK, hZ, hS⟩ hret hP hD hl
  have hts := fun w h => hts w (List.mem_cons_of_mem _ h)
  have hown : s.vm.findClass RX9 = some m.cls := hown
  have hl : lv_has ls 5 [(0, .ref (ad_x 0)), (1, .int p1), (2, .int p2)] := hl
  have hin5 := zin_X5
  have hin8 := zin_X8
  have hin9 := zin_X9
  unfold fX9_reads at hF
  refine lv_iload_n hx hb dX9_reads_0 rfl (lv_at hl 1 rfl) ?_
  obtain ⟨o_1, hc_1, hF⟩ := zb hF
  refine zcSR (rest := []) (kX9_isShelf l D ca t p1 fuel _ hc_1) ⟨hx, hb, hml, hown, hts⟩ (zcwS hts zm_8 zm_6 zm_7 zm_5 rfl rfl zds_X9_isShelf ⟨Nat.le_of_ble_eq_true rfl, Nat.le_of_ble_eq_true rfl⟩) hA hK hZ hP hD hS [] rfl rfl rfl hl.1 (Nat.le_of_ble_eq_true rfl) dX9_reads_1 rfl ?_
  refine lv_if_eq (tgt := 14) hx hb dX9_reads_4 (by decide) (fun c_2 => ?_) (fun c_2 => ?_)
  · have hF := zt c_2 hF
    refine lv_iconst (v := (-1)) hx hb dX9_reads_14 (by decide) ?_
    obtain rfl := Option.some.inj hF
    exact hret _ _ _ _ hP hD hS rfl dX9_reads_15
  · have hF := zf c_2 hF
    refine lv_iload_n hx hb dX9_reads_7 rfl (lv_at hl 2 rfl) ?_
    obtain ⟨o_3, hc_3, hF⟩ := zb hF
    refine zcSR (rest := []) (kX9_isFirstOrSecond l D ca t p2 fuel _ hc_3) ⟨hx, hb, hml, hown, hts⟩ (zcwS hts zm_482 zm_481 zm_7 zm_480 rfl rfl zds_X9_isFirstOrSecond ⟨Nat.le_of_ble_eq_true rfl, Nat.le_of_ble_eq_true rfl⟩) hA hK hZ hP hD hS [] rfl rfl rfl hl.1 (Nat.le_of_ble_eq_true rfl) dX9_reads_8 rfl ?_
    refine lv_if_ne (tgt := 16) hx hb dX9_reads_11 (by decide) (fun c_4 => ?_) (fun c_4 => ?_)
    · have hF := zf c_4 hF
      refine lv_aload_n hx hb dX9_reads_16 rfl (lv_at hl 0 rfl) ?_
      refine lv_iload_n hx hb dX9_reads_17 rfl (lv_at hl 1 rfl) ?_
      refine lv_iconst (v := 2) hx hb dX9_reads_18 (by decide) ?_
      obtain ⟨o_5, hc_5, hF⟩ := zb hF
      refine zcVR (rest := []) (kX9_refusalOf l D ca t ad_s ad_x ad_d ad_p ad_n ad_q s_holds s_kind s_figure s_sort s_size s_el x_hasPicture p1 2 fuel _ hc_5) ⟨hx, hb, hml, hown, hts⟩ (zcwV hts zm_12 zm_13 zm_14 zm_7 zm_11 rfl rfl zdv_X9_refusalOf ⟨Nat.le_of_ble_eq_true rfl, Nat.le_of_ble_eq_true rfl⟩) hA hK hZ hP hD hS [0, 1, 2, 3, 4, 5, 6, 7, 8, 9, 10, 11, 12, 13, 14, 15, 16, 17] rfl rfl 6 16 rfl rfl rfl hl.1 (Nat.le_of_ble_eq_true rfl) dX9_reads_19 rfl ?_
      refine lv_istore_n (lv' := [(3, .int o_5), (0, .ref (ad_x 0)), (1, .int p1), (2, .int p2)]) hx hb dX9_reads_22 rfl hl (by decide) rfl (fun ls hl => ?_)
      refine lv_iload_n hx hb dX9_reads_23 rfl (lv_at hl 0 rfl) ?_
      refine lv_if_eq (tgt := 29) hx hb dX9_reads_24 (by decide) (fun c_6 => ?_) (fun c_6 => ?_)
      · have hF := zt c_6 hF
        refine lv_aload_n hx hb dX9_reads_29 rfl (lv_at hl 1 rfl) ?_
        refine va_get (D := D) (ci := 6) (v := .ref (ad_d 0)) (C := RX9) (T := TX9) (N := 6) hx hb hts hin9 hown hK hP 16 rfl rfl 0 (by decide) (hts _ zm_3) (fun _ h9 => h9) rfl dX9_reads_30 ?_
        refine va_get (D := D) (ci := 3) (v := .int d_guests) (C := RX5) (T := TX5) (N := 8) hx hb hts hin5 hown hK hP 18 rfl rfl 0 (by decide) (hts _ zm_4) (fun _ h9 => h9) rfl dX9_reads_33 ?_
        refine lv_bipush (v := 6) hx hb dX9_reads_36 (by decide) ?_
        refine lv_icmp_le (tgt := 44) hx hb dX9_reads_38 (by decide) (fun c_7 => ?_) (fun c_7 => ?_)
        · have hF := zt c_7 hF
          refine lv_aload_n hx hb dX9_reads_44 rfl (lv_at hl 1 rfl) ?_
          refine va_get (D := D) (ci := 6) (v := .ref (ad_q 0)) (C := RX9) (T := TX9) (N := 6) hx hb hts hin9 hown hK hP 16 rfl rfl 5 (by decide) (hts _ zm_663) (fun _ h9 => h9) rfl dX9_reads_45 ?_
          refine lv_aload_n hx hb dX9_reads_48 rfl (lv_at hl 1 rfl) ?_
          refine va_get (D := D) (ci := 6) (v := .ref (ad_d 0)) (C := RX9) (T := TX9) (N := 6) hx hb hts hin9 hown hK hP 16 rfl rfl 0 (by decide) (hts _ zm_3) (fun _ h9 => h9) rfl dX9_reads_49 ?_
          refine lv_aload_n hx hb dX9_reads_52 rfl (lv_at hl 1 rfl) ?_
          refine va_get (D := D) (ci := 6) (v := .ref (ad_x 1)) (C := RX9) (T := TX9) (N := 6) hx hb hts hin9 hown hK hP 16 rfl rfl 3 (by decide) (hts _ zm_9) (fun _ h9 => h9) rfl dX9_reads_53 ?_
          refine lv_iload_n hx hb dX9_reads_56 rfl (lv_at hl 2 rfl) ?_
          obtain ⟨h_8, hF⟩ := zgi hF
          refine z_aald hx hb hK hP 17 3 rfl rfl rfl h_8 dX9_reads_57 ?_
          obtain ⟨o_9, hc_9, hF⟩ := zb hF
          refine zcVi (rest := []) (ws' := (wX9_sxdqmzc ca ad_s ad_x ad_d ad_p ad_n ad_q ad_t ad_m ad_z ad_c s_holds s_kind s_figure s_sort s_size s_el x_hasPicture d_guests d_kinds d_figures d_minutes d_settings d_hooks d_letters d_letterCount q_row q_firstsLifts q_othersLifts q_seed o_9.2.1 o_9.2.2.1 q_mostLifts q_sumOfLifts q_sumOfMissers (ad_d 0) o_9.2.2.2.1 o_9.2.2.2.2.1 o_9.2.2.2.2.2.1 m_lifts m_begins m_ends m_has m_lifted m_allLifts m_doneAt o_9.2.2.2.2.2.2.1 o_9.2.2.2.2.2.2.2.1 o_9.2.2.2.2.2.2.2.2.1 o_9.2.2.2.2.2.2.2.2.2.1 o_9.2.2.2.2.2.2.2.2.2.2.1 o_9.2.2.2.2.2.2.2.2.2.2.2.1 o_9.2.2.2.2.2.2.2.2.2.2.2.2.1 o_9.2.2.2.2.2.2.2.2.2.2.2.2.2)) (kX8_tryAllComings l D ca t ad_s ad_q ad_t ad_m ad_z ad_c ad_d s_holds s_kind s_figure s_sort s_size s_el q_row q_firstsLifts q_othersLifts q_seed q_found q_foundLifts q_mostLifts q_sumOfLifts q_sumOfMissers m_room m_order m_weights m_black m_lifts m_begins m_ends m_has m_lifted m_allLifts m_doneAt z_going z_coming z_holds z_latest c_heaps c_piles c_heights c_spots d_guests d_kinds d_figures d_minutes d_settings d_hooks d_letters d_letterCount p1.toNatClampNeg (zin_lt h_8) fuel _ hc_9) ⟨hx, hb, hml, hown, hts⟩ (zcwV hts zm_769 zm_770 zm_771 zm_658 zm_768 rfl rfl zdv_X8_tryAllComings ⟨Nat.le_of_ble_eq_true rfl, Nat.le_of_ble_eq_true rfl⟩) hA hK hZ hP hD hS [0, 1, 2, 3, 4, 5, 6, 7, 8, 9, 10, 11, 12, 13, 14, 15, 24, 25, 26, 27, 28, 29, 30, 31, 32, 33, 34, 35, 36, 37, 38, 39, 40, 41, 42, 43, 44, 45, 46, 18, 19, 20, 21, 22, 23] [16, 17] [2, 3, 4, 5, 6, 7, 8, 9, 10, 11, 12, 13, 14, 15, 16, 17, 0, 1, 41, 42, 43, 44, 45, 46, 18, 19, 20, 21, 22, 23, 24, 25, 26, 27, 28, 29, 30, 31, 32, 33, 34, 35, 36, 37, 38, 39, 40] rfl rfl rfl rfl rfl rfl rfl 5 24 rfl rfl rfl hl.1 (Nat.le_of_ble_eq_true rfl) dX9_reads_58 rfl (fun H locs hP hD hS => ?_)
          refine lv_istore (lv' := [(4, .int o_9.1), (3, .int o_5), (0, .ref (ad_x 0)), (1, .int p1), (2, .int p2)]) hx hb dX9_reads_61 hl (by decide) rfl (fun ls hl => ?_)
          refine lv_iload_n hx hb dX9_reads_63 rfl (lv_at hl 4 rfl) ?_
          refine lv_if_ne (tgt := 72) hx hb dX9_reads_64 (by decide) (fun c_10 => ?_) (fun c_10 => ?_)
          · have hF := zf c_10 hF
            refine lv_aload_n hx hb dX9_reads_72 rfl (lv_at hl 2 rfl) ?_
            refine va_get (D := D) (ci := 6) (v := .ref (ad_q 0)) (C := RX9) (T := TX9) (N := 6) hx hb hts hin9 hown hK hP 16 rfl rfl 5 (by decide) (hts _ zm_663) (fun _ h9 => h9) rfl dX9_reads_73 ?_
            refine va_get (D := D) (ci := 5) (v := .int o_9.2.1) (C := RX8) (T := TX8) (N := 11) hx hb hts hin8 hown hK hP 24 rfl rfl 6 (by decide) (hts _ zm_772) (fun _ h9 => h9) rfl dX9_reads_76 ?_
            obtain rfl := Option.some.inj hF
            exact hret _ _ _ _ hP hD hS rfl dX9_reads_79
          · have hF := zt c_10 hF
            refine lv_iload hx hb dX9_reads_67 (lv_at hl 0 rfl) ?_
            refine lv_goto (tgt := 79) hx hb dX9_reads_69 (by decide) ?_
            obtain rfl := Option.some.inj hF
            exact hret _ _ _ _ hP hD hS rfl dX9_reads_79
        · have hF := zf c_7 hF
          refine lv_bipush (v := (-3)) hx hb dX9_reads_41 (by decide) ?_
          obtain rfl := Option.some.inj hF
          exact hret _ _ _ _ hP hD hS rfl dX9_reads_43
      · have hF := zf c_6 hF
        refine lv_iload_n hx hb dX9_reads_27 rfl (lv_at hl 0 rfl) ?_
        obtain rfl := Option.some.inj hF
        exact hret _ _ _ _ hP hD hS rfl dX9_reads_28
    · have hF := zt c_4 hF
      refine lv_iconst (v := (-1)) hx hb dX9_reads_14 (by decide) ?_
      obtain rfl := Option.some.inj hF
      exact hret _ _ _ _ hP hD hS rfl dX9_reads_15
abbrev roX9_laid : Room := { frames := 5, cells := 0, slots := 0, locals := 117 }
set_option maxHeartbeats 4000000 in
set_option maxRecDepth 100000 in
theorem kX9_laid (l : Launch) (D : va_G) (ca : Nat → ClassId) (t : Nat → Nat) (ad_s : Nat → Nat) (ad_x : Nat → Nat) (ad_d : Nat → Nat) (ad_p : Nat → Nat) (ad_n : Nat → Nat) (ad_y : Nat → Nat) (ad_b : Nat → Nat) (ad_q : Nat → Nat) (x_hasPicture : Int32) (d_guests : Int32) (d_kinds : Nat → Int32) (d_figures : Nat → Int32) (d_minutes : Nat → Int32) (d_settings : Nat → Int32) (d_hooks : Int32) (d_letters : Nat → Int32) (d_letterCount : Int32) (n_room : Nat) (n_order : Nat → Int32) (n_weights : Nat → Int32) (n_black : Nat → Int32) (n_lifts : Nat → Int32) (n_begins : Nat → Int32) (n_ends : Nat → Int32) (n_has : Nat → Int32) (n_lifted : Nat → Int32) (n_allLifts : Int32) (n_doneAt : Int32) (y_going : Nat → Int32) (y_coming : Nat → Int32) (y_holds : Int32) (y_latest : Int32) (b_heaps : Int32) (b_piles : Nat → Nat → Int32) (b_heights : Nat → Int32) (b_spots : Nat → Int32) (fuel : Nat) (o : (Nat → Int32) × (Nat → Int32) × (Nat → Int32) × (Nat → Int32) × (Nat → Int32) × Int32 × Int32 × Int32 × (Nat → Nat → Int32) × (Nat → Int32) × (Nat → Int32)) (hF : fX9_laid fuel d_guests d_kinds d_figures d_minutes d_settings d_hooks d_letters d_letterCount n_order n_weights n_black y_going y_coming y_holds y_latest b_heaps b_piles b_heights b_spots = some o) : zMr l D (zT ca) t yX9_laid (.code yX9_laid cX9_laid 1 (some (.object "CoatsOnTheBed$Bed")) :: zW) roX9_laid [.ref (ad_x 0)] (wX9_xdnyb ca ad_s ad_x ad_d ad_p ad_n ad_y ad_b ad_q x_hasPicture d_guests d_kinds d_figures d_minutes d_settings d_hooks d_letters d_letterCount n_room n_order n_weights n_black n_lifts n_begins n_ends n_has n_lifted n_allLifts n_doneAt y_going y_coming y_holds y_latest b_heaps b_piles b_heights b_spots) (wX9_xdnyb ca ad_s ad_x ad_d ad_p ad_n ad_y ad_b ad_q x_hasPicture d_guests d_kinds d_figures d_minutes d_settings d_hooks d_letters d_letterCount (ad_d 0) o.1 o.2.1 o.2.2.1 n_lifts n_begins n_ends n_has n_lifted n_allLifts n_doneAt o.2.2.2.1 o.2.2.2.2.1 o.2.2.2.2.2.1 o.2.2.2.2.2.2.1 o.2.2.2.2.2.2.2.1 o.2.2.2.2.2.2.2.2.1 o.2.2.2.2.2.2.2.2.2.1 o.2.2.2.2.2.2.2.2.2.2) (ad_b 0) := by
  refine zMr_of (Or.inl ⟨_, rfl⟩) (cc := cX9_laid) (maxL := 1) (by decide) rfl (Nat.le_of_ble_eq_true rfl) ?_
  intro p e s m args below meth c A Q ls ⟨hx, hb, hml, hown, hts, hA, hK, hZ, hS⟩ hret hP hD hl
  have hts := fun w h => hts w (List.mem_cons_of_mem _ h)
  have hown : s.vm.findClass RX9 = some m.cls := hown
  have hl : lv_has ls 1 [(0, .ref (ad_x 0))] := hl
  have hin3 := zin_X3
  have hin9 := zin_X9
  unfold fX9_laid at hF
  refine lv_aload_n hx hb dX9_laid_0 rfl (lv_at hl 0 rfl) ?_
  refine va_get (D := D) (ci := 6) (v := .ref (ad_n 0)) (C := RX9) (T := TX9) (N := 6) hx hb hts hin9 hown hK hP 0 rfl rfl 4 (by decide) (hts _ zm_618) (fun _ h9 => h9) rfl dX9_laid_1 ?_
  refine lv_aload_n hx hb dX9_laid_4 rfl (lv_at hl 0 rfl) ?_
  refine va_get (D := D) (ci := 6) (v := .ref (ad_d 0)) (C := RX9) (T := TX9) (N := 6) hx hb hts hin9 hown hK hP 0 rfl rfl 0 (by decide) (hts _ zm_3) (fun _ h9 => h9) rfl dX9_laid_5 ?_
  obtain ⟨o_1, hc_1, hF⟩ := zb hF
  refine zcVv (rest := []) (ws' := (wX9_xdnyb ca ad_s ad_x ad_d ad_p ad_n ad_y ad_b ad_q x_hasPicture d_guests d_kinds d_figures d_minutes d_settings d_hooks d_letters d_letterCount (ad_d 0) o_1.1 o_1.2.1 o_1.2.2.1 n_lifts n_begins n_ends n_has n_lifted n_allLifts n_doneAt o_1.2.2.2.1 o_1.2.2.2.2 y_holds y_latest b_heaps b_piles b_heights b_spots)) (kX3_begin l D ca t ad_n ad_y ad_b ad_d n_room n_order n_weights n_black n_lifts n_begins n_ends n_has n_lifted n_allLifts n_doneAt y_going y_coming y_holds y_latest d_guests d_kinds d_figures d_minutes d_settings d_hooks d_letters d_letterCount fuel _ hc_1) ⟨hx, hb, hml, hown, hts⟩ (zcwV hts zm_619 zm_604 zm_605 zm_568 zm_602 rfl rfl zdv_X3_begin ⟨Nat.le_of_ble_eq_true rfl, Nat.le_of_ble_eq_true rfl⟩) hA hK hZ hP hD hS [8, 9, 10, 11, 12, 13, 14, 15, 16, 17, 18, 19, 2, 3, 4, 5, 6, 7] [0, 1, 20, 21, 22, 23, 24, 25, 26] [0, 1, 21, 22, 23, 24, 25, 26, 9, 10, 11, 12, 13, 14, 15, 16, 17, 18, 19, 20, 2, 3, 4, 5, 6, 7, 8] rfl rfl rfl rfl rfl rfl rfl 2 8 rfl rfl rfl hl.1 (Nat.le_of_ble_eq_true rfl) dX9_laid_8 rfl (fun H locs hP hD hS => ?_)
  refine lv_aload_n hx hb dX9_laid_11 rfl (lv_at hl 0 rfl) ?_
  refine va_get (D := D) (ci := 6) (v := .ref (ad_n 0)) (C := RX9) (T := TX9) (N := 6) hx hb hts hin9 hown hK hP 0 rfl rfl 4 (by decide) (hts _ zm_618) (fun _ h9 => h9) rfl dX9_laid_12 ?_
  refine va_get (D := D) (ci := 2) (v := .ref (ad_y 0)) (C := RX3) (T := TX3) (N := 15) hx hb hts hin3 hown hK hP 8 rfl rfl 1 (by decide) (hts _ zm_746) (fun _ h9 => h9) rfl dX9_laid_15 ?_
  refine lv_aload_n hx hb dX9_laid_18 rfl (lv_at hl 0 rfl) ?_
  refine va_get (D := D) (ci := 6) (v := .ref (ad_d 0)) (C := RX9) (T := TX9) (N := 6) hx hb hts hin9 hown hK hP 0 rfl rfl 0 (by decide) (hts _ zm_3) (fun _ h9 => h9) rfl dX9_laid_19 ?_
  obtain ⟨o_2, hc_2, hF⟩ := zb hF
  refine zcVv (rest := []) (ws' := (wX9_xdnyb ca ad_s ad_x ad_d ad_p ad_n ad_y ad_b ad_q x_hasPicture d_guests d_kinds d_figures d_minutes d_settings d_hooks d_letters d_letterCount (ad_d 0) o_1.1 o_1.2.1 o_1.2.2.1 n_lifts n_begins n_ends n_has n_lifted n_allLifts n_doneAt o_1.2.2.2.1 o_1.2.2.2.2 o_2.1 o_2.2.1 o_2.2.2.1 o_2.2.2.2.1 o_2.2.2.2.2.1 o_2.2.2.2.2.2)) (kX2_layAll l D ca t ad_y ad_b ad_d o_1.2.2.2.1 o_1.2.2.2.2 y_holds y_latest b_heaps b_piles b_heights b_spots d_guests d_kinds d_figures d_minutes d_settings d_hooks d_letters d_letterCount fuel _ hc_2) ⟨hx, hb, hml, hown, hts⟩ (zcwV hts zm_747 zm_715 zm_716 zm_340 zm_713 rfl rfl zdv_X2_layAll ⟨Nat.le_of_ble_eq_true rfl, Nat.le_of_ble_eq_true rfl⟩) hA hK hZ hP hD hS [17, 18, 19, 20, 21, 22, 23, 24, 25, 26, 2, 3, 4, 5, 6, 7] [0, 1, 8, 9, 10, 11, 12, 13, 14, 15, 16] [0, 1, 21, 22, 23, 24, 25, 26, 2, 3, 4, 5, 6, 7, 8, 9, 10, 11, 12, 13, 14, 15, 16, 17, 18, 19, 20] rfl rfl rfl rfl rfl rfl rfl 1 17 rfl rfl rfl hl.1 (Nat.le_of_ble_eq_true rfl) dX9_laid_22 rfl (fun H locs hP hD hS => ?_)
  refine lv_aload_n hx hb dX9_laid_25 rfl (lv_at hl 0 rfl) ?_
  refine va_get (D := D) (ci := 6) (v := .ref (ad_n 0)) (C := RX9) (T := TX9) (N := 6) hx hb hts hin9 hown hK hP 0 rfl rfl 4 (by decide) (hts _ zm_618) (fun _ h9 => h9) rfl dX9_laid_26 ?_
  refine va_get (D := D) (ci := 2) (v := .ref (ad_b 0)) (C := RX3) (T := TX3) (N := 15) hx hb hts hin3 hown hK hP 8 rfl rfl 2 (by decide) (hts _ zm_749) (fun _ h9 => h9) rfl dX9_laid_29 ?_
  obtain rfl := Option.some.inj hF
  exact hret _ _ _ _ hP hD hS dX9_laid_32
theorem zds_X6_brokenAt : yX6_brokenAt.cls ≠ "java/lang/invoke/MethodHandle" ∧ yX6_brokenAt.cls ≠ "java/lang/invoke/VarHandle" ∧ (parseMethodDescriptor yX6_brokenAt.desc).map (fun d => d.parameters.length) = some 1 := by decide +kernel
theorem zds_X6_senselessAt : yX6_senselessAt.cls ≠ "java/lang/invoke/MethodHandle" ∧ yX6_senselessAt.cls ≠ "java/lang/invoke/VarHandle" ∧ (parseMethodDescriptor yX6_senselessAt.desc).map (fun d => d.parameters.length) = some 2 := by decide +kernel
theorem zds_X6_statementsIn : yX6_statementsIn.cls ≠ "java/lang/invoke/MethodHandle" ∧ yX6_statementsIn.cls ≠ "java/lang/invoke/VarHandle" ∧ (parseMethodDescriptor yX6_statementsIn.desc).map (fun d => d.parameters.length) = some 1 := by decide +kernel
abbrev roX9_room : Room := { frames := 6, cells := 0, slots := 0, locals := 133 }
set_option maxHeartbeats 4000000 in
set_option maxRecDepth 100000 in
theorem kX9_room (l : Launch) (D : va_G) (ca : Nat → ClassId) (t : Nat → Nat) (ad_s : Nat → Nat) (ad_x : Nat → Nat) (ad_d : Nat → Nat) (ad_p : Nat → Nat) (ad_n : Nat → Nat) (ad_q : Nat → Nat) (ad_t : Nat → Nat) (ad_m : Nat → Nat) (s_holds : Nat → Int32) (s_kind : Nat → Int32) (s_figure : Nat → Int32) (s_sort : Nat → Int32) (s_size : Nat → Int32) (s_el : Nat → Nat → Int32) (x_hasPicture : Int32) (d_guests : Int32) (d_kinds : Nat → Int32) (d_figures : Nat → Int32) (d_minutes : Nat → Int32) (d_settings : Nat → Int32) (d_hooks : Int32) (d_letters : Nat → Int32) (d_letterCount : Int32) (q_row : Nat → Int32) (q_firstsLifts : Nat → Int32) (q_othersLifts : Nat → Int32) (q_seed : Int32) (q_found : Int32) (q_foundLifts : Int32) (q_mostLifts : Int32) (q_sumOfLifts : Int32) (q_sumOfMissers : Int32) (t_guests : Int32) (t_kinds : Nat → Int32) (t_figures : Nat → Int32) (t_minutes : Nat → Int32) (t_settings : Nat → Int32) (t_hooks : Int32) (t_letters : Nat → Int32) (t_letterCount : Int32) (p1 : Int32) (fuel : Nat) (o : Int32 × Int32 × (Nat → Int32) × (Nat → Int32) × (Nat → Int32) × (Nat → Int32) × Int32 × (Nat → Int32) × Int32 × Int32 × (Nat → Int32) × (Nat → Int32) × (Nat → Int32) × (Nat → Int32) × Int32 × (Nat → Int32) × Int32) (hF : fX9_room fuel s_holds s_sort s_size s_el d_guests d_kinds d_figures d_minutes d_settings d_hooks d_letters d_letterCount t_guests t_kinds t_figures t_minutes t_settings t_hooks t_letters t_letterCount p1 = some o) : zMi l D (zT ca) t yX9_room (.code yX9_room cX9_room 7 (some .int) :: zW) roX9_room [.ref (ad_x 0), .int p1] (wX9_sxdqt ca ad_s ad_x ad_d ad_p ad_n ad_q ad_t ad_m s_holds s_kind s_figure s_sort s_size s_el x_hasPicture d_guests d_kinds d_figures d_minutes d_settings d_hooks d_letters d_letterCount q_row q_firstsLifts q_othersLifts q_seed q_found q_foundLifts q_mostLifts q_sumOfLifts q_sumOfMissers t_guests t_kinds t_figures t_minutes t_settings t_hooks t_letters t_letterCount) (wX9_sxdqt ca ad_s ad_x ad_d ad_p ad_n ad_q ad_t ad_m s_holds s_kind s_figure s_sort s_size s_el x_hasPicture o.2.1 o.2.2.1 o.2.2.2.1 o.2.2.2.2.1 o.2.2.2.2.2.1 o.2.2.2.2.2.2.1 o.2.2.2.2.2.2.2.1 o.2.2.2.2.2.2.2.2.1 q_row q_firstsLifts q_othersLifts q_seed q_found q_foundLifts q_mostLifts q_sumOfLifts q_sumOfMissers o.2.2.2.2.2.2.2.2.2.1 o.2.2.2.2.2.2.2.2.2.2.1 o.2.2.2.2.2.2.2.2.2.2.2.1 o.2.2.2.2.2.2.2.2.2.2.2.2.1 o.2.2.2.2.2.2.2.2.2.2.2.2.2.1 o.2.2.2.2.2.2.2.2.2.2.2.2.2.2.1 o.2.2.2.2.2.2.2.2.2.2.2.2.2.2.2.1 o.2.2.2.2.2.2.2.2.2.2.2.2.2.2.2.2) o.1 := by
  refine zMi_of (cc := cX9_room) (maxL := 7) (by decide) rfl (Nat.le_of_ble_eq_true rfl) ?_
  intro p e s m args below meth c A Q ls ⟨hx, hb, hml, hown, hts, hA, hK, hZ, hS⟩ hret hP hD hl
  have hts := fun w h => hts w (List.mem_cons_of_mem _ h)
  have hown : s.vm.findClass RX9 = some m.cls := hown
  have hl : lv_has ls 7 [(0, .ref (ad_x 0)), (1, .int p1)] := hl
  have hin8 := zin_X8
  have hin9 := zin_X9
  unfold fX9_room at hF
  refine lv_aload_n hx hb dX9_room_0 rfl (lv_at hl 0 rfl) ?_
  refine lv_iload_n hx hb dX9_room_1 rfl (lv_at hl 1 rfl) ?_
  obtain ⟨o_1, hc_1, hF⟩ := zb hF
  refine zcVR (rest := []) (kX9_refusalOfBytes l D ca t ad_s ad_x ad_d ad_p ad_n ad_q s_holds s_kind s_figure s_sort s_size s_el x_hasPicture p1 fuel _ hc_1) ⟨hx, hb, hml, hown, hts⟩ (zcwV hts zm_609 zm_610 zm_611 zm_7 zm_608 rfl rfl zdv_X9_refusalOfBytes ⟨Nat.le_of_ble_eq_true rfl, Nat.le_of_ble_eq_true rfl⟩) hA hK hZ hP hD hS [0, 1, 2, 3, 4, 5, 6, 7, 8, 9, 10, 11, 12, 13, 14, 15, 16, 17] rfl rfl 6 16 rfl rfl rfl hl.1 (Nat.le_of_ble_eq_true rfl) dX9_room_2 rfl ?_
  refine lv_istore_n (lv' := [(2, .int o_1), (0, .ref (ad_x 0)), (1, .int p1)]) hx hb dX9_room_5 rfl hl (by decide) rfl (fun ls hl => ?_)
  refine lv_iload_n hx hb dX9_room_6 rfl (lv_at hl 0 rfl) ?_
  refine lv_if_eq (tgt := 12) hx hb dX9_room_7 (by decide) (fun c_2 => ?_) (fun c_2 => ?_)
  · have hF := zt c_2 hF
    refine lv_aload_n hx hb dX9_room_12 rfl (lv_at hl 1 rfl) ?_
    refine va_get (D := D) (ci := 6) (v := .ref (ad_x 1)) (C := RX9) (T := TX9) (N := 6) hx hb hts hin9 hown hK hP 16 rfl rfl 3 (by decide) (hts _ zm_9) (fun _ h9 => h9) rfl dX9_room_13 ?_
    refine lv_iload_n hx hb dX9_room_16 rfl (lv_at hl 2 rfl) ?_
    obtain ⟨h_3, hF⟩ := zgi hF
    refine z_aald hx hb hK hP 17 3 rfl rfl rfl h_3 dX9_room_17 ?_
    refine lv_astore_n (lv' := [(3, .ref (ad_s (2 * p1.toNatClampNeg))), (2, .int o_1), (0, .ref (ad_x 0)), (1, .int p1)]) hx hb dX9_room_18 rfl hl (by decide) rfl (fun ls hl => ?_)
    refine lv_aload_n hx hb dX9_room_19 rfl (lv_at hl 0 rfl) ?_
    obtain ⟨o_4, hc_4, hF⟩ := zb hF
    refine zcSR (rest := []) (kX6_brokenAt l D ca t ad_s s_holds s_kind s_figure s_sort s_size s_el p1.toNatClampNeg (zin_lt h_3) fuel _ hc_4) ⟨hx, hb, hml, hown, hts⟩ (zcwS hts zm_825 zm_824 zm_596 zm_823 rfl rfl zds_X6_brokenAt ⟨Nat.le_of_ble_eq_true rfl, Nat.le_of_ble_eq_true rfl⟩) hA hK hZ hP hD hS [0, 1, 2, 3, 4, 5, 6, 7, 8, 9, 10, 11, 12, 13, 14, 15] rfl rfl rfl hl.1 (Nat.le_of_ble_eq_true rfl) dX9_room_20 rfl ?_
    refine lv_istore (lv' := [(4, .int o_4), (3, .ref (ad_s (2 * p1.toNatClampNeg))), (2, .int o_1), (0, .ref (ad_x 0)), (1, .int p1)]) hx hb dX9_room_23 hl (by decide) rfl (fun ls hl => ?_)
    refine lv_iload hx hb dX9_room_25 (lv_at hl 0 rfl) ?_
    refine lv_if_lt (tgt := 37) hx hb dX9_room_27 (by decide) (fun c_5 => ?_) (fun c_5 => ?_)
    · have hF := zt c_5 hF
      refine lv_aload_n hx hb dX9_room_37 rfl (lv_at hl 3 rfl) ?_
      refine va_get (D := D) (ci := 6) (v := .ref (ad_q 0)) (C := RX9) (T := TX9) (N := 6) hx hb hts hin9 hown hK hP 16 rfl rfl 5 (by decide) (hts _ zm_663) (fun _ h9 => h9) rfl dX9_room_38 ?_
      refine va_get (D := D) (ci := 5) (v := .ref (ad_t 0)) (C := RX8) (T := TX8) (N := 11) hx hb hts hin8 hown hK hP 24 rfl rfl 0 (by decide) (hts _ zm_826) (fun _ h9 => h9) rfl dX9_room_41 ?_
      refine lv_astore (lv' := [(5, .ref (ad_t 0)), (4, .int o_4), (3, .ref (ad_s (2 * p1.toNatClampNeg))), (2, .int o_1), (0, .ref (ad_x 0)), (1, .int p1)]) hx hb dX9_room_44 hl (by decide) rfl (fun ls hl => ?_)
      refine lv_aload hx hb dX9_room_46 (lv_at hl 0 rfl) ?_
      refine lv_aload_n hx hb dX9_room_48 rfl (lv_at hl 4 rfl) ?_
      refine va_get (D := D) (ci := 6) (v := .ref (ad_d 0)) (C := RX9) (T := TX9) (N := 6) hx hb hts hin9 hown hK hP 16 rfl rfl 0 (by decide) (hts _ zm_3) (fun _ h9 => h9) rfl dX9_room_49 ?_
      obtain ⟨o_6, hc_6, hF⟩ := zb hF
      refine zcVv (rest := []) (ws' := (wX9_sxdqt ca ad_s ad_x ad_d ad_p ad_n ad_q ad_t ad_m s_holds s_kind s_figure s_sort s_size s_el x_hasPicture d_guests d_kinds d_figures d_minutes d_settings d_hooks d_letters d_letterCount q_row q_firstsLifts q_othersLifts q_seed q_found q_foundLifts q_mostLifts q_sumOfLifts q_sumOfMissers o_6.1 o_6.2.1 o_6.2.2.1 o_6.2.2.2.1 o_6.2.2.2.2.1 o_6.2.2.2.2.2.1 o_6.2.2.2.2.2.2.1 o_6.2.2.2.2.2.2.2)) (kX5_copyFrom l D ca t ad_t ad_d t_guests t_kinds t_figures t_minutes t_settings t_hooks t_letters t_letterCount d_guests d_kinds d_figures d_minutes d_settings d_hooks d_letters d_letterCount fuel _ hc_6) ⟨hx, hb, hml, hown, hts⟩ (zcwV hts zm_470 zm_471 zm_472 zm_387 zm_469 rfl rfl zdv_X5_copyFrom ⟨Nat.le_of_ble_eq_true rfl, Nat.le_of_ble_eq_true rfl⟩) hA hK hZ hP hD hS [28, 29, 30, 31, 32, 33, 18, 19, 20, 21, 22, 23] [0, 1, 2, 3, 4, 5, 6, 7, 8, 9, 10, 11, 12, 13, 14, 15, 16, 17, 24, 25, 26, 27] [0, 1, 2, 3, 4, 5, 6, 7, 8, 9, 10, 11, 12, 13, 14, 15, 16, 17, 28, 29, 30, 31, 32, 33, 18, 19, 20, 21, 22, 23, 24, 25, 26, 27] rfl rfl rfl rfl rfl rfl rfl 3 28 rfl rfl rfl hl.1 (Nat.le_of_ble_eq_true rfl) dX9_room_52 rfl (fun H locs hP hD hS => ?_)
      refine lv_aload_n hx hb dX9_room_55 rfl (lv_at hl 2 rfl) ?_
      refine lv_aload hx hb dX9_room_56 (lv_at hl 0 rfl) ?_
      obtain ⟨o_7, hc_7, hF⟩ := zb hF
      refine zcSi (rest := []) (ws' := (wX9_sxdqt ca ad_s ad_x ad_d ad_p ad_n ad_q ad_t ad_m s_holds s_kind s_figure s_sort s_size s_el x_hasPicture d_guests d_kinds d_figures d_minutes d_settings d_hooks d_letters d_letterCount q_row q_firstsLifts q_othersLifts q_seed q_found q_foundLifts q_mostLifts q_sumOfLifts q_sumOfMissers o_7.2.1 o_7.2.2.1 o_7.2.2.2.1 o_7.2.2.2.2.1 o_7.2.2.2.2.2.1 o_7.2.2.2.2.2.2.1 o_7.2.2.2.2.2.2.2.1 o_7.2.2.2.2.2.2.2.2)) (kX6_senselessAt l D ca t ad_s ad_t s_holds s_kind s_figure s_sort s_size s_el o_6.1 o_6.2.1 o_6.2.2.1 o_6.2.2.2.1 o_6.2.2.2.2.1 o_6.2.2.2.2.2.1 o_6.2.2.2.2.2.2.1 o_6.2.2.2.2.2.2.2 p1.toNatClampNeg (zin_lt h_3) fuel _ hc_7) ⟨hx, hb, hml, hown, hts⟩ (zcwS hts zm_829 zm_828 zm_596 zm_827 rfl rfl zds_X6_senselessAt ⟨Nat.le_of_ble_eq_true rfl, Nat.le_of_ble_eq_true rfl⟩) hA hK hZ hP hD hS [0, 1, 2, 3, 4, 5, 6, 7, 8, 9, 10, 11, 12, 13, 14, 15, 28, 29, 30, 31, 32, 33] [16, 17, 18, 19, 20, 21, 22, 23, 24, 25, 26, 27] [12, 13, 14, 15, 16, 17, 18, 19, 20, 21, 22, 23, 24, 25, 26, 27, 0, 1, 2, 3, 4, 5, 6, 7, 8, 9, 10, 11, 28, 29, 30, 31, 32, 33] rfl rfl rfl rfl rfl rfl rfl rfl hl.1 (Nat.le_of_ble_eq_true rfl) dX9_room_58 rfl (fun H locs hP hD hS => ?_)
      refine lv_istore (lv' := [(6, .int o_7.1), (5, .ref (ad_t 0)), (4, .int o_4), (3, .ref (ad_s (2 * p1.toNatClampNeg))), (2, .int o_1), (0, .ref (ad_x 0)), (1, .int p1)]) hx hb dX9_room_61 hl (by decide) rfl (fun ls hl => ?_)
      refine lv_iload hx hb dX9_room_63 (lv_at hl 0 rfl) ?_
      refine lv_if_lt (tgt := 75) hx hb dX9_room_65 (by decide) (fun c_8 => ?_) (fun c_8 => ?_)
      · have hF := zt c_8 hF
        refine lv_aload_n hx hb dX9_room_75 rfl (lv_at hl 5 rfl) ?_
        refine va_get (D := D) (ci := 6) (v := .ref (ad_d 0)) (C := RX9) (T := TX9) (N := 6) hx hb hts hin9 hown hK hP 16 rfl rfl 0 (by decide) (hts _ zm_3) (fun _ h9 => h9) rfl dX9_room_76 ?_
        refine lv_aload hx hb dX9_room_79 (lv_at hl 1 rfl) ?_
        obtain ⟨o_9, hc_9, hF⟩ := zb hF
        refine zcVv (rest := []) (ws' := (wX9_sxdqt ca ad_s ad_x ad_d ad_p ad_n ad_q ad_t ad_m s_holds s_kind s_figure s_sort s_size s_el x_hasPicture o_9.1 o_9.2.1 o_9.2.2.1 o_9.2.2.2.1 o_9.2.2.2.2.1 o_9.2.2.2.2.2.1 o_9.2.2.2.2.2.2.1 o_9.2.2.2.2.2.2.2 q_row q_firstsLifts q_othersLifts q_seed q_found q_foundLifts q_mostLifts q_sumOfLifts q_sumOfMissers o_7.2.1 o_7.2.2.1 o_7.2.2.2.1 o_7.2.2.2.2.1 o_7.2.2.2.2.2.1 o_7.2.2.2.2.2.2.1 o_7.2.2.2.2.2.2.2.1 o_7.2.2.2.2.2.2.2.2)) (kX5_copyFrom l D ca t ad_d ad_t d_guests d_kinds d_figures d_minutes d_settings d_hooks d_letters d_letterCount o_7.2.1 o_7.2.2.1 o_7.2.2.2.1 o_7.2.2.2.2.1 o_7.2.2.2.2.2.1 o_7.2.2.2.2.2.2.1 o_7.2.2.2.2.2.2.2.1 o_7.2.2.2.2.2.2.2.2 fuel _ hc_9) ⟨hx, hb, hml, hown, hts⟩ (zcwV hts zm_470 zm_471 zm_472 zm_387 zm_469 rfl rfl zdv_X5_copyFrom ⟨Nat.le_of_ble_eq_true rfl, Nat.le_of_ble_eq_true rfl⟩) hA hK hZ hP hD hS [18, 19, 20, 21, 22, 23, 28, 29, 30, 31, 32, 33] [0, 1, 2, 3, 4, 5, 6, 7, 8, 9, 10, 11, 12, 13, 14, 15, 16, 17, 24, 25, 26, 27] [0, 1, 2, 3, 4, 5, 6, 7, 8, 9, 10, 11, 12, 13, 14, 15, 16, 17, 22, 23, 24, 25, 26, 27, 18, 19, 20, 21, 28, 29, 30, 31, 32, 33] rfl rfl rfl rfl rfl rfl rfl 3 18 rfl rfl rfl hl.1 (Nat.le_of_ble_eq_true rfl) dX9_room_81 rfl (fun H locs hP hD hS => ?_)
        refine lv_aload_n hx hb dX9_room_84 rfl (lv_at hl 3 rfl) ?_
        obtain ⟨o_10, hc_10, hF⟩ := zb hF
        refine zcSR (rest := []) (kX6_statementsIn l D ca t ad_s s_holds s_kind s_figure s_sort s_size s_el p1.toNatClampNeg (zin_lt h_3) fuel _ hc_10) ⟨hx, hb, hml, hown, hts⟩ (zcwS hts zm_832 zm_831 zm_596 zm_830 rfl rfl zds_X6_statementsIn ⟨Nat.le_of_ble_eq_true rfl, Nat.le_of_ble_eq_true rfl⟩) hA hK hZ hP hD hS [0, 1, 2, 3, 4, 5, 6, 7, 8, 9, 10, 11, 12, 13, 14, 15] rfl rfl rfl hl.1 (Nat.le_of_ble_eq_true rfl) dX9_room_85 rfl ?_
        obtain rfl := Option.some.inj hF
        exact hret _ _ _ _ hP hD hS rfl dX9_room_88
      · have hF := zf c_8 hF
        refine lv_sipush (v := (-2000)) hx hb dX9_room_68 (by decide) ?_
        refine lv_iload hx hb dX9_room_71 (lv_at hl 0 rfl) ?_
        refine lv_isub hx hb dX9_room_73 ?_
        obtain rfl := Option.some.inj hF
        exact hret _ _ _ _ hP hD hS rfl dX9_room_74
    · have hF := zf c_5 hF
      refine lv_sipush (v := (-1000)) hx hb dX9_room_30 (by decide) ?_
      refine lv_iload hx hb dX9_room_33 (lv_at hl 0 rfl) ?_
      refine lv_isub hx hb dX9_room_35 ?_
      obtain rfl := Option.some.inj hF
      exact hret _ _ _ _ hP hD hS rfl dX9_room_36
  · have hF := zf c_2 hF
    refine lv_iload_n hx hb dX9_room_10 rfl (lv_at hl 0 rfl) ?_
    obtain rfl := Option.some.inj hF
    exact hret _ _ _ _ hP hD hS rfl dX9_room_11
theorem zdv_X9_laid : yX9_laid.cls = RX9 ∧ yX9_laid.cls ≠ "java/lang/invoke/MethodHandle" ∧ yX9_laid.cls ≠ "java/lang/invoke/VarHandle" ∧ (parseMethodDescriptor yX9_laid.desc).map (fun d => d.parameters.length) = some 0 := by decide +kernel
abbrev roX9_guest : Room := { frames := 6, cells := 0, slots := 0, locals := 137 }
set_option maxHeartbeats 4000000 in
set_option maxRecDepth 100000 in
theorem kX9_guest (l : Launch) (D : va_G) (ca : Nat → ClassId) (t : Nat → Nat) (ad_s : Nat → Nat) (ad_x : Nat → Nat) (ad_d : Nat → Nat) (ad_p : Nat → Nat) (ad_n : Nat → Nat) (ad_y : Nat → Nat) (ad_b : Nat → Nat) (ad_q : Nat → Nat) (x_hasPicture : Int32) (d_guests : Int32) (d_kinds : Nat → Int32) (d_figures : Nat → Int32) (d_minutes : Nat → Int32) (d_settings : Nat → Int32) (d_hooks : Int32) (d_letters : Nat → Int32) (d_letterCount : Int32) (n_room : Nat) (n_order : Nat → Int32) (n_weights : Nat → Int32) (n_black : Nat → Int32) (n_lifts : Nat → Int32) (n_begins : Nat → Int32) (n_ends : Nat → Int32) (n_has : Nat → Int32) (n_lifted : Nat → Int32) (n_allLifts : Int32) (n_doneAt : Int32) (y_going : Nat → Int32) (y_coming : Nat → Int32) (y_holds : Int32) (y_latest : Int32) (b_heaps : Int32) (b_piles : Nat → Nat → Int32) (b_heights : Nat → Int32) (b_spots : Nat → Int32) (p1 : Int32) (p2 : Int32) (fuel : Nat) (o : Int32 × Nat × (Nat → Int32) × (Nat → Int32) × (Nat → Int32) × (Nat → Int32) × (Nat → Int32) × Int32 × Int32 × Int32 × (Nat → Nat → Int32) × (Nat → Int32) × (Nat → Int32)) (hF : fX9_guest fuel d_guests d_kinds d_figures d_minutes d_settings d_hooks d_letters d_letterCount n_room n_order n_weights n_black y_going y_coming y_holds y_latest b_heaps b_piles b_heights b_spots ad_d p1 p2 = some o) : zMi l D (zT ca) t yX9_guest (.code yX9_guest cX9_guest 3 (some .int) :: zW) roX9_guest [.ref (ad_x 0), .int p1, .int p2] (wX9_xdnyb ca ad_s ad_x ad_d ad_p ad_n ad_y ad_b ad_q x_hasPicture d_guests d_kinds d_figures d_minutes d_settings d_hooks d_letters d_letterCount n_room n_order n_weights n_black n_lifts n_begins n_ends n_has n_lifted n_allLifts n_doneAt y_going y_coming y_holds y_latest b_heaps b_piles b_heights b_spots) (wX9_xdnyb ca ad_s ad_x ad_d ad_p ad_n ad_y ad_b ad_q x_hasPicture d_guests d_kinds d_figures d_minutes d_settings d_hooks d_letters d_letterCount o.2.1 o.2.2.1 o.2.2.2.1 o.2.2.2.2.1 n_lifts n_begins n_ends n_has n_lifted n_allLifts n_doneAt o.2.2.2.2.2.1 o.2.2.2.2.2.2.1 o.2.2.2.2.2.2.2.1 o.2.2.2.2.2.2.2.2.1 o.2.2.2.2.2.2.2.2.2.1 o.2.2.2.2.2.2.2.2.2.2.1 o.2.2.2.2.2.2.2.2.2.2.2.1 o.2.2.2.2.2.2.2.2.2.2.2.2) o.1 := by
  refine zMi_of (cc := cX9_guest) (maxL := 3) (by decide) rfl (Nat.le_of_ble_eq_true rfl) ?_
  intro p e s m args below meth c A Q ls ⟨hx, hb, hml, hown, hts, hA, hK, hZ, hS⟩ hret hP hD hl
  have hts := fun w h => hts w (List.mem_cons_of_mem _ h)
  have hown : s.vm.findClass RX9 = some m.cls := hown
  have hl : lv_has ls 3 [(0, .ref (ad_x 0)), (1, .int p1), (2, .int p2)] := hl
  have hin0 := zin_X0
  have hin5 := zin_X5
  have hin9 := zin_X9
  unfold fX9_guest at hF
  refine lv_aload_n hx hb dX9_guest_0 rfl (lv_at hl 0 rfl) ?_
  refine va_get (D := D) (ci := 6) (v := .ref (ad_d 0)) (C := RX9) (T := TX9) (N := 6) hx hb hts hin9 hown hK hP 0 rfl rfl 0 (by decide) (hts _ zm_3) (fun _ h9 => h9) rfl dX9_guest_1 ?_
  refine lv_iload_n hx hb dX9_guest_4 rfl (lv_at hl 1 rfl) ?_
  obtain ⟨o_1, hc_1, hF⟩ := zb hF
  refine zcVR (rest := []) (kX5_hasGuest l D ca t ad_d d_guests d_kinds d_figures d_minutes d_settings d_hooks d_letters d_letterCount p1 fuel _ hc_1) ⟨hx, hb, hml, hown, hts⟩ (zcwV hts zm_454 zm_455 zm_456 zm_387 zm_453 rfl rfl zdv_X5_hasGuest ⟨Nat.le_of_ble_eq_true rfl, Nat.le_of_ble_eq_true rfl⟩) hA hK hZ hP hD hS [2, 3, 4, 5, 6, 7] rfl rfl 3 2 rfl rfl rfl hl.1 (Nat.le_of_ble_eq_true rfl) dX9_guest_5 rfl ?_
  refine lv_if_ne (tgt := 13) hx hb dX9_guest_8 (by decide) (fun c_2 => ?_) (fun c_2 => ?_)
  · have hF := zf c_2 hF
    refine lv_iload_n hx hb dX9_guest_13 rfl (lv_at hl 2 rfl) ?_
    by_cases c_3 : p2 = 0
    · have hF := zt c_3 hF
      refine lv_tableIn (tgt := 64) (off := 50) hx hb dX9_guest_14 (by rw [c_3]; decide) (by rw [c_3]; decide) (by rw [c_3]; rfl) (by decide) ?_
      refine lv_aload_n hx hb dX9_guest_64 rfl (lv_at hl 0 rfl) ?_
      refine va_get (D := D) (ci := 6) (v := .ref (ad_d 0)) (C := RX9) (T := TX9) (N := 6) hx hb hts hin9 hown hK hP 0 rfl rfl 0 (by decide) (hts _ zm_3) (fun _ h9 => h9) rfl dX9_guest_65 ?_
      refine va_get (D := D) (ci := 3) (v := .ref (ad_d 1)) (C := RX5) (T := TX5) (N := 8) hx hb hts hin5 hown hK hP 2 rfl rfl 1 (by decide) (hts _ zm_833) (fun _ h9 => h9) rfl dX9_guest_68 ?_
      refine lv_iload_n hx hb dX9_guest_71 rfl (lv_at hl 1 rfl) ?_
      obtain ⟨h_4, hF⟩ := zgi hF
      refine va_iald hx hb hK hP 3 0 rfl rfl h_4 dX9_guest_72 ?_
      obtain rfl := Option.some.inj hF
      exact hret _ _ _ _ hP hD hS rfl dX9_guest_73
    · have hF := zf c_3 hF
      by_cases c_5 : p2 = 1
      · have hF := zt c_5 hF
        refine lv_tableIn (tgt := 74) (off := 60) hx hb dX9_guest_14 (by rw [c_5]; decide) (by rw [c_5]; decide) (by rw [c_5]; rfl) (by decide) ?_
        refine lv_aload_n hx hb dX9_guest_74 rfl (lv_at hl 0 rfl) ?_
        refine va_get (D := D) (ci := 6) (v := .ref (ad_d 0)) (C := RX9) (T := TX9) (N := 6) hx hb hts hin9 hown hK hP 0 rfl rfl 0 (by decide) (hts _ zm_3) (fun _ h9 => h9) rfl dX9_guest_75 ?_
        refine va_get (D := D) (ci := 3) (v := .ref (ad_d 2)) (C := RX5) (T := TX5) (N := 8) hx hb hts hin5 hown hK hP 2 rfl rfl 2 (by decide) (hts _ zm_834) (fun _ h9 => h9) rfl dX9_guest_78 ?_
        refine lv_iload_n hx hb dX9_guest_81 rfl (lv_at hl 1 rfl) ?_
        obtain ⟨h_6, hF⟩ := zgi hF
        refine va_iald hx hb hK hP 4 0 rfl rfl h_6 dX9_guest_82 ?_
        obtain rfl := Option.some.inj hF
        exact hret _ _ _ _ hP hD hS rfl dX9_guest_83
      · have hF := zf c_5 hF
        by_cases c_7 : p2 = 2
        · have hF := zt c_7 hF
          refine lv_tableIn (tgt := 84) (off := 70) hx hb dX9_guest_14 (by rw [c_7]; decide) (by rw [c_7]; decide) (by rw [c_7]; rfl) (by decide) ?_
          refine lv_aload_n hx hb dX9_guest_84 rfl (lv_at hl 0 rfl) ?_
          refine va_get (D := D) (ci := 6) (v := .ref (ad_d 0)) (C := RX9) (T := TX9) (N := 6) hx hb hts hin9 hown hK hP 0 rfl rfl 0 (by decide) (hts _ zm_3) (fun _ h9 => h9) rfl dX9_guest_85 ?_
          refine va_get (D := D) (ci := 3) (v := .ref (ad_d 3)) (C := RX5) (T := TX5) (N := 8) hx hb hts hin5 hown hK hP 2 rfl rfl 3 (by decide) (hts _ zm_461) (fun _ h9 => h9) rfl dX9_guest_88 ?_
          refine lv_iload_n hx hb dX9_guest_91 rfl (lv_at hl 1 rfl) ?_
          obtain ⟨h_8, hF⟩ := zgi hF
          refine va_iald hx hb hK hP 5 0 rfl rfl h_8 dX9_guest_92 ?_
          obtain rfl := Option.some.inj hF
          exact hret _ _ _ _ hP hD hS rfl dX9_guest_93
        · have hF := zf c_7 hF
          by_cases c_9 : p2 = 3
          · have hF := zt c_9 hF
            refine lv_tableIn (tgt := 94) (off := 80) hx hb dX9_guest_14 (by rw [c_9]; decide) (by rw [c_9]; decide) (by rw [c_9]; rfl) (by decide) ?_
            refine lv_aload_n hx hb dX9_guest_94 rfl (lv_at hl 0 rfl) ?_
            refine va_get (D := D) (ci := 6) (v := .ref (ad_d 0)) (C := RX9) (T := TX9) (N := 6) hx hb hts hin9 hown hK hP 0 rfl rfl 0 (by decide) (hts _ zm_3) (fun _ h9 => h9) rfl dX9_guest_95 ?_
            refine lv_iload_n hx hb dX9_guest_98 rfl (lv_at hl 1 rfl) ?_
            obtain ⟨o_10, hc_10, hF⟩ := zb hF
            refine zcVR (rest := []) (kX5_goingMinute l D ca t ad_d d_guests d_kinds d_figures d_minutes d_settings d_hooks d_letters d_letterCount p1 fuel _ hc_10) ⟨hx, hb, hml, hown, hts⟩ (zcwV hts zm_835 zm_556 zm_557 zm_387 zm_554 rfl rfl zdv_X5_goingMinute ⟨Nat.le_of_ble_eq_true rfl, Nat.le_of_ble_eq_true rfl⟩) hA hK hZ hP hD hS [2, 3, 4, 5, 6, 7] rfl rfl 3 2 rfl rfl rfl hl.1 (Nat.le_of_ble_eq_true rfl) dX9_guest_99 rfl ?_
            obtain rfl := Option.some.inj hF
            exact hret _ _ _ _ hP hD hS rfl dX9_guest_102
          · have hF := zf c_9 hF
            by_cases c_11 : p2 = 4
            · have hF := zt c_11 hF
              refine lv_tableIn (tgt := 103) (off := 89) hx hb dX9_guest_14 (by rw [c_11]; decide) (by rw [c_11]; decide) (by rw [c_11]; rfl) (by decide) ?_
              refine lv_aload_n hx hb dX9_guest_103 rfl (lv_at hl 0 rfl) ?_
              refine va_get (D := D) (ci := 6) (v := .ref (ad_d 0)) (C := RX9) (T := TX9) (N := 6) hx hb hts hin9 hown hK hP 0 rfl rfl 0 (by decide) (hts _ zm_3) (fun _ h9 => h9) rfl dX9_guest_104 ?_
              refine lv_iload_n hx hb dX9_guest_107 rfl (lv_at hl 1 rfl) ?_
              obtain ⟨o_12, hc_12, hF⟩ := zb hF
              refine zcVR (rest := []) (kX5_weightOf l D ca t ad_d d_guests d_kinds d_figures d_minutes d_settings d_hooks d_letters d_letterCount p1 fuel _ hc_12) ⟨hx, hb, hml, hown, hts⟩ (zcwV hts zm_836 zm_404 zm_405 zm_387 zm_402 rfl rfl zdv_X5_weightOf ⟨Nat.le_of_ble_eq_true rfl, Nat.le_of_ble_eq_true rfl⟩) hA hK hZ hP hD hS [2, 3, 4, 5, 6, 7] rfl rfl 3 2 rfl rfl rfl hl.1 (Nat.le_of_ble_eq_true rfl) dX9_guest_108 rfl ?_
              obtain rfl := Option.some.inj hF
              exact hret _ _ _ _ hP hD hS rfl dX9_guest_111
            · have hF := zf c_11 hF
              by_cases c_13 : p2 = 5
              · have hF := zt c_13 hF
                refine lv_tableIn (tgt := 112) (off := 98) hx hb dX9_guest_14 (by rw [c_13]; decide) (by rw [c_13]; decide) (by rw [c_13]; rfl) (by decide) ?_
                refine lv_aload_n hx hb dX9_guest_112 rfl (lv_at hl 0 rfl) ?_
                refine va_get (D := D) (ci := 6) (v := .ref (ad_d 0)) (C := RX9) (T := TX9) (N := 6) hx hb hts hin9 hown hK hP 0 rfl rfl 0 (by decide) (hts _ zm_3) (fun _ h9 => h9) rfl dX9_guest_113 ?_
                refine va_get (D := D) (ci := 3) (v := .ref (ad_d 1)) (C := RX5) (T := TX5) (N := 8) hx hb hts hin5 hown hK hP 2 rfl rfl 1 (by decide) (hts _ zm_833) (fun _ h9 => h9) rfl dX9_guest_116 ?_
                refine lv_iload_n hx hb dX9_guest_119 rfl (lv_at hl 1 rfl) ?_
                obtain ⟨h_14, hF⟩ := zgi hF
                refine va_iald hx hb hK hP 3 0 rfl rfl h_14 dX9_guest_120 ?_
                obtain ⟨o_15, hc_15, hF⟩ := zb hF
                refine zcSR (rest := []) (kX1_isBlack l D ca t (d_kinds p1.toNatClampNeg) fuel _ hc_15) ⟨hx, hb, hml, hown, hts⟩ (zcwS hts zm_837 zm_561 zm_394 zm_560 rfl rfl zds_X1_isBlack ⟨Nat.le_of_ble_eq_true rfl, Nat.le_of_ble_eq_true rfl⟩) hA hK hZ hP hD hS [] rfl rfl rfl hl.1 (Nat.le_of_ble_eq_true rfl) dX9_guest_121 rfl ?_
                refine lv_if_eq (tgt := 131) hx hb dX9_guest_124 (by decide) (fun c_16 => ?_) (fun c_16 => ?_)
                · have hF := zt c_16 hF
                  refine lv_iconst (v := 0) hx hb dX9_guest_131 (by decide) ?_
                  obtain rfl := Option.some.inj hF
                  exact hret _ _ _ _ hP hD hS rfl dX9_guest_132
                · have hF := zf c_16 hF
                  refine lv_iconst (v := 1) hx hb dX9_guest_127 (by decide) ?_
                  refine lv_goto (tgt := 132) hx hb dX9_guest_128 (by decide) ?_
                  obtain rfl := Option.some.inj hF
                  exact hret _ _ _ _ hP hD hS rfl dX9_guest_132
              · have hF := zf c_13 hF
                by_cases c_17 : p2 = 6
                · have hF := zt c_17 hF
                  refine lv_tableIn (tgt := 133) (off := 119) hx hb dX9_guest_14 (by rw [c_17]; decide) (by rw [c_17]; decide) (by rw [c_17]; rfl) (by decide) ?_
                  refine lv_aload_n hx hb dX9_guest_133 rfl (lv_at hl 0 rfl) ?_
                  refine va_get (D := D) (ci := 6) (v := .ref (ad_d 0)) (C := RX9) (T := TX9) (N := 6) hx hb hts hin9 hown hK hP 0 rfl rfl 0 (by decide) (hts _ zm_3) (fun _ h9 => h9) rfl dX9_guest_134 ?_
                  refine lv_iload_n hx hb dX9_guest_137 rfl (lv_at hl 1 rfl) ?_
                  obtain ⟨o_18, hc_18, hF⟩ := zb hF
                  refine zcVR (rest := []) (kX5_spareOf l D ca t ad_d d_guests d_kinds d_figures d_minutes d_settings d_hooks d_letters d_letterCount p1 fuel _ hc_18) ⟨hx, hb, hml, hown, hts⟩ (zcwV hts zm_838 zm_582 zm_583 zm_387 zm_580 rfl rfl zdv_X5_spareOf ⟨Nat.le_of_ble_eq_true rfl, Nat.le_of_ble_eq_true rfl⟩) hA hK hZ hP hD hS [2, 3, 4, 5, 6, 7] rfl rfl 3 2 rfl rfl rfl hl.1 (Nat.le_of_ble_eq_true rfl) dX9_guest_138 rfl ?_
                  obtain rfl := Option.some.inj hF
                  exact hret _ _ _ _ hP hD hS rfl dX9_guest_141
                · have hF := zf c_17 hF
                  by_cases c_19 : p2 = 7
                  · have hF := zt c_19 hF
                    refine lv_tableIn (tgt := 142) (off := 128) hx hb dX9_guest_14 (by rw [c_19]; decide) (by rw [c_19]; decide) (by rw [c_19]; rfl) (by decide) ?_
                    refine lv_aload_n hx hb dX9_guest_142 rfl (lv_at hl 0 rfl) ?_
                    refine va_get (D := D) (ci := 6) (v := .ref (ad_d 0)) (C := RX9) (T := TX9) (N := 6) hx hb hts hin9 hown hK hP 0 rfl rfl 0 (by decide) (hts _ zm_3) (fun _ h9 => h9) rfl dX9_guest_143 ?_
                    refine lv_iload_n hx hb dX9_guest_146 rfl (lv_at hl 1 rfl) ?_
                    obtain ⟨o_20, hc_20, hF⟩ := zb hF
                    refine zcVR (rest := []) (kX5_hasHook l D ca t ad_d d_guests d_kinds d_figures d_minutes d_settings d_hooks d_letters d_letterCount p1 fuel _ hc_20) ⟨hx, hb, hml, hown, hts⟩ (zcwV hts zm_839 zm_385 zm_386 zm_387 zm_383 rfl rfl zdv_X5_hasHook ⟨Nat.le_of_ble_eq_true rfl, Nat.le_of_ble_eq_true rfl⟩) hA hK hZ hP hD hS [2, 3, 4, 5, 6, 7] rfl rfl 3 2 rfl rfl rfl hl.1 (Nat.le_of_ble_eq_true rfl) dX9_guest_147 rfl ?_
                    refine lv_if_eq (tgt := 157) hx hb dX9_guest_150 (by decide) (fun c_21 => ?_) (fun c_21 => ?_)
                    · have hF := zt c_21 hF
                      refine lv_iconst (v := 0) hx hb dX9_guest_157 (by decide) ?_
                      obtain rfl := Option.some.inj hF
                      exact hret _ _ _ _ hP hD hS rfl dX9_guest_158
                    · have hF := zf c_21 hF
                      refine lv_iconst (v := 1) hx hb dX9_guest_153 (by decide) ?_
                      refine lv_goto (tgt := 158) hx hb dX9_guest_154 (by decide) ?_
                      obtain rfl := Option.some.inj hF
                      exact hret _ _ _ _ hP hD hS rfl dX9_guest_158
                  · have hF := zf c_19 hF
                    by_cases c_22 : p2 = 8
                    · have hF := zt c_22 hF
                      refine lv_tableIn (tgt := 159) (off := 145) hx hb dX9_guest_14 (by rw [c_22]; decide) (by rw [c_22]; decide) (by rw [c_22]; rfl) (by decide) ?_
                      refine lv_aload_n hx hb dX9_guest_159 rfl (lv_at hl 0 rfl) ?_
                      obtain ⟨o_23, hc_23, hF⟩ := zb hF
                      refine zcVr (rest := []) (ws' := (wX9_xdnyb ca ad_s ad_x ad_d ad_p ad_n ad_y ad_b ad_q x_hasPicture d_guests d_kinds d_figures d_minutes d_settings d_hooks d_letters d_letterCount (ad_d 0) o_23.1 o_23.2.1 o_23.2.2.1 n_lifts n_begins n_ends n_has n_lifted n_allLifts n_doneAt o_23.2.2.2.1 o_23.2.2.2.2.1 o_23.2.2.2.2.2.1 o_23.2.2.2.2.2.2.1 o_23.2.2.2.2.2.2.2.1 o_23.2.2.2.2.2.2.2.2.1 o_23.2.2.2.2.2.2.2.2.2.1 o_23.2.2.2.2.2.2.2.2.2.2)) (kX9_laid l D ca t ad_s ad_x ad_d ad_p ad_n ad_y ad_b ad_q x_hasPicture d_guests d_kinds d_figures d_minutes d_settings d_hooks d_letters d_letterCount n_room n_order n_weights n_black n_lifts n_begins n_ends n_has n_lifted n_allLifts n_doneAt y_going y_coming y_holds y_latest b_heaps b_piles b_heights b_spots fuel _ hc_23) ⟨hx, hb, hml, hown, hts⟩ (zcwV hts zm_841 zm_842 zm_843 zm_7 zm_840 rfl rfl zdv_X9_laid ⟨Nat.le_of_ble_eq_true rfl, Nat.le_of_ble_eq_true rfl⟩) hA hK hZ hP hD hS [0, 1, 2, 3, 4, 5, 6, 7, 8, 9, 10, 11, 12, 13, 14, 15, 16, 17, 18, 19, 20, 21, 22, 23, 24, 25, 26] [] [0, 1, 2, 3, 4, 5, 6, 7, 8, 9, 10, 11, 12, 13, 14, 15, 16, 17, 18, 19, 20, 21, 22, 23, 24, 25, 26] rfl rfl rfl rfl rfl rfl rfl 6 0 rfl rfl rfl hl.1 (Nat.le_of_ble_eq_true rfl) dX9_guest_160 rfl (fun H locs hP hD hS => ?_)
                      refine va_get (D := D) (ci := 0) (v := .ref (ad_b 6)) (C := RX0) (T := TX0) (N := 4) hx hb hts hin0 hown hK hP 20 rfl rfl 3 (by decide) (hts _ zm_844) (fun _ h9 => h9) rfl dX9_guest_163 ?_
                      refine lv_iload_n hx hb dX9_guest_166 rfl (lv_at hl 1 rfl) ?_
                      obtain ⟨h_24, hF⟩ := zgi hF
                      refine va_iald hx hb hK hP 26 0 rfl rfl h_24 dX9_guest_167 ?_
                      obtain rfl := Option.some.inj hF
                      exact hret _ _ _ _ hP hD hS rfl dX9_guest_168
                    · have hF := zf c_22 hF
                      refine lv_tableOut (tgt := 169) hx hb dX9_guest_14 (ztab (lo := 0) (hi := 8) (fun k h1 h2 => by rcases (show k = 0 ∨ k = 1 ∨ k = 2 ∨ k = 3 ∨ k = 4 ∨ k = 5 ∨ k = 6 ∨ k = 7 ∨ k = 8 by omega) with rfl | rfl | rfl | rfl | rfl | rfl | rfl | rfl | rfl <;> first | exact c_3 | exact c_5 | exact c_7 | exact c_9 | exact c_11 | exact c_13 | exact c_17 | exact c_19 | exact c_22)) (by decide) ?_
                      refine lv_iconst (v := (-1)) hx hb dX9_guest_169 (by decide) ?_
                      obtain rfl := Option.some.inj hF
                      exact hret _ _ _ _ hP hD hS rfl dX9_guest_170
  · have hF := zt c_2 hF
    refine lv_iconst (v := (-1)) hx hb dX9_guest_11 (by decide) ?_
    obtain rfl := Option.some.inj hF
    exact hret _ _ _ _ hP hD hS rfl dX9_guest_12
abbrev roX9_heap : Room := { frames := 6, cells := 0, slots := 0, locals := 137 }
set_option maxHeartbeats 4000000 in
set_option maxRecDepth 100000 in
theorem kX9_heap (l : Launch) (D : va_G) (ca : Nat → ClassId) (t : Nat → Nat) (ad_s : Nat → Nat) (ad_x : Nat → Nat) (ad_d : Nat → Nat) (ad_p : Nat → Nat) (ad_n : Nat → Nat) (ad_y : Nat → Nat) (ad_b : Nat → Nat) (ad_q : Nat → Nat) (x_hasPicture : Int32) (d_guests : Int32) (d_kinds : Nat → Int32) (d_figures : Nat → Int32) (d_minutes : Nat → Int32) (d_settings : Nat → Int32) (d_hooks : Int32) (d_letters : Nat → Int32) (d_letterCount : Int32) (n_room : Nat) (n_order : Nat → Int32) (n_weights : Nat → Int32) (n_black : Nat → Int32) (n_lifts : Nat → Int32) (n_begins : Nat → Int32) (n_ends : Nat → Int32) (n_has : Nat → Int32) (n_lifted : Nat → Int32) (n_allLifts : Int32) (n_doneAt : Int32) (y_going : Nat → Int32) (y_coming : Nat → Int32) (y_holds : Int32) (y_latest : Int32) (b_heaps : Int32) (b_piles : Nat → Nat → Int32) (b_heights : Nat → Int32) (b_spots : Nat → Int32) (p1 : Int32) (p2 : Int32) (fuel : Nat) (o : Int32 × Nat × (Nat → Int32) × (Nat → Int32) × (Nat → Int32) × (Nat → Int32) × (Nat → Int32) × Int32 × Int32 × Int32 × (Nat → Nat → Int32) × (Nat → Int32) × (Nat → Int32)) (hF : fX9_heap fuel d_guests d_kinds d_figures d_minutes d_settings d_hooks d_letters d_letterCount n_room n_order n_weights n_black y_going y_coming y_holds y_latest b_heaps b_piles b_heights b_spots ad_d p1 p2 = some o) : zMi l D (zT ca) t yX9_heap (.code yX9_heap cX9_heap 4 (some .int) :: zW) roX9_heap [.ref (ad_x 0), .int p1, .int p2] (wX9_xdnyb ca ad_s ad_x ad_d ad_p ad_n ad_y ad_b ad_q x_hasPicture d_guests d_kinds d_figures d_minutes d_settings d_hooks d_letters d_letterCount n_room n_order n_weights n_black n_lifts n_begins n_ends n_has n_lifted n_allLifts n_doneAt y_going y_coming y_holds y_latest b_heaps b_piles b_heights b_spots) (wX9_xdnyb ca ad_s ad_x ad_d ad_p ad_n ad_y ad_b ad_q x_hasPicture d_guests d_kinds d_figures d_minutes d_settings d_hooks d_letters d_letterCount o.2.1 o.2.2.1 o.2.2.2.1 o.2.2.2.2.1 n_lifts n_begins n_ends n_has n_lifted n_allLifts n_doneAt o.2.2.2.2.2.1 o.2.2.2.2.2.2.1 o.2.2.2.2.2.2.2.1 o.2.2.2.2.2.2.2.2.1 o.2.2.2.2.2.2.2.2.2.1 o.2.2.2.2.2.2.2.2.2.2.1 o.2.2.2.2.2.2.2.2.2.2.2.1 o.2.2.2.2.2.2.2.2.2.2.2.2) o.1 := by
  refine zMi_of (cc := cX9_heap) (maxL := 4) (by decide) rfl (Nat.le_of_ble_eq_true rfl) ?_
  intro p e s m args below meth c A Q ls ⟨hx, hb, hml, hown, hts, hA, hK, hZ, hS⟩ hret hP hD hl
  have hts := fun w h => hts w (List.mem_cons_of_mem _ h)
  have hown : s.vm.findClass RX9 = some m.cls := hown
  have hl : lv_has ls 4 [(0, .ref (ad_x 0)), (1, .int p1), (2, .int p2)] := hl
  have hin0 := zin_X0
  unfold fX9_heap at hF
  refine lv_iload_n hx hb dX9_heap_0 rfl (lv_at hl 1 rfl) ?_
  obtain ⟨o_1, hc_1, hF⟩ := zb hF
  refine zcSR (rest := []) (kX9_isHeap l D ca t p1 fuel _ hc_1) ⟨hx, hb, hml, hown, hts⟩ (zcwS hts zm_745 zm_308 zm_7 zm_307 rfl rfl zds_X9_isHeap ⟨Nat.le_of_ble_eq_true rfl, Nat.le_of_ble_eq_true rfl⟩) hA hK hZ hP hD hS [] rfl rfl rfl hl.1 (Nat.le_of_ble_eq_true rfl) dX9_heap_1 rfl ?_
  refine lv_if_eq (tgt := 12) hx hb dX9_heap_4 (by decide) (fun c_2 => ?_) (fun c_2 => ?_)
  · have hF := zt c_2 hF
    refine lv_iconst (v := (-1)) hx hb dX9_heap_12 (by decide) ?_
    obtain rfl := Option.some.inj hF
    exact hret _ _ _ _ hP hD hS rfl dX9_heap_13
  · have hF := zf c_2 hF
    refine lv_iload_n hx hb dX9_heap_7 rfl (lv_at hl 2 rfl) ?_
    refine lv_iconst (v := (-1)) hx hb dX9_heap_8 (by decide) ?_
    refine lv_icmp_ge (tgt := 14) hx hb dX9_heap_9 (by decide) (fun c_3 => ?_) (fun c_3 => ?_)
    · have hF := zt c_3 hF
      refine lv_aload_n hx hb dX9_heap_14 rfl (lv_at hl 0 rfl) ?_
      obtain ⟨o_4, hc_4, hF⟩ := zb hF
      refine zcVr (rest := []) (ws' := (wX9_xdnyb ca ad_s ad_x ad_d ad_p ad_n ad_y ad_b ad_q x_hasPicture d_guests d_kinds d_figures d_minutes d_settings d_hooks d_letters d_letterCount (ad_d 0) o_4.1 o_4.2.1 o_4.2.2.1 n_lifts n_begins n_ends n_has n_lifted n_allLifts n_doneAt o_4.2.2.2.1 o_4.2.2.2.2.1 o_4.2.2.2.2.2.1 o_4.2.2.2.2.2.2.1 o_4.2.2.2.2.2.2.2.1 o_4.2.2.2.2.2.2.2.2.1 o_4.2.2.2.2.2.2.2.2.2.1 o_4.2.2.2.2.2.2.2.2.2.2)) (kX9_laid l D ca t ad_s ad_x ad_d ad_p ad_n ad_y ad_b ad_q x_hasPicture d_guests d_kinds d_figures d_minutes d_settings d_hooks d_letters d_letterCount n_room n_order n_weights n_black n_lifts n_begins n_ends n_has n_lifted n_allLifts n_doneAt y_going y_coming y_holds y_latest b_heaps b_piles b_heights b_spots fuel _ hc_4) ⟨hx, hb, hml, hown, hts⟩ (zcwV hts zm_841 zm_842 zm_843 zm_7 zm_840 rfl rfl zdv_X9_laid ⟨Nat.le_of_ble_eq_true rfl, Nat.le_of_ble_eq_true rfl⟩) hA hK hZ hP hD hS [0, 1, 2, 3, 4, 5, 6, 7, 8, 9, 10, 11, 12, 13, 14, 15, 16, 17, 18, 19, 20, 21, 22, 23, 24, 25, 26] [] [0, 1, 2, 3, 4, 5, 6, 7, 8, 9, 10, 11, 12, 13, 14, 15, 16, 17, 18, 19, 20, 21, 22, 23, 24, 25, 26] rfl rfl rfl rfl rfl rfl rfl 6 0 rfl rfl rfl hl.1 (Nat.le_of_ble_eq_true rfl) dX9_heap_15 rfl (fun H locs hP hD hS => ?_)
      refine lv_astore_n (lv' := [(3, .ref (ad_b 0)), (0, .ref (ad_x 0)), (1, .int p1), (2, .int p2)]) hx hb dX9_heap_18 rfl hl (by decide) rfl (fun ls hl => ?_)
      refine lv_iload_n hx hb dX9_heap_19 rfl (lv_at hl 3 rfl) ?_
      refine lv_iconst (v := (-1)) hx hb dX9_heap_20 (by decide) ?_
      refine lv_icmp_ne (tgt := 33) hx hb dX9_heap_21 (by decide) (fun c_5 => ?_) (fun c_5 => ?_)
      · have hF := zf c_5 hF
        refine lv_aload_n hx hb dX9_heap_33 rfl (lv_at hl 0 rfl) ?_
        refine lv_iload_n hx hb dX9_heap_34 rfl (lv_at hl 2 rfl) ?_
        refine lv_iload_n hx hb dX9_heap_35 rfl (lv_at hl 3 rfl) ?_
        obtain ⟨o_6, hc_6, hF⟩ := zb hF
        refine zcVR (rest := []) (kX0_coatAt l D ca t ad_b o_4.2.2.2.2.2.2.2.1 o_4.2.2.2.2.2.2.2.2.1 o_4.2.2.2.2.2.2.2.2.2.1 o_4.2.2.2.2.2.2.2.2.2.2 p1 p2 fuel _ hc_6) ⟨hx, hb, hml, hown, hts⟩ (zcwV hts zm_750 zm_438 zm_439 zm_314 zm_436 rfl rfl zdv_X0_coatAt ⟨Nat.le_of_ble_eq_true rfl, Nat.le_of_ble_eq_true rfl⟩) hA hK hZ hP hD hS [20, 21, 22, 23, 24, 25, 26] rfl rfl 0 20 rfl rfl rfl hl.1 (Nat.le_of_ble_eq_true rfl) dX9_heap_36 rfl ?_
        obtain rfl := Option.some.inj hF
        exact hret _ _ _ _ hP hD hS rfl dX9_heap_39
      · have hF := zt c_5 hF
        refine lv_aload_n hx hb dX9_heap_24 rfl (lv_at hl 0 rfl) ?_
        refine va_get (D := D) (ci := 0) (v := .ref (ad_b 5)) (C := RX0) (T := TX0) (N := 4) hx hb hts hin0 hown hK hP 20 rfl rfl 2 (by decide) (hts _ zm_845) (fun _ h9 => h9) rfl dX9_heap_25 ?_
        refine lv_iload_n hx hb dX9_heap_28 rfl (lv_at hl 2 rfl) ?_
        obtain ⟨h_7, hF⟩ := zgi hF
        refine va_iald hx hb hK hP 25 0 rfl rfl h_7 dX9_heap_29 ?_
        refine lv_goto (tgt := 39) hx hb dX9_heap_30 (by decide) ?_
        obtain rfl := Option.some.inj hF
        exact hret _ _ _ _ hP hD hS rfl dX9_heap_39
    · have hF := zf c_3 hF
      refine lv_iconst (v := (-1)) hx hb dX9_heap_12 (by decide) ?_
      obtain rfl := Option.some.inj hF
      exact hret _ _ _ _ hP hD hS rfl dX9_heap_13
theorem zdv_X0_coatsAbove : yX0_coatsAbove.cls = RX0 ∧ yX0_coatsAbove.cls ≠ "java/lang/invoke/MethodHandle" ∧ yX0_coatsAbove.cls ≠ "java/lang/invoke/VarHandle" ∧ (parseMethodDescriptor yX0_coatsAbove.desc).map (fun d => d.parameters.length) = some 1 := by decide +kernel
abbrev roX9_above : Room := { frames := 6, cells := 0, slots := 0, locals := 137 }
set_option maxHeartbeats 4000000 in
set_option maxRecDepth 100000 in
theorem kX9_above (l : Launch) (D : va_G) (ca : Nat → ClassId) (t : Nat → Nat) (ad_s : Nat → Nat) (ad_x : Nat → Nat) (ad_d : Nat → Nat) (ad_p : Nat → Nat) (ad_n : Nat → Nat) (ad_y : Nat → Nat) (ad_b : Nat → Nat) (ad_q : Nat → Nat) (x_hasPicture : Int32) (d_guests : Int32) (d_kinds : Nat → Int32) (d_figures : Nat → Int32) (d_minutes : Nat → Int32) (d_settings : Nat → Int32) (d_hooks : Int32) (d_letters : Nat → Int32) (d_letterCount : Int32) (n_room : Nat) (n_order : Nat → Int32) (n_weights : Nat → Int32) (n_black : Nat → Int32) (n_lifts : Nat → Int32) (n_begins : Nat → Int32) (n_ends : Nat → Int32) (n_has : Nat → Int32) (n_lifted : Nat → Int32) (n_allLifts : Int32) (n_doneAt : Int32) (y_going : Nat → Int32) (y_coming : Nat → Int32) (y_holds : Int32) (y_latest : Int32) (b_heaps : Int32) (b_piles : Nat → Nat → Int32) (b_heights : Nat → Int32) (b_spots : Nat → Int32) (p1 : Int32) (fuel : Nat) (o : Int32 × Nat × (Nat → Int32) × (Nat → Int32) × (Nat → Int32) × (Nat → Int32) × (Nat → Int32) × Int32 × Int32 × Int32 × (Nat → Nat → Int32) × (Nat → Int32) × (Nat → Int32)) (hF : fX9_above fuel d_guests d_kinds d_figures d_minutes d_settings d_hooks d_letters d_letterCount n_room n_order n_weights n_black y_going y_coming y_holds y_latest b_heaps b_piles b_heights b_spots ad_d p1 = some o) : zMi l D (zT ca) t yX9_above (.code yX9_above cX9_above 2 (some .int) :: zW) roX9_above [.ref (ad_x 0), .int p1] (wX9_xdnyb ca ad_s ad_x ad_d ad_p ad_n ad_y ad_b ad_q x_hasPicture d_guests d_kinds d_figures d_minutes d_settings d_hooks d_letters d_letterCount n_room n_order n_weights n_black n_lifts n_begins n_ends n_has n_lifted n_allLifts n_doneAt y_going y_coming y_holds y_latest b_heaps b_piles b_heights b_spots) (wX9_xdnyb ca ad_s ad_x ad_d ad_p ad_n ad_y ad_b ad_q x_hasPicture d_guests d_kinds d_figures d_minutes d_settings d_hooks d_letters d_letterCount o.2.1 o.2.2.1 o.2.2.2.1 o.2.2.2.2.1 n_lifts n_begins n_ends n_has n_lifted n_allLifts n_doneAt o.2.2.2.2.2.1 o.2.2.2.2.2.2.1 o.2.2.2.2.2.2.2.1 o.2.2.2.2.2.2.2.2.1 o.2.2.2.2.2.2.2.2.2.1 o.2.2.2.2.2.2.2.2.2.2.1 o.2.2.2.2.2.2.2.2.2.2.2.1 o.2.2.2.2.2.2.2.2.2.2.2.2) o.1 := by
  refine zMi_of (cc := cX9_above) (maxL := 2) (by decide) rfl (Nat.le_of_ble_eq_true rfl) ?_
  intro p e s m args below meth c A Q ls ⟨hx, hb, hml, hown, hts, hA, hK, hZ, hS⟩ hret hP hD hl
  have hts := fun w h => hts w (List.mem_cons_of_mem _ h)
  have hown : s.vm.findClass RX9 = some m.cls := hown
  have hl : lv_has ls 2 [(0, .ref (ad_x 0)), (1, .int p1)] := hl
  have hin9 := zin_X9
  unfold fX9_above at hF
  refine lv_aload_n hx hb dX9_above_0 rfl (lv_at hl 0 rfl) ?_
  refine va_get (D := D) (ci := 6) (v := .ref (ad_d 0)) (C := RX9) (T := TX9) (N := 6) hx hb hts hin9 hown hK hP 0 rfl rfl 0 (by decide) (hts _ zm_3) (fun _ h9 => h9) rfl dX9_above_1 ?_
  refine lv_iload_n hx hb dX9_above_4 rfl (lv_at hl 1 rfl) ?_
  obtain ⟨o_1, hc_1, hF⟩ := zb hF
  refine zcVR (rest := []) (kX5_hasGuest l D ca t ad_d d_guests d_kinds d_figures d_minutes d_settings d_hooks d_letters d_letterCount p1 fuel _ hc_1) ⟨hx, hb, hml, hown, hts⟩ (zcwV hts zm_454 zm_455 zm_456 zm_387 zm_453 rfl rfl zdv_X5_hasGuest ⟨Nat.le_of_ble_eq_true rfl, Nat.le_of_ble_eq_true rfl⟩) hA hK hZ hP hD hS [2, 3, 4, 5, 6, 7] rfl rfl 3 2 rfl rfl rfl hl.1 (Nat.le_of_ble_eq_true rfl) dX9_above_5 rfl ?_
  refine lv_if_eq (tgt := 22) hx hb dX9_above_8 (by decide) (fun c_2 => ?_) (fun c_2 => ?_)
  · have hF := zt c_2 hF
    refine lv_iconst (v := (-1)) hx hb dX9_above_22 (by decide) ?_
    obtain rfl := Option.some.inj hF
    exact hret _ _ _ _ hP hD hS rfl dX9_above_23
  · have hF := zf c_2 hF
    refine lv_aload_n hx hb dX9_above_11 rfl (lv_at hl 0 rfl) ?_
    obtain ⟨o_3, hc_3, hF⟩ := zb hF
    refine zcVr (rest := []) (ws' := (wX9_xdnyb ca ad_s ad_x ad_d ad_p ad_n ad_y ad_b ad_q x_hasPicture d_guests d_kinds d_figures d_minutes d_settings d_hooks d_letters d_letterCount (ad_d 0) o_3.1 o_3.2.1 o_3.2.2.1 n_lifts n_begins n_ends n_has n_lifted n_allLifts n_doneAt o_3.2.2.2.1 o_3.2.2.2.2.1 o_3.2.2.2.2.2.1 o_3.2.2.2.2.2.2.1 o_3.2.2.2.2.2.2.2.1 o_3.2.2.2.2.2.2.2.2.1 o_3.2.2.2.2.2.2.2.2.2.1 o_3.2.2.2.2.2.2.2.2.2.2)) (kX9_laid l D ca t ad_s ad_x ad_d ad_p ad_n ad_y ad_b ad_q x_hasPicture d_guests d_kinds d_figures d_minutes d_settings d_hooks d_letters d_letterCount n_room n_order n_weights n_black n_lifts n_begins n_ends n_has n_lifted n_allLifts n_doneAt y_going y_coming y_holds y_latest b_heaps b_piles b_heights b_spots fuel _ hc_3) ⟨hx, hb, hml, hown, hts⟩ (zcwV hts zm_841 zm_842 zm_843 zm_7 zm_840 rfl rfl zdv_X9_laid ⟨Nat.le_of_ble_eq_true rfl, Nat.le_of_ble_eq_true rfl⟩) hA hK hZ hP hD hS [0, 1, 2, 3, 4, 5, 6, 7, 8, 9, 10, 11, 12, 13, 14, 15, 16, 17, 18, 19, 20, 21, 22, 23, 24, 25, 26] [] [0, 1, 2, 3, 4, 5, 6, 7, 8, 9, 10, 11, 12, 13, 14, 15, 16, 17, 18, 19, 20, 21, 22, 23, 24, 25, 26] rfl rfl rfl rfl rfl rfl rfl 6 0 rfl rfl rfl hl.1 (Nat.le_of_ble_eq_true rfl) dX9_above_12 rfl (fun H locs hP hD hS => ?_)
    refine lv_iload_n hx hb dX9_above_15 rfl (lv_at hl 1 rfl) ?_
    obtain ⟨o_4, hc_4, hF⟩ := zb hF
    refine zcVR (rest := []) (kX0_coatsAbove l D ca t ad_b o_3.2.2.2.2.2.2.2.1 o_3.2.2.2.2.2.2.2.2.1 o_3.2.2.2.2.2.2.2.2.2.1 o_3.2.2.2.2.2.2.2.2.2.2 p1 fuel _ hc_4) ⟨hx, hb, hml, hown, hts⟩ (zcwV hts zm_847 zm_848 zm_849 zm_314 zm_846 rfl rfl zdv_X0_coatsAbove ⟨Nat.le_of_ble_eq_true rfl, Nat.le_of_ble_eq_true rfl⟩) hA hK hZ hP hD hS [20, 21, 22, 23, 24, 25, 26] rfl rfl 0 20 rfl rfl rfl hl.1 (Nat.le_of_ble_eq_true rfl) dX9_above_16 rfl ?_
    refine lv_goto (tgt := 23) hx hb dX9_above_19 (by decide) ?_
    obtain rfl := Option.some.inj hF
    exact hret _ _ _ _ hP hD hS rfl dX9_above_23
