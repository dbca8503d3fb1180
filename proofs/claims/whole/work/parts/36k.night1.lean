theorem zdv_X0_moveFrom : yX0_moveFrom.cls = RX0 ∧ yX0_moveFrom.cls ≠ "java/lang/invoke/MethodHandle" ∧ yX0_moveFrom.cls ≠ "java/lang/invoke/VarHandle" ∧ (parseMethodDescriptor yX0_moveFrom.desc).map (fun d => d.parameters.length) = some 2 := by decide +kernel
theorem zdv_X3_takes : yX3_takes.cls = RX3 ∧ yX3_takes.cls ≠ "java/lang/invoke/MethodHandle" ∧ yX3_takes.cls ≠ "java/lang/invoke/VarHandle" ∧ (parseMethodDescriptor yX3_takes.desc).map (fun d => d.parameters.length) = some 2 := by decide +kernel
abbrev roX3_dig : Room := { frames := 2, cells := 0, slots := 0, locals := 46 }
set_option maxHeartbeats 4000000 in
set_option maxRecDepth 100000 in
theorem kX3_dig (l : Launch) (D : va_G) (ca : Nat → ClassId) (t : Nat → Nat) (ad_n : Nat → Nat) (ad_y : Nat → Nat) (ad_b : Nat → Nat) (ad_r : Nat → Nat) (n_order : Nat → Int32) (n_weights : Nat → Int32) (n_black : Nat → Int32) (n_lifts : Nat → Int32) (n_begins : Nat → Int32) (n_ends : Nat → Int32) (n_has : Nat → Int32) (n_lifted : Nat → Int32) (n_allLifts : Int32) (n_doneAt : Int32) (b_heaps : Int32) (b_piles : Nat → Nat → Int32) (b_heights : Nat → Int32) (b_spots : Nat → Int32) (r_guests : Int32) (r_kinds : Nat → Int32) (r_figures : Nat → Int32) (r_minutes : Nat → Int32) (r_settings : Nat → Int32) (r_hooks : Int32) (r_letters : Nat → Int32) (r_letterCount : Int32) (p1 : Int32) (p2 : Int32) (fuel : Nat) (o : (Nat → Int32) × (Nat → Int32) × (Nat → Int32) × Int32 × (Nat → Nat → Int32) × (Nat → Int32) × (Nat → Int32)) (hF : fX3_dig fuel n_weights n_black n_lifts n_has n_lifted n_allLifts b_heaps b_piles b_heights b_spots r_settings p1 p2 = some o) : zMv l D (zT ca) t yX3_dig (.code yX3_dig cX3_dig 5 none :: zW) roX3_dig [.ref (ad_n 0), .int p1, .int p2] (wX3_nbr ca ad_n ad_y ad_b ad_r (ad_r 0) n_order n_weights n_black n_lifts n_begins n_ends n_has n_lifted n_allLifts n_doneAt b_heaps b_piles b_heights b_spots r_guests r_kinds r_figures r_minutes r_settings r_hooks r_letters r_letterCount) (wX3_nbr ca ad_n ad_y ad_b ad_r (ad_r 0) n_order n_weights n_black o.1 n_begins n_ends o.2.1 o.2.2.1 o.2.2.2.1 n_doneAt b_heaps o.2.2.2.2.1 o.2.2.2.2.2.1 o.2.2.2.2.2.2 r_guests r_kinds r_figures r_minutes r_settings r_hooks r_letters r_letterCount) := by
  refine zMv_of (cc := cX3_dig) (maxL := 5) (by decide) rfl (Nat.le_of_ble_eq_true rfl) ?_
  intro p e s m args below meth c A Q ls ⟨hx, hb, hml, hown, hts, hA, hK, hZ, hS⟩ hret hP hD hl
  have hts := fun w h => hts w (List.mem_cons_of_mem _ h)
  have hown : s.vm.findClass RX3 = some m.cls := hown
  have hl : lv_has ls 5 [(0, .ref (ad_n 0)), (1, .int p1), (2, .int p2)] := hl
  have hin0 := zin_X0
  have hin3 := zin_X3
  have hin5 := zin_X5
  have j168 : ∀ (v3 : Int32) (v4 : Int32) (n_lifts : Nat → Int32) (n_has : Nat → Int32) (n_lifted : Nat → Int32) (n_allLifts : Int32) (b_piles : Nat → Nat → Int32) (b_heights : Nat → Int32) (b_spots : Nat → Int32) (H : Heap) (locs : List Loc), fX3_dig_J168 fuel p2 v3 v4 n_lifts n_has n_lifted n_allLifts b_piles b_heights b_spots = some o → va_P D vwCl (wX3_nbr ca ad_n ad_y ad_b ad_r (ad_r 0) n_order n_weights n_black n_lifts n_begins n_ends n_has n_lifted n_allLifts n_doneAt b_heaps b_piles b_heights b_spots r_guests r_kinds r_figures r_minutes r_settings r_hooks r_letters r_letterCount) H → va_D A (wX3_nbr ca ad_n ad_y ad_b ad_r (ad_r 0) n_order n_weights n_black n_lifts n_begins n_ends n_has n_lifted n_allLifts n_doneAt b_heaps b_piles b_heights b_spots r_guests r_kinds r_figures r_minutes r_settings r_hooks r_letters r_letterCount) → va_S A s.heap H locs → ∀ ls : Array Slot, lv_has ls 5 [(0, .ref (ad_n 0)), (2, .int p2), (3, .int v3), (4, .int v4)] → W p l e roX3_dig s m args below meth c H locs 0 0 Q (F0 m 168 ls []) := by
    intro v3 v4 n_lifts n_has n_lifted n_allLifts b_piles b_heights b_spots H locs hF hP hD hS ls hl
    unfold fX3_dig_J168 at hF
    refine lv_iload hx hb dX3_dig_168 (lv_at hl 3 rfl) ?_
    refine lv_if_eq (tgt := 182) hx hb dX3_dig_170 (by decide) (fun c_26 => ?_) (fun c_26 => ?_)
    · have hF := zt c_26 hF
      obtain rfl := Option.some.inj hF
      exact hret _ _ _ _ hP hD hS dX3_dig_182
    · have hF := zf c_26 hF
      refine lv_aload_n hx hb dX3_dig_173 rfl (lv_at hl 0 rfl) ?_
      refine va_get (D := D) (ci := 2) (v := .ref (ad_b 0)) (C := RX3) (T := TX3) (N := 15) hx hb hts hin3 hown hK hP 0 rfl rfl 2 (by decide) (hts _ zm_347) (fun _ h9 => h9) rfl dX3_dig_174 ?_
      refine lv_iload_n hx hb dX3_dig_177 rfl (lv_at hl 1 rfl) ?_
      refine lv_iload_n hx hb dX3_dig_178 rfl (lv_at hl 2 rfl) ?_
      obtain ⟨o_27, hc_27, hF⟩ := zb hF
      refine zcVv (rest := []) (ws' := (wX3_nbr ca ad_n ad_y ad_b ad_r (ad_r 0) n_order n_weights n_black n_lifts n_begins n_ends n_has n_lifted n_allLifts n_doneAt b_heaps o_27 b_heights b_spots r_guests r_kinds r_figures r_minutes r_settings r_hooks r_letters r_letterCount)) (kX0_turnFrom l D ca t ad_b b_heaps b_piles b_heights b_spots p2 v3 fuel _ hc_27) ⟨hx, hb, hml, hown, hts⟩ (zcwV hts zm_357 zm_358 zm_359 zm_314 zm_356 rfl rfl zdv_X0_turnFrom ⟨Nat.le_of_ble_eq_true rfl, Nat.le_of_ble_eq_true rfl⟩) hA hK hZ hP hD hS [9, 10, 11, 12, 13, 14, 15] [0, 1, 2, 3, 4, 5, 6, 7, 8, 16, 17, 18, 19, 20, 21] [0, 1, 2, 3, 4, 5, 6, 7, 8, 15, 16, 17, 18, 19, 20, 21, 9, 10, 11, 12, 13, 14] rfl rfl rfl rfl rfl rfl rfl 0 9 rfl rfl rfl hl.1 (Nat.le_of_ble_eq_true rfl) dX3_dig_179 rfl (fun H locs hP hD hS => ?_)
      obtain rfl := Option.some.inj hF
      exact hret _ _ _ _ hP hD hS dX3_dig_182
  have j97 : ∀ (v3 : Int32) (n_lifts : Nat → Int32) (n_has : Nat → Int32) (n_lifted : Nat → Int32) (n_allLifts : Int32) (b_piles : Nat → Nat → Int32) (b_heights : Nat → Int32) (b_spots : Nat → Int32) (H : Heap) (locs : List Loc), fX3_dig_J97 fuel b_heaps r_settings p1 p2 v3 n_lifts n_has n_lifted n_allLifts b_piles b_heights b_spots = some o → va_P D vwCl (wX3_nbr ca ad_n ad_y ad_b ad_r (ad_r 0) n_order n_weights n_black n_lifts n_begins n_ends n_has n_lifted n_allLifts n_doneAt b_heaps b_piles b_heights b_spots r_guests r_kinds r_figures r_minutes r_settings r_hooks r_letters r_letterCount) H → va_D A (wX3_nbr ca ad_n ad_y ad_b ad_r (ad_r 0) n_order n_weights n_black n_lifts n_begins n_ends n_has n_lifted n_allLifts n_doneAt b_heaps b_piles b_heights b_spots r_guests r_kinds r_figures r_minutes r_settings r_hooks r_letters r_letterCount) → va_S A s.heap H locs → ∀ ls : Array Slot, lv_has ls 5 [(0, .ref (ad_n 0)), (1, .int p1), (2, .int p2), (3, .int v3)] → W p l e roX3_dig s m args below meth c H locs 0 0 Q (F0 m 97 ls []) := by
    intro v3 n_lifts n_has n_lifted n_allLifts b_piles b_heights b_spots H locs hF hP hD hS ls hl
    unfold fX3_dig_J97 at hF
    refine lv_iload_n hx hb dX3_dig_97 rfl (lv_at hl 3 rfl) ?_
    refine lv_if_ge (tgt := 102) hx hb dX3_dig_98 (by decide) (fun c_16 => ?_) (fun c_16 => ?_)
    · have hF := zt c_16 hF
      refine lv_aload_n hx hb dX3_dig_102 rfl (lv_at hl 0 rfl) ?_
      refine va_get (D := D) (ci := 2) (v := .ref (ad_n 7)) (C := RX3) (T := TX3) (N := 15) hx hb hts hin3 hown hK hP 0 rfl rfl 11 (by decide) (hts _ zm_366) (fun _ h9 => h9) rfl dX3_dig_103 ?_
      refine lv_iload_n hx hb dX3_dig_106 rfl (lv_at hl 1 rfl) ?_
      refine lv_aload_n hx hb dX3_dig_107 rfl (lv_at hl 0 rfl) ?_
      refine va_get (D := D) (ci := 2) (v := .ref (ad_b 0)) (C := RX3) (T := TX3) (N := 15) hx hb hts hin3 hown hK hP 0 rfl rfl 2 (by decide) (hts _ zm_347) (fun _ h9 => h9) rfl dX3_dig_108 ?_
      refine va_get (D := D) (ci := 0) (v := .ref (ad_b 1)) (C := RX0) (T := TX0) (N := 4) hx hb hts hin0 hown hK hP 9 rfl rfl 1 (by decide) (hts _ zm_363) (fun _ h9 => h9) rfl dX3_dig_111 ?_
      refine lv_iload_n hx hb dX3_dig_114 rfl (lv_at hl 2 rfl) ?_
      obtain ⟨h_17, hF⟩ := zgi hF
      refine z_aald hx hb hK hP 10 4 rfl rfl rfl h_17 dX3_dig_115 ?_
      refine lv_iload_n hx hb dX3_dig_116 rfl (lv_at hl 3 rfl) ?_
      obtain ⟨h_18, hF⟩ := zgi hF
      refine z_rald hx hb hK hP 11 0 rfl rfl rfl rfl (zin_lt h_17) h_18 dX3_dig_117 ?_
      obtain ⟨h_19, hF⟩ := zgi hF
      refine z_iast hx hb hK hP hD hS 7 0 rfl rfl h_19 dX3_dig_118 (fun g => (wX3_nbr ca ad_n ad_y ad_b ad_r (ad_r 0) n_order n_weights n_black n_lifts n_begins n_ends g n_lifted n_allLifts n_doneAt b_heaps b_piles b_heights b_spots r_guests r_kinds r_figures r_minutes r_settings r_hooks r_letters r_letterCount)) (fun _ => rfl) hF (fun n_has_20 H locs hF hP hD hS => ?_)
      refine lv_aload_n hx hb dX3_dig_119 rfl (lv_at hl 0 rfl) ?_
      refine va_get (D := D) (ci := 2) (v := .ref (ad_b 0)) (C := RX3) (T := TX3) (N := 15) hx hb hts hin3 hown hK hP 0 rfl rfl 2 (by decide) (hts _ zm_347) (fun _ h9 => h9) rfl dX3_dig_120 ?_
      refine lv_iload_n hx hb dX3_dig_123 rfl (lv_at hl 2 rfl) ?_
      refine lv_iload_n hx hb dX3_dig_124 rfl (lv_at hl 3 rfl) ?_
      obtain ⟨o_21, hc_21, hF⟩ := zb hF
      refine zcVv (rest := []) (ws' := (wX3_nbr ca ad_n ad_y ad_b ad_r (ad_r 0) n_order n_weights n_black n_lifts n_begins n_ends n_has_20 n_lifted n_allLifts n_doneAt b_heaps o_21.1 o_21.2.1 o_21.2.2 r_guests r_kinds r_figures r_minutes r_settings r_hooks r_letters r_letterCount)) (kX0_takeOut l D ca t ad_b b_heaps b_piles b_heights b_spots p2 v3 fuel _ hc_21) ⟨hx, hb, hml, hown, hts⟩ (zcwV hts zm_575 zm_329 zm_330 zm_314 zm_327 rfl rfl zdv_X0_takeOut ⟨Nat.le_of_ble_eq_true rfl, Nat.le_of_ble_eq_true rfl⟩) hA hK hZ hP hD hS [9, 10, 11, 12, 13, 14, 15] [0, 1, 2, 3, 4, 5, 6, 7, 8, 16, 17, 18, 19, 20, 21] [0, 1, 2, 3, 4, 5, 6, 7, 8, 15, 16, 17, 18, 19, 20, 21, 9, 10, 11, 12, 13, 14] rfl rfl rfl rfl rfl rfl rfl 0 9 rfl rfl rfl hl.1 (Nat.le_of_ble_eq_true rfl) dX3_dig_125 rfl (fun H locs hP hD hS => ?_)
      refine lv_aload_n hx hb dX3_dig_128 rfl (lv_at hl 0 rfl) ?_
      refine va_get (D := D) (ci := 2) (v := .ref (ad_r 0)) (C := RX3) (T := TX3) (N := 15) hx hb hts hin3 hown hK hP 0 rfl rfl 0 (by decide) (hts _ zm_343) (fun _ h9 => h9) rfl dX3_dig_129 ?_
      refine va_get (D := D) (ci := 3) (v := .ref (ad_r 4)) (C := RX5) (T := TX5) (N := 8) hx hb hts hin5 hown hK hP 16 rfl rfl 4 (by decide) (hts _ zm_348) (fun _ h9 => h9) rfl dX3_dig_132 ?_
      refine lv_iconst (v := 2) hx hb dX3_dig_135 (by decide) ?_
      refine z_ialdK 2 hx hb hK hP 20 0 rfl rfl (zin_ok (by decide)) (by decide) dX3_dig_136 ?_
      refine z_let hF (fun v4_22 hF => ?_)
      refine lv_istore (lv' := [(4, .int v4_22), (0, .ref (ad_n 0)), (1, .int p1), (2, .int p2), (3, .int v3)]) hx hb dX3_dig_137 hl (by decide) rfl (fun ls hl => ?_)
      refine lv_iload hx hb dX3_dig_139 (lv_at hl 0 rfl) ?_
      refine lv_iconst (v := 2) hx hb dX3_dig_141 (by decide) ?_
      refine lv_icmp_ne (tgt := 168) hx hb dX3_dig_142 (by decide) (fun c_23 => ?_) (fun c_23 => ?_)
      · have hF := zf c_23 hF
        exact j168 v3 v4_22 n_lifts n_has_20 n_lifted n_allLifts o_21.1 o_21.2.1 o_21.2.2 _ _ hF hP hD hS ls (lv_sub hl [1, 3, 4, 0] rfl)
      · have hF := zt c_23 hF
        refine lv_aload_n hx hb dX3_dig_145 rfl (lv_at hl 1 rfl) ?_
        refine va_get (D := D) (ci := 2) (v := .ref (ad_b 0)) (C := RX3) (T := TX3) (N := 15) hx hb hts hin3 hown hK hP 0 rfl rfl 2 (by decide) (hts _ zm_347) (fun _ h9 => h9) rfl dX3_dig_146 ?_
        refine va_get (D := D) (ci := 0) (v := .int b_heaps) (C := RX0) (T := TX0) (N := 4) hx hb hts hin0 hown hK hP 9 rfl rfl 0 (by decide) (hts _ zm_355) (fun _ h9 => h9) rfl dX3_dig_149 ?_
        refine lv_iconst (v := 1) hx hb dX3_dig_152 (by decide) ?_
        refine lv_icmp_le (tgt := 168) hx hb dX3_dig_153 (by decide) (fun c_24 => ?_) (fun c_24 => ?_)
        · have hF := zt c_24 hF
          exact j168 v3 v4_22 n_lifts n_has_20 n_lifted n_allLifts o_21.1 o_21.2.1 o_21.2.2 _ _ hF hP hD hS ls (lv_sub hl [1, 3, 4, 0] rfl)
        · have hF := zf c_24 hF
          refine lv_aload_n hx hb dX3_dig_156 rfl (lv_at hl 1 rfl) ?_
          refine va_get (D := D) (ci := 2) (v := .ref (ad_b 0)) (C := RX3) (T := TX3) (N := 15) hx hb hts hin3 hown hK hP 0 rfl rfl 2 (by decide) (hts _ zm_347) (fun _ h9 => h9) rfl dX3_dig_157 ?_
          refine lv_iload_n hx hb dX3_dig_160 rfl (lv_at hl 3 rfl) ?_
          refine lv_iload_n hx hb dX3_dig_161 rfl (lv_at hl 4 rfl) ?_
          obtain ⟨o_25, hc_25, hF⟩ := zb hF
          refine zcVv (rest := []) (ws' := (wX3_nbr ca ad_n ad_y ad_b ad_r (ad_r 0) n_order n_weights n_black n_lifts n_begins n_ends n_has_20 n_lifted n_allLifts n_doneAt b_heaps o_25.1 o_25.2.1 o_25.2.2 r_guests r_kinds r_figures r_minutes r_settings r_hooks r_letters r_letterCount)) (kX0_moveFrom l D ca t ad_b b_heaps o_21.1 o_21.2.1 o_21.2.2 p2 v3 fuel _ hc_25) ⟨hx, hb, hml, hown, hts⟩ (zcwV hts zm_577 zm_578 zm_579 zm_314 zm_576 rfl rfl zdv_X0_moveFrom ⟨Nat.le_of_ble_eq_true rfl, Nat.le_of_ble_eq_true rfl⟩) hA hK hZ hP hD hS [9, 10, 11, 12, 13, 14, 15] [0, 1, 2, 3, 4, 5, 6, 7, 8, 16, 17, 18, 19, 20, 21] [0, 1, 2, 3, 4, 5, 6, 7, 8, 15, 16, 17, 18, 19, 20, 21, 9, 10, 11, 12, 13, 14] rfl rfl rfl rfl rfl rfl rfl 0 9 rfl rfl rfl hl.1 (Nat.le_of_ble_eq_true rfl) dX3_dig_162 rfl (fun H locs hP hD hS => ?_)
          refine lv_goto (tgt := 182) hx hb dX3_dig_165 (by decide) ?_
          obtain rfl := Option.some.inj hF
          exact hret _ _ _ _ hP hD hS dX3_dig_182
    · have hF := zf c_16 hF
      obtain rfl := Option.some.inj hF
      exact hret _ _ _ _ hP hD hS dX3_dig_101
  have l12 : ∀ (n12 : Nat) (v3 : Int32) (n_lifts : Nat → Int32) (n_has : Nat → Int32) (n_lifted : Nat → Int32) (n_allLifts : Int32) (b_piles : Nat → Nat → Int32) (b_heights : Nat → Int32) (b_spots : Nat → Int32) (H : Heap) (locs : List Loc), fX3_dig_L12 fuel n_weights n_black b_heaps r_settings p1 p2 n12 v3 n_lifts n_has n_lifted n_allLifts b_piles b_heights b_spots = some o → va_P D vwCl (wX3_nbr ca ad_n ad_y ad_b ad_r (ad_r 0) n_order n_weights n_black n_lifts n_begins n_ends n_has n_lifted n_allLifts n_doneAt b_heaps b_piles b_heights b_spots r_guests r_kinds r_figures r_minutes r_settings r_hooks r_letters r_letterCount) H → va_D A (wX3_nbr ca ad_n ad_y ad_b ad_r (ad_r 0) n_order n_weights n_black n_lifts n_begins n_ends n_has n_lifted n_allLifts n_doneAt b_heaps b_piles b_heights b_spots r_guests r_kinds r_figures r_minutes r_settings r_hooks r_letters r_letterCount) → va_S A s.heap H locs → ∀ ls : Array Slot, lv_has ls 5 [(0, .ref (ad_n 0)), (1, .int p1), (2, .int p2), (3, .int v3)] → W p l e roX3_dig s m args below meth c H locs 0 0 Q (F0 m 12 ls []) := by
    intro n12
    induction n12 with
    | zero =>
      intro v3 n_lifts n_has n_lifted n_allLifts b_piles b_heights b_spots H locs hF
      rw [fX3_dig_L12] at hF
      cases hF
    | succ n12 ih12 =>
      intro v3 n_lifts n_has n_lifted n_allLifts b_piles b_heights b_spots H locs hF hP hD hS ls hl
      rw [fX3_dig_L12] at hF
      refine lv_iload_n hx hb dX3_dig_12 rfl (lv_at hl 3 rfl) ?_
      refine lv_if_lt (tgt := 97) hx hb dX3_dig_13 (by decide) (fun c_3 => ?_) (fun c_3 => ?_)
      · have hF := zt c_3 hF
        exact j97 v3 n_lifts n_has n_lifted n_allLifts b_piles b_heights b_spots _ _ hF hP hD hS ls (lv_sub hl [0, 1, 2, 3] rfl)
      · have hF := zf c_3 hF
        refine lv_aload_n hx hb dX3_dig_16 rfl (lv_at hl 0 rfl) ?_
        refine lv_iload_n hx hb dX3_dig_17 rfl (lv_at hl 1 rfl) ?_
        refine lv_aload_n hx hb dX3_dig_18 rfl (lv_at hl 0 rfl) ?_
        refine va_get (D := D) (ci := 2) (v := .ref (ad_b 0)) (C := RX3) (T := TX3) (N := 15) hx hb hts hin3 hown hK hP 0 rfl rfl 2 (by decide) (hts _ zm_347) (fun _ h9 => h9) rfl dX3_dig_19 ?_
        refine va_get (D := D) (ci := 0) (v := .ref (ad_b 1)) (C := RX0) (T := TX0) (N := 4) hx hb hts hin0 hown hK hP 9 rfl rfl 1 (by decide) (hts _ zm_363) (fun _ h9 => h9) rfl dX3_dig_22 ?_
        refine lv_iload_n hx hb dX3_dig_25 rfl (lv_at hl 2 rfl) ?_
        obtain ⟨h_4, hF⟩ := zgi hF
        refine z_aald hx hb hK hP 10 4 rfl rfl rfl h_4 dX3_dig_26 ?_
        refine lv_iload_n hx hb dX3_dig_27 rfl (lv_at hl 3 rfl) ?_
        obtain ⟨h_5, hF⟩ := zgi hF
        refine z_rald hx hb hK hP 11 0 rfl rfl rfl rfl (zin_lt h_4) h_5 dX3_dig_28 ?_
        obtain ⟨o_6, hc_6, hF⟩ := zb hF
        refine zcVR (rest := []) (kX3_takes l D ca t ad_n ad_y ad_b ad_r n_order n_weights n_black n_lifts n_begins n_ends n_has n_lifted n_allLifts n_doneAt r_guests r_kinds r_figures r_minutes r_settings r_hooks r_letters r_letterCount p1 ((b_piles (p2.toNatClampNeg) v3.toNatClampNeg)) fuel _ hc_6) ⟨hx, hb, hml, hown, hts⟩ (zcwV hts zm_570 zm_571 zm_572 zm_568 zm_569 rfl rfl zdv_X3_takes ⟨Nat.le_of_ble_eq_true rfl, Nat.le_of_ble_eq_true rfl⟩) hA hK hZ hP hD hS [0, 1, 2, 3, 4, 5, 6, 7, 8, 16, 17, 18, 19, 20, 21] rfl rfl 2 0 rfl rfl rfl hl.1 (Nat.le_of_ble_eq_true rfl) dX3_dig_29 rfl ?_
        refine lv_if_ne (tgt := 97) hx hb dX3_dig_32 (by decide) (fun c_7 => ?_) (fun c_7 => ?_)
        · have hF := zf c_7 hF
          exact j97 v3 n_lifts n_has n_lifted n_allLifts b_piles b_heights b_spots _ _ hF hP hD hS ls (lv_sub hl [0, 1, 2, 3] rfl)
        · have hF := zt c_7 hF
          refine lv_aload_n hx hb dX3_dig_35 rfl (lv_at hl 0 rfl) ?_
          refine va_get (D := D) (ci := 2) (v := .ref (ad_b 0)) (C := RX3) (T := TX3) (N := 15) hx hb hts hin3 hown hK hP 0 rfl rfl 2 (by decide) (hts _ zm_347) (fun _ h9 => h9) rfl dX3_dig_36 ?_
          refine va_get (D := D) (ci := 0) (v := .ref (ad_b 1)) (C := RX0) (T := TX0) (N := 4) hx hb hts hin0 hown hK hP 9 rfl rfl 1 (by decide) (hts _ zm_363) (fun _ h9 => h9) rfl dX3_dig_39 ?_
          refine lv_iload_n hx hb dX3_dig_42 rfl (lv_at hl 2 rfl) ?_
          refine z_aald hx hb hK hP 10 4 rfl rfl rfl h_4 dX3_dig_43 ?_
          refine lv_iload_n hx hb dX3_dig_44 rfl (lv_at hl 3 rfl) ?_
          refine z_rald hx hb hK hP 11 0 rfl rfl rfl rfl (zin_lt h_4) h_5 dX3_dig_45 ?_
          refine z_let hF (fun v4_8 hF => ?_)
          refine lv_istore (lv' := [(4, .int v4_8), (0, .ref (ad_n 0)), (1, .int p1), (2, .int p2), (3, .int v3)]) hx hb dX3_dig_46 hl (by decide) rfl (fun ls hl => ?_)
          refine lv_aload_n hx hb dX3_dig_48 rfl (lv_at hl 1 rfl) ?_
          refine va_get (D := D) (ci := 2) (v := .ref (ad_n 4)) (C := RX3) (T := TX3) (N := 15) hx hb hts hin3 hown hK hP 0 rfl rfl 8 (by decide) (hts _ zm_573) (fun _ h9 => h9) rfl dX3_dig_49 ?_
          refine lv_iload_n hx hb dX3_dig_52 rfl (lv_at hl 2 rfl) ?_
          refine lv_dup2_11 hx hb dX3_dig_53 rfl rfl ?_
          obtain ⟨h_9, hF⟩ := zgi hF
          refine va_iald hx hb hK hP 4 0 rfl rfl h_9 dX3_dig_54 ?_
          refine lv_aload_n hx hb dX3_dig_55 rfl (lv_at hl 1 rfl) ?_
          refine va_get (D := D) (ci := 2) (v := .ref (ad_n 2)) (C := RX3) (T := TX3) (N := 15) hx hb hts hin3 hown hK hP 0 rfl rfl 6 (by decide) (hts _ zm_362) (fun _ h9 => h9) rfl dX3_dig_56 ?_
          refine lv_iload hx hb dX3_dig_59 (lv_at hl 0 rfl) ?_
          obtain ⟨h_10, hF⟩ := zgi hF
          refine va_iald hx hb hK hP 2 0 rfl rfl h_10 dX3_dig_61 ?_
          refine lv_iadd hx hb dX3_dig_62 ?_
          refine z_let hF (fun x_11 hF => ?_)
          refine z_iast hx hb hK hP hD hS 4 0 rfl rfl h_9 dX3_dig_63 (fun g => (wX3_nbr ca ad_n ad_y ad_b ad_r (ad_r 0) n_order n_weights n_black g n_begins n_ends n_has n_lifted n_allLifts n_doneAt b_heaps b_piles b_heights b_spots r_guests r_kinds r_figures r_minutes r_settings r_hooks r_letters r_letterCount)) (fun _ => rfl) hF (fun n_lifts_12 H locs hF hP hD hS => ?_)
          refine lv_aload_n hx hb dX3_dig_64 rfl (lv_at hl 1 rfl) ?_
          refine lv_dup hx hb dX3_dig_65 rfl ?_
          refine va_get (D := D) (ci := 2) (v := .int n_allLifts) (C := RX3) (T := TX3) (N := 15) hx hb hts hin3 hown hK hP 0 rfl rfl 13 (by decide) (hts _ zm_361) (fun _ h9 => h9) rfl dX3_dig_66 ?_
          refine lv_aload_n hx hb dX3_dig_69 rfl (lv_at hl 1 rfl) ?_
          refine va_get (D := D) (ci := 2) (v := .ref (ad_n 2)) (C := RX3) (T := TX3) (N := 15) hx hb hts hin3 hown hK hP 0 rfl rfl 6 (by decide) (hts _ zm_362) (fun _ h9 => h9) rfl dX3_dig_70 ?_
          refine lv_iload hx hb dX3_dig_73 (lv_at hl 0 rfl) ?_
          refine va_iald hx hb hK hP 2 0 rfl rfl h_10 dX3_dig_75 ?_
          refine lv_iadd hx hb dX3_dig_76 ?_
          refine z_let hF (fun allLifts_13 hF => ?_)
          refine va_put (D := D) (ci := 2) (v := .int allLifts_13) (C := RX3) (T := TX3) (N := 15) hx hb hts hin3 tyX3 tyX3_ok nmX3 hown hK hP hD hS 0 rfl rfl 13 (by decide) (hts _ zm_361) (fun _ h9 => h9) rfl (tyX3_ok 13 (by decide)) rfl rfl (Nat.le_of_ble_eq_true rfl) dX3_dig_77 (fun H locs hP hD hS => ?_)
          have hP : va_P D vwCl (wX3_nbr ca ad_n ad_y ad_b ad_r (ad_r 0) n_order n_weights n_black n_lifts_12 n_begins n_ends n_has n_lifted allLifts_13 n_doneAt b_heaps b_piles b_heights b_spots r_guests r_kinds r_figures r_minutes r_settings r_hooks r_letters r_letterCount) H := hP
          have hD : va_D A (wX3_nbr ca ad_n ad_y ad_b ad_r (ad_r 0) n_order n_weights n_black n_lifts_12 n_begins n_ends n_has n_lifted allLifts_13 n_doneAt b_heaps b_piles b_heights b_spots r_guests r_kinds r_figures r_minutes r_settings r_hooks r_letters r_letterCount) := hD
          refine lv_aload_n hx hb dX3_dig_80 rfl (lv_at hl 1 rfl) ?_
          refine va_get (D := D) (ci := 2) (v := .ref (ad_n 8)) (C := RX3) (T := TX3) (N := 15) hx hb hts hin3 hown hK hP 0 rfl rfl 12 (by decide) (hts _ zm_574) (fun _ h9 => h9) rfl dX3_dig_81 ?_
          refine lv_iload hx hb dX3_dig_84 (lv_at hl 0 rfl) ?_
          refine lv_dup2_11 hx hb dX3_dig_86 rfl rfl ?_
          refine va_iald hx hb hK hP 8 0 rfl rfl h_10 dX3_dig_87 ?_
          refine lv_iconst (v := 1) hx hb dX3_dig_88 (by decide) ?_
          refine lv_iadd hx hb dX3_dig_89 ?_
          refine z_iast hx hb hK hP hD hS 8 0 rfl rfl h_10 dX3_dig_90 (fun g => (wX3_nbr ca ad_n ad_y ad_b ad_r (ad_r 0) n_order n_weights n_black n_lifts_12 n_begins n_ends n_has g allLifts_13 n_doneAt b_heaps b_piles b_heights b_spots r_guests r_kinds r_figures r_minutes r_settings r_hooks r_letters r_letterCount)) (fun _ => rfl) hF (fun n_lifted_14 H locs hF hP hD hS => ?_)
          refine z_iinc (kv := (-1)) hx hb 4 dX3_dig_91 hl rfl (by decide) (by decide) (fun g => [(3, .int g), (4, .int v4_8), (0, .ref (ad_n 0)), (1, .int p1), (2, .int p2)]) (fun _ => rfl) hF (fun v3_15 ls hF hl => ?_)
          refine lv_goto (tgt := 12) hx hb dX3_dig_94 (by decide) ?_
          exact ih12 v3_15 n_lifts_12 n_has n_lifted_14 allLifts_13 b_piles b_heights b_spots _ _ hF hP hD hS ls (lv_sub hl [2, 3, 4, 0] rfl)
  unfold fX3_dig at hF
  refine lv_aload_n hx hb dX3_dig_0 rfl (lv_at hl 0 rfl) ?_
  refine va_get (D := D) (ci := 2) (v := .ref (ad_b 0)) (C := RX3) (T := TX3) (N := 15) hx hb hts hin3 hown hK hP 0 rfl rfl 2 (by decide) (hts _ zm_347) (fun _ h9 => h9) rfl dX3_dig_1 ?_
  refine va_get (D := D) (ci := 0) (v := .ref (ad_b 5)) (C := RX0) (T := TX0) (N := 4) hx hb hts hin0 hown hK hP 9 rfl rfl 2 (by decide) (hts _ zm_360) (fun _ h9 => h9) rfl dX3_dig_4 ?_
  refine lv_iload_n hx hb dX3_dig_7 rfl (lv_at hl 2 rfl) ?_
  obtain ⟨h_1, hF⟩ := zgi hF
  refine va_iald hx hb hK hP 14 0 rfl rfl h_1 dX3_dig_8 ?_
  refine lv_iconst (v := 1) hx hb dX3_dig_9 (by decide) ?_
  refine lv_isub hx hb dX3_dig_10 ?_
  refine z_let hF (fun v3_2 hF => ?_)
  refine lv_istore_n (lv' := [(3, .int v3_2), (0, .ref (ad_n 0)), (1, .int p1), (2, .int p2)]) hx hb dX3_dig_11 rfl hl (by decide) rfl (fun ls hl => ?_)
  exact l12 fuel v3_2 n_lifts n_has n_lifted n_allLifts b_piles b_heights b_spots _ _ hF hP hD hS ls (lv_sub hl [1, 2, 3, 0] rfl)
theorem zdv_X5_spareOf : yX5_spareOf.cls = RX5 ∧ yX5_spareOf.cls ≠ "java/lang/invoke/MethodHandle" ∧ yX5_spareOf.cls ≠ "java/lang/invoke/VarHandle" ∧ (parseMethodDescriptor yX5_spareOf.desc).map (fun d => d.parameters.length) = some 1 := by decide +kernel
abbrev roX3_missers : Room := { frames := 2, cells := 0, slots := 0, locals := 42 }
set_option maxHeartbeats 4000000 in
set_option maxRecDepth 100000 in
theorem kX3_missers (l : Launch) (D : va_G) (ca : Nat → ClassId) (t : Nat → Nat) (ad_n : Nat → Nat) (ad_y : Nat → Nat) (ad_b : Nat → Nat) (ad_r : Nat → Nat) (n_order : Nat → Int32) (n_weights : Nat → Int32) (n_black : Nat → Int32) (n_lifts : Nat → Int32) (n_begins : Nat → Int32) (n_ends : Nat → Int32) (n_has : Nat → Int32) (n_lifted : Nat → Int32) (n_allLifts : Int32) (n_doneAt : Int32) (y_going : Nat → Int32) (y_coming : Nat → Int32) (y_holds : Int32) (y_latest : Int32) (r_guests : Int32) (r_kinds : Nat → Int32) (r_figures : Nat → Int32) (r_minutes : Nat → Int32) (r_settings : Nat → Int32) (r_hooks : Int32) (r_letters : Nat → Int32) (r_letterCount : Int32) (fuel : Nat) (o : Int32) (hF : fX3_missers fuel n_ends y_going r_guests r_kinds r_figures = some o) : zRi l D (zT ca) t yX3_missers (.code yX3_missers cX3_missers 3 (some .int) :: zW) roX3_missers [.ref (ad_n 0)] (wX3_nyr ca ad_n ad_y ad_b ad_r (ad_r 0) n_order n_weights n_black n_lifts n_begins n_ends n_has n_lifted n_allLifts n_doneAt y_going y_coming y_holds y_latest r_guests r_kinds r_figures r_minutes r_settings r_hooks r_letters r_letterCount) o := by
  refine zRi_of (cc := cX3_missers) (maxL := 3) (by decide) rfl (Nat.le_of_ble_eq_true rfl) ?_
  intro p e s m args below meth c A Q ls ⟨hx, hb, hml, hown, hts, hA, hK, hZ, hS⟩ hret hP hD hl
  have hts := fun w h => hts w (List.mem_cons_of_mem _ h)
  have hown : s.vm.findClass RX3 = some m.cls := hown
  have hl : lv_has ls 3 [(0, .ref (ad_n 0))] := hl
  have hin3 := zin_X3
  have hin5 := zin_X5
  have l4 : ∀ (n4 : Nat) (v1 : Int32) (v2 : Int32), fX3_missers_L4 fuel n_ends y_going r_guests r_kinds r_figures n4 v1 v2 = some o → ∀ ls : Array Slot, lv_has ls 3 [(0, .ref (ad_n 0)), (1, .int v1), (2, .int v2)] → W p l e roX3_missers s m args below meth c s.heap [] 0 0 Q (F0 m 4 ls []) := by
    intro n4
    induction n4 with
    | zero =>
      intro v1 v2 hF
      rw [fX3_missers_L4] at hF
      cases hF
    | succ n4 ih4 =>
      have j45 : ∀ (v1 : Int32) (v2 : Int32), fX3_missers_J45 (fX3_missers_L4 fuel n_ends y_going r_guests r_kinds r_figures n4) v1 v2 = some o → ∀ ls : Array Slot, lv_has ls 3 [(0, .ref (ad_n 0)), (1, .int v1), (2, .int v2)] → W p l e roX3_missers s m args below meth c s.heap [] 0 0 Q (F0 m 45 ls []) := by
        intro v1 v2 hF ls hl
        unfold fX3_missers_J45 at hF
        refine z_iinc (kv := 1) hx hb 2 dX3_missers_45 hl rfl (by decide) (by decide) (fun g => [(2, .int g), (0, .ref (ad_n 0)), (1, .int v1)]) (fun _ => rfl) hF (fun v2_6 ls hF hl => ?_)
        refine lv_goto (tgt := 4) hx hb dX3_missers_48 (by decide) ?_
        exact ih4 v1 v2_6 hF ls (lv_sub hl [1, 2, 0] rfl)
      intro v1 v2 hF ls hl
      rw [fX3_missers_L4] at hF
      refine lv_iload_n hx hb dX3_missers_4 rfl (lv_at hl 2 rfl) ?_
      refine lv_aload_n hx hb dX3_missers_5 rfl (lv_at hl 0 rfl) ?_
      refine va_get (D := D) (ci := 2) (v := .ref (ad_r 0)) (C := RX3) (T := TX3) (N := 15) hx hb hts hin3 hown hK hP 0 rfl rfl 0 (by decide) (hts _ zm_343) (fun _ h9 => h9) rfl dX3_missers_6 ?_
      refine va_get (D := D) (ci := 3) (v := .int r_guests) (C := RX5) (T := TX5) (N := 8) hx hb hts hin5 hown hK hP 12 rfl rfl 0 (by decide) (hts _ zm_344) (fun _ h9 => h9) rfl dX3_missers_9 ?_
      refine lv_icmp_ge (tgt := 51) hx hb dX3_missers_12 (by decide) (fun c_1 => ?_) (fun c_1 => ?_)
      · have hF := zt c_1 hF
        refine lv_iload_n hx hb dX3_missers_51 rfl (lv_at hl 1 rfl) ?_
        obtain rfl := Option.some.inj hF
        exact hret _ _ rfl dX3_missers_52
      · have hF := zf c_1 hF
        refine lv_aload_n hx hb dX3_missers_15 rfl (lv_at hl 0 rfl) ?_
        refine va_get (D := D) (ci := 2) (v := .ref (ad_n 6)) (C := RX3) (T := TX3) (N := 15) hx hb hts hin3 hown hK hP 0 rfl rfl 10 (by decide) (hts _ zm_367) (fun _ h9 => h9) rfl dX3_missers_16 ?_
        refine lv_iload_n hx hb dX3_missers_19 rfl (lv_at hl 2 rfl) ?_
        obtain ⟨h_2, hF⟩ := zgi hF
        refine va_iald hx hb hK hP 6 0 rfl rfl h_2 dX3_missers_20 ?_
        refine lv_aload_n hx hb dX3_missers_21 rfl (lv_at hl 0 rfl) ?_
        refine va_get (D := D) (ci := 2) (v := .ref (ad_y 1)) (C := RX3) (T := TX3) (N := 15) hx hb hts hin3 hown hK hP 0 rfl rfl 3 (by decide) (hts _ zm_345) (fun _ h9 => h9) rfl dX3_missers_22 ?_
        refine lv_iload_n hx hb dX3_missers_25 rfl (lv_at hl 2 rfl) ?_
        refine va_iald hx hb hK hP 10 0 rfl rfl h_2 dX3_missers_26 ?_
        refine lv_aload_n hx hb dX3_missers_27 rfl (lv_at hl 0 rfl) ?_
        refine va_get (D := D) (ci := 2) (v := .ref (ad_r 0)) (C := RX3) (T := TX3) (N := 15) hx hb hts hin3 hown hK hP 0 rfl rfl 0 (by decide) (hts _ zm_343) (fun _ h9 => h9) rfl dX3_missers_28 ?_
        refine lv_iload_n hx hb dX3_missers_31 rfl (lv_at hl 2 rfl) ?_
        obtain ⟨o_3, hc_3, hF⟩ := zb hF
        refine zcVR (rest := [.int (y_going v2.toNatClampNeg), .int (n_ends v2.toNatClampNeg)]) (kX5_spareOf l D ca t ad_r r_guests r_kinds r_figures r_minutes r_settings r_hooks r_letters r_letterCount v2 fuel _ hc_3) ⟨hx, hb, hml, hown, hts⟩ (zcwV hts zm_581 zm_582 zm_583 zm_387 zm_580 rfl rfl zdv_X5_spareOf ⟨Nat.le_of_ble_eq_true rfl, Nat.le_of_ble_eq_true rfl⟩) hA hK hZ hP hD hS [12, 13, 14, 15, 16, 17] rfl rfl 3 12 rfl rfl rfl hl.1 (Nat.le_of_ble_eq_true rfl) dX3_missers_32 rfl ?_
        refine lv_iadd hx hb dX3_missers_35 ?_
        refine lv_icmp_le (tgt := 45) hx hb dX3_missers_36 (by decide) (fun c_4 => ?_) (fun c_4 => ?_)
        · have hF := zt c_4 hF
          exact j45 v1 v2 hF ls (lv_sub hl [0, 1, 2] rfl)
        · have hF := zf c_4 hF
          refine lv_iload_n hx hb dX3_missers_39 rfl (lv_at hl 1 rfl) ?_
          refine lv_iconst (v := 1) hx hb dX3_missers_40 (by decide) ?_
          refine lv_iload_n hx hb dX3_missers_41 rfl (lv_at hl 2 rfl) ?_
          refine lv_ishl hx hb dX3_missers_42 ?_
          refine lv_ior hx hb dX3_missers_43 ?_
          refine z_let hF (fun v1_5 hF => ?_)
          refine lv_istore_n (lv' := [(1, .int v1_5), (0, .ref (ad_n 0)), (2, .int v2)]) hx hb dX3_missers_44 rfl hl (by decide) rfl (fun ls hl => ?_)
          exact j45 v1_5 v2 hF ls (lv_sub hl [1, 0, 2] rfl)
  unfold fX3_missers at hF
  refine lv_iconst (v := 0) hx hb dX3_missers_0 (by decide) ?_
  refine lv_istore_n (lv' := [(1, .int 0), (0, .ref (ad_n 0))]) hx hb dX3_missers_1 rfl hl (by decide) rfl (fun ls hl => ?_)
  refine lv_iconst (v := 0) hx hb dX3_missers_2 (by decide) ?_
  refine lv_istore_n (lv' := [(2, .int 0), (1, .int 0), (0, .ref (ad_n 0))]) hx hb dX3_missers_3 rfl hl (by decide) rfl (fun ls hl => ?_)
  exact l4 fuel 0 0 hF ls (lv_sub hl [2, 1, 0] rfl)
theorem zdv_X3_dig : yX3_dig.cls = RX3 ∧ yX3_dig.cls ≠ "java/lang/invoke/MethodHandle" ∧ yX3_dig.cls ≠ "java/lang/invoke/VarHandle" ∧ (parseMethodDescriptor yX3_dig.desc).map (fun d => d.parameters.length) = some 2 := by decide +kernel
theorem zdv_X3_heapWithBlack : yX3_heapWithBlack.cls = RX3 ∧ yX3_heapWithBlack.cls ≠ "java/lang/invoke/MethodHandle" ∧ yX3_heapWithBlack.cls ≠ "java/lang/invoke/VarHandle" ∧ (parseMethodDescriptor yX3_heapWithBlack.desc).map (fun d => d.parameters.length) = some 0 := by decide +kernel
abbrev roX3_goOne : Room := { frames := 3, cells := 0, slots := 0, locals := 70 }
set_option maxHeartbeats 4000000 in
set_option maxRecDepth 100000 in
theorem kX3_goOne (l : Launch) (D : va_G) (ca : Nat → ClassId) (t : Nat → Nat) (ad_n : Nat → Nat) (ad_y : Nat → Nat) (ad_b : Nat → Nat) (ad_r : Nat → Nat) (n_order : Nat → Int32) (n_weights : Nat → Int32) (n_black : Nat → Int32) (n_lifts : Nat → Int32) (n_begins : Nat → Int32) (n_ends : Nat → Int32) (n_has : Nat → Int32) (n_lifted : Nat → Int32) (n_allLifts : Int32) (n_doneAt : Int32) (y_going : Nat → Int32) (y_coming : Nat → Int32) (y_holds : Int32) (y_latest : Int32) (b_heaps : Int32) (b_piles : Nat → Nat → Int32) (b_heights : Nat → Int32) (b_spots : Nat → Int32) (r_guests : Int32) (r_kinds : Nat → Int32) (r_figures : Nat → Int32) (r_minutes : Nat → Int32) (r_settings : Nat → Int32) (r_hooks : Int32) (r_letters : Nat → Int32) (r_letterCount : Int32) (p1 : Int32) (fuel : Nat) (o : (Nat → Int32) × (Nat → Int32) × (Nat → Int32) × (Nat → Int32) × (Nat → Int32) × Int32 × Int32 × (Nat → Nat → Int32) × (Nat → Int32) × (Nat → Int32)) (hF : fX3_goOne fuel n_weights n_black n_lifts n_begins n_ends n_has n_lifted n_allLifts n_doneAt y_going b_heaps b_piles b_heights b_spots r_settings p1 = some o) : zMv l D (zT ca) t yX3_goOne (.code yX3_goOne cX3_goOne 3 none :: zW) roX3_goOne [.ref (ad_n 0), .int p1] (wX3_nybr ca ad_n ad_y ad_b ad_r (ad_r 0) n_order n_weights n_black n_lifts n_begins n_ends n_has n_lifted n_allLifts n_doneAt y_going y_coming y_holds y_latest b_heaps b_piles b_heights b_spots r_guests r_kinds r_figures r_minutes r_settings r_hooks r_letters r_letterCount) (wX3_nybr ca ad_n ad_y ad_b ad_r (ad_r 0) n_order n_weights n_black o.1 o.2.1 o.2.2.1 o.2.2.2.1 o.2.2.2.2.1 o.2.2.2.2.2.1 o.2.2.2.2.2.2.1 y_going y_coming y_holds y_latest b_heaps o.2.2.2.2.2.2.2.1 o.2.2.2.2.2.2.2.2.1 o.2.2.2.2.2.2.2.2.2 r_guests r_kinds r_figures r_minutes r_settings r_hooks r_letters r_letterCount) := by
  refine zMv_of (cc := cX3_goOne) (maxL := 3) (by decide) rfl (Nat.le_of_ble_eq_true rfl) ?_
  intro p e s m args below meth c A Q ls ⟨hx, hb, hml, hown, hts, hA, hK, hZ, hS⟩ hret hP hD hl
  have hts := fun w h => hts w (List.mem_cons_of_mem _ h)
  have hown : s.vm.findClass RX3 = some m.cls := hown
  have hl : lv_has ls 3 [(0, .ref (ad_n 0)), (1, .int p1)] := hl
  have hin0 := zin_X0
  have hin3 := zin_X3
  have j112 : ∀ (n_lifts : Nat → Int32) (n_begins : Nat → Int32) (n_ends : Nat → Int32) (n_has : Nat → Int32) (n_lifted : Nat → Int32) (n_allLifts : Int32) (n_doneAt : Int32) (b_piles : Nat → Nat → Int32) (b_heights : Nat → Int32) (b_spots : Nat → Int32) (H : Heap) (locs : List Loc), fX3_goOne_J112 p1 n_lifts n_begins n_ends n_has n_lifted n_allLifts n_doneAt b_piles b_heights b_spots = some o → va_P D vwCl (wX3_nybr ca ad_n ad_y ad_b ad_r (ad_r 0) n_order n_weights n_black n_lifts n_begins n_ends n_has n_lifted n_allLifts n_doneAt y_going y_coming y_holds y_latest b_heaps b_piles b_heights b_spots r_guests r_kinds r_figures r_minutes r_settings r_hooks r_letters r_letterCount) H → va_D A (wX3_nybr ca ad_n ad_y ad_b ad_r (ad_r 0) n_order n_weights n_black n_lifts n_begins n_ends n_has n_lifted n_allLifts n_doneAt y_going y_coming y_holds y_latest b_heaps b_piles b_heights b_spots r_guests r_kinds r_figures r_minutes r_settings r_hooks r_letters r_letterCount) → va_S A s.heap H locs → ∀ ls : Array Slot, lv_has ls 3 [(0, .ref (ad_n 0)), (1, .int p1)] → W p l e roX3_goOne s m args below meth c H locs 0 0 Q (F0 m 112 ls []) := by
    intro n_lifts n_begins n_ends n_has n_lifted n_allLifts n_doneAt b_piles b_heights b_spots H locs hF hP hD hS ls hl
    unfold fX3_goOne_J112 at hF
    refine lv_aload_n hx hb dX3_goOne_112 rfl (lv_at hl 0 rfl) ?_
    refine va_get (D := D) (ci := 2) (v := .ref (ad_n 6)) (C := RX3) (T := TX3) (N := 15) hx hb hts hin3 hown hK hP 0 rfl rfl 10 (by decide) (hts _ zm_367) (fun _ h9 => h9) rfl dX3_goOne_113 ?_
    refine lv_iload_n hx hb dX3_goOne_116 rfl (lv_at hl 1 rfl) ?_
    refine lv_aload_n hx hb dX3_goOne_117 rfl (lv_at hl 0 rfl) ?_
    refine va_get (D := D) (ci := 2) (v := .ref (ad_n 5)) (C := RX3) (T := TX3) (N := 15) hx hb hts hin3 hown hK hP 0 rfl rfl 9 (by decide) (hts _ zm_365) (fun _ h9 => h9) rfl dX3_goOne_118 ?_
    refine lv_iload_n hx hb dX3_goOne_121 rfl (lv_at hl 1 rfl) ?_
    obtain ⟨h_18, hF⟩ := zgi hF
    refine va_iald hx hb hK hP 5 0 rfl rfl h_18 dX3_goOne_122 ?_
    refine lv_aload_n hx hb dX3_goOne_123 rfl (lv_at hl 0 rfl) ?_
    refine va_get (D := D) (ci := 2) (v := .ref (ad_n 4)) (C := RX3) (T := TX3) (N := 15) hx hb hts hin3 hown hK hP 0 rfl rfl 8 (by decide) (hts _ zm_573) (fun _ h9 => h9) rfl dX3_goOne_124 ?_
    refine lv_iload_n hx hb dX3_goOne_127 rfl (lv_at hl 1 rfl) ?_
    refine va_iald hx hb hK hP 4 0 rfl rfl h_18 dX3_goOne_128 ?_
    refine lv_iadd hx hb dX3_goOne_129 ?_
    refine z_let hF (fun x_19 hF => ?_)
    refine z_iast hx hb hK hP hD hS 6 0 rfl rfl h_18 dX3_goOne_130 (fun g => (wX3_nybr ca ad_n ad_y ad_b ad_r (ad_r 0) n_order n_weights n_black n_lifts n_begins g n_has n_lifted n_allLifts n_doneAt y_going y_coming y_holds y_latest b_heaps b_piles b_heights b_spots r_guests r_kinds r_figures r_minutes r_settings r_hooks r_letters r_letterCount)) (fun _ => rfl) hF (fun n_ends_20 H locs hF hP hD hS => ?_)
    refine lv_aload_n hx hb dX3_goOne_131 rfl (lv_at hl 0 rfl) ?_
    refine lv_aload_n hx hb dX3_goOne_132 rfl (lv_at hl 0 rfl) ?_
    refine va_get (D := D) (ci := 2) (v := .ref (ad_n 6)) (C := RX3) (T := TX3) (N := 15) hx hb hts hin3 hown hK hP 0 rfl rfl 10 (by decide) (hts _ zm_367) (fun _ h9 => h9) rfl dX3_goOne_133 ?_
    refine lv_iload_n hx hb dX3_goOne_136 rfl (lv_at hl 1 rfl) ?_
    refine va_iald hx hb hK hP 6 0 rfl rfl h_18 dX3_goOne_137 ?_
    refine z_let hF (fun doneAt_21 hF => ?_)
    refine va_put (D := D) (ci := 2) (v := .int doneAt_21) (C := RX3) (T := TX3) (N := 15) hx hb hts hin3 tyX3 tyX3_ok nmX3 hown hK hP hD hS 0 rfl rfl 14 (by decide) (hts _ zm_628) (fun _ h9 => h9) rfl (tyX3_ok 14 (by decide)) rfl rfl (Nat.le_of_ble_eq_true rfl) dX3_goOne_138 (fun H locs hP hD hS => ?_)
    have hP : va_P D vwCl (wX3_nybr ca ad_n ad_y ad_b ad_r (ad_r 0) n_order n_weights n_black n_lifts n_begins n_ends_20 n_has n_lifted n_allLifts doneAt_21 y_going y_coming y_holds y_latest b_heaps b_piles b_heights b_spots r_guests r_kinds r_figures r_minutes r_settings r_hooks r_letters r_letterCount) H := hP
    have hD : va_D A (wX3_nybr ca ad_n ad_y ad_b ad_r (ad_r 0) n_order n_weights n_black n_lifts n_begins n_ends_20 n_has n_lifted n_allLifts doneAt_21 y_going y_coming y_holds y_latest b_heaps b_piles b_heights b_spots r_guests r_kinds r_figures r_minutes r_settings r_hooks r_letters r_letterCount) := hD
    obtain rfl := Option.some.inj hF
    exact hret _ _ _ _ hP hD hS dX3_goOne_141
  unfold fX3_goOne at hF
  refine lv_aload_n hx hb dX3_goOne_0 rfl (lv_at hl 0 rfl) ?_
  refine va_get (D := D) (ci := 2) (v := .ref (ad_n 5)) (C := RX3) (T := TX3) (N := 15) hx hb hts hin3 hown hK hP 0 rfl rfl 9 (by decide) (hts _ zm_365) (fun _ h9 => h9) rfl dX3_goOne_1 ?_
  refine lv_iload_n hx hb dX3_goOne_4 rfl (lv_at hl 1 rfl) ?_
  refine lv_aload_n hx hb dX3_goOne_5 rfl (lv_at hl 0 rfl) ?_
  refine va_get (D := D) (ci := 2) (v := .ref (ad_y 1)) (C := RX3) (T := TX3) (N := 15) hx hb hts hin3 hown hK hP 0 rfl rfl 3 (by decide) (hts _ zm_345) (fun _ h9 => h9) rfl dX3_goOne_6 ?_
  refine lv_iload_n hx hb dX3_goOne_9 rfl (lv_at hl 1 rfl) ?_
  obtain ⟨h_1, hF⟩ := zgi hF
  refine va_iald hx hb hK hP 10 0 rfl rfl h_1 dX3_goOne_10 ?_
  refine z_iast hx hb hK hP hD hS 5 0 rfl rfl h_1 dX3_goOne_11 (fun g => (wX3_nybr ca ad_n ad_y ad_b ad_r (ad_r 0) n_order n_weights n_black n_lifts g n_ends n_has n_lifted n_allLifts n_doneAt y_going y_coming y_holds y_latest b_heaps b_piles b_heights b_spots r_guests r_kinds r_figures r_minutes r_settings r_hooks r_letters r_letterCount)) (fun _ => rfl) hF (fun n_begins_2 H locs hF hP hD hS => ?_)
  refine lv_aload_n hx hb dX3_goOne_12 rfl (lv_at hl 0 rfl) ?_
  refine va_get (D := D) (ci := 2) (v := .ref (ad_n 6)) (C := RX3) (T := TX3) (N := 15) hx hb hts hin3 hown hK hP 0 rfl rfl 10 (by decide) (hts _ zm_367) (fun _ h9 => h9) rfl dX3_goOne_13 ?_
  refine lv_iload_n hx hb dX3_goOne_16 rfl (lv_at hl 1 rfl) ?_
  refine lv_aload_n hx hb dX3_goOne_17 rfl (lv_at hl 0 rfl) ?_
  refine va_get (D := D) (ci := 2) (v := .ref (ad_y 1)) (C := RX3) (T := TX3) (N := 15) hx hb hts hin3 hown hK hP 0 rfl rfl 3 (by decide) (hts _ zm_345) (fun _ h9 => h9) rfl dX3_goOne_18 ?_
  refine lv_iload_n hx hb dX3_goOne_21 rfl (lv_at hl 1 rfl) ?_
  refine va_iald hx hb hK hP 10 0 rfl rfl h_1 dX3_goOne_22 ?_
  refine z_iast hx hb hK hP hD hS 6 0 rfl rfl h_1 dX3_goOne_23 (fun g => (wX3_nybr ca ad_n ad_y ad_b ad_r (ad_r 0) n_order n_weights n_black n_lifts n_begins_2 g n_has n_lifted n_allLifts n_doneAt y_going y_coming y_holds y_latest b_heaps b_piles b_heights b_spots r_guests r_kinds r_figures r_minutes r_settings r_hooks r_letters r_letterCount)) (fun _ => rfl) hF (fun n_ends_3 H locs hF hP hD hS => ?_)
  refine lv_aload_n hx hb dX3_goOne_24 rfl (lv_at hl 0 rfl) ?_
  refine va_get (D := D) (ci := 2) (v := .ref (ad_b 0)) (C := RX3) (T := TX3) (N := 15) hx hb hts hin3 hown hK hP 0 rfl rfl 2 (by decide) (hts _ zm_347) (fun _ h9 => h9) rfl dX3_goOne_25 ?_
  refine lv_iload_n hx hb dX3_goOne_28 rfl (lv_at hl 1 rfl) ?_
  obtain ⟨o_4, hc_4, hF⟩ := zb hF
  refine zcVR (rest := []) (kX0_isFree l D ca t ad_b b_heaps b_piles b_heights b_spots p1 fuel _ hc_4) ⟨hx, hb, hml, hown, hts⟩ (zcwV hts zm_627 zm_321 zm_322 zm_314 zm_319 rfl rfl zdv_X0_isFree ⟨Nat.le_of_ble_eq_true rfl, Nat.le_of_ble_eq_true rfl⟩) hA hK hZ hP hD hS [12, 13, 14, 15, 16, 17, 18] rfl rfl 0 12 rfl rfl rfl hl.1 (Nat.le_of_ble_eq_true rfl) dX3_goOne_29 rfl ?_
  refine lv_if_eq (tgt := 53) hx hb dX3_goOne_32 (by decide) (fun c_5 => ?_) (fun c_5 => ?_)
  · have hF := zt c_5 hF
    refine lv_aload_n hx hb dX3_goOne_53 rfl (lv_at hl 0 rfl) ?_
    refine va_get (D := D) (ci := 2) (v := .ref (ad_n 5)) (C := RX3) (T := TX3) (N := 15) hx hb hts hin3 hown hK hP 0 rfl rfl 9 (by decide) (hts _ zm_365) (fun _ h9 => h9) rfl dX3_goOne_54 ?_
    refine lv_iload_n hx hb dX3_goOne_57 rfl (lv_at hl 1 rfl) ?_
    refine lv_aload_n hx hb dX3_goOne_58 rfl (lv_at hl 0 rfl) ?_
    refine va_get (D := D) (ci := 2) (v := .ref (ad_y 1)) (C := RX3) (T := TX3) (N := 15) hx hb hts hin3 hown hK hP 0 rfl rfl 3 (by decide) (hts _ zm_345) (fun _ h9 => h9) rfl dX3_goOne_59 ?_
    refine lv_iload_n hx hb dX3_goOne_62 rfl (lv_at hl 1 rfl) ?_
    refine va_iald hx hb hK hP 10 0 rfl rfl h_1 dX3_goOne_63 ?_
    refine lv_aload_n hx hb dX3_goOne_64 rfl (lv_at hl 0 rfl) ?_
    refine va_get (D := D) (ci := 2) (v := .int n_doneAt) (C := RX3) (T := TX3) (N := 15) hx hb hts hin3 hown hK hP 0 rfl rfl 14 (by decide) (hts _ zm_628) (fun _ h9 => h9) rfl dX3_goOne_65 ?_
    refine va_mmax hx hb (hml.trans hl.1.symm) hown (hts _ zm_368) (hts _ zm_22) (hts _ zm_23) (hts _ zm_24) (Nat.le_of_ble_eq_true rfl) (Nat.le_of_ble_eq_true rfl) (Nat.zero_le _) (Nat.zero_le _) dX3_goOne_68 ?_
    refine z_let hF (fun x_6 hF => ?_)
    refine z_iast hx hb hK hP hD hS 5 0 rfl rfl h_1 dX3_goOne_71 (fun g => (wX3_nybr ca ad_n ad_y ad_b ad_r (ad_r 0) n_order n_weights n_black n_lifts g n_ends_3 n_has n_lifted n_allLifts n_doneAt y_going y_coming y_holds y_latest b_heaps b_piles b_heights b_spots r_guests r_kinds r_figures r_minutes r_settings r_hooks r_letters r_letterCount)) (fun _ => rfl) hF (fun n_begins_7 H locs hF hP hD hS => ?_)
    refine lv_aload_n hx hb dX3_goOne_72 rfl (lv_at hl 0 rfl) ?_
    refine va_get (D := D) (ci := 2) (v := .ref (ad_b 0)) (C := RX3) (T := TX3) (N := 15) hx hb hts hin3 hown hK hP 0 rfl rfl 2 (by decide) (hts _ zm_347) (fun _ h9 => h9) rfl dX3_goOne_73 ?_
    refine lv_iload_n hx hb dX3_goOne_76 rfl (lv_at hl 1 rfl) ?_
    obtain ⟨o_8, hc_8, hF⟩ := zb hF
    refine zcVR (rest := []) (kX0_isOnHeap l D ca t ad_b b_heaps b_piles b_heights b_spots p1 fuel _ hc_8) ⟨hx, hb, hml, hown, hts⟩ (zcwV hts zm_629 zm_312 zm_313 zm_314 zm_310 rfl rfl zdv_X0_isOnHeap ⟨Nat.le_of_ble_eq_true rfl, Nat.le_of_ble_eq_true rfl⟩) hA hK hZ hP hD hS [12, 13, 14, 15, 16, 17, 18] rfl rfl 0 12 rfl rfl rfl hl.1 (Nat.le_of_ble_eq_true rfl) dX3_goOne_77 rfl ?_
    refine lv_if_eq (tgt := 95) hx hb dX3_goOne_80 (by decide) (fun c_9 => ?_) (fun c_9 => ?_)
    · have hF := zt c_9 hF
      refine lv_aload_n hx hb dX3_goOne_95 rfl (lv_at hl 0 rfl) ?_
      obtain ⟨o_10, hc_10, hF⟩ := zb hF
      refine zcVR (rest := []) (kX3_heapWithBlack l D ca t ad_n ad_y ad_b (ad_r 0) n_order n_weights n_black n_lifts n_begins_7 n_ends_3 n_has n_lifted n_allLifts n_doneAt b_heaps b_piles b_heights b_spots fuel _ hc_10) ⟨hx, hb, hml, hown, hts⟩ (zcwV hts zm_631 zm_632 zm_633 zm_568 zm_630 rfl rfl zdv_X3_heapWithBlack ⟨Nat.le_of_ble_eq_true rfl, Nat.le_of_ble_eq_true rfl⟩) hA hK hZ hP hD hS [0, 1, 2, 3, 4, 5, 6, 7, 8, 12, 13, 14, 15, 16, 17, 18] rfl rfl 2 0 rfl rfl rfl hl.1 (Nat.le_of_ble_eq_true rfl) dX3_goOne_96 rfl ?_
      refine lv_istore_n (lv' := [(2, .int o_10), (0, .ref (ad_n 0)), (1, .int p1)]) hx hb dX3_goOne_99 rfl hl (by decide) rfl (fun ls hl => ?_)
      refine lv_iload_n hx hb dX3_goOne_100 rfl (lv_at hl 0 rfl) ?_
      refine lv_bipush (v := (-4)) hx hb dX3_goOne_101 (by decide) ?_
      refine lv_icmp_eq (tgt := 112) hx hb dX3_goOne_103 (by decide) (fun c_11 => ?_) (fun c_11 => ?_)
      · have hF := zt c_11 hF
        exact j112 n_lifts n_begins_7 n_ends_3 n_has n_lifted n_allLifts n_doneAt b_piles b_heights b_spots _ _ hF hP hD hS ls (lv_sub hl [1, 2] rfl)
      · have hF := zf c_11 hF
        refine lv_aload_n hx hb dX3_goOne_106 rfl (lv_at hl 1 rfl) ?_
        refine lv_iload_n hx hb dX3_goOne_107 rfl (lv_at hl 2 rfl) ?_
        refine lv_iload_n hx hb dX3_goOne_108 rfl (lv_at hl 0 rfl) ?_
        obtain ⟨o_12, hc_12, hF⟩ := zb hF
        refine zcVv (rest := []) (ws' := (wX3_nybr ca ad_n ad_y ad_b ad_r (ad_r 0) n_order n_weights n_black o_12.1 n_begins_7 n_ends_3 o_12.2.1 o_12.2.2.1 o_12.2.2.2.1 n_doneAt y_going y_coming y_holds y_latest b_heaps o_12.2.2.2.2.1 o_12.2.2.2.2.2.1 o_12.2.2.2.2.2.2 r_guests r_kinds r_figures r_minutes r_settings r_hooks r_letters r_letterCount)) (kX3_dig l D ca t ad_n ad_y ad_b ad_r n_order n_weights n_black n_lifts n_begins_7 n_ends_3 n_has n_lifted n_allLifts n_doneAt b_heaps b_piles b_heights b_spots r_guests r_kinds r_figures r_minutes r_settings r_hooks r_letters r_letterCount p1 o_10 fuel _ hc_12) ⟨hx, hb, hml, hown, hts⟩ (zcwV hts zm_635 zm_636 zm_637 zm_568 zm_634 rfl rfl zdv_X3_dig ⟨Nat.le_of_ble_eq_true rfl, Nat.le_of_ble_eq_true rfl⟩) hA hK hZ hP hD hS [0, 1, 2, 3, 4, 5, 6, 7, 8, 12, 13, 14, 15, 16, 17, 18, 19, 20, 21, 22, 23, 24] [9, 10, 11] [3, 4, 5, 6, 7, 8, 9, 10, 11, 0, 1, 2, 12, 13, 14, 15, 16, 17, 18, 19, 20, 21, 22, 23, 24] rfl rfl rfl rfl rfl rfl rfl 2 0 rfl rfl rfl hl.1 (Nat.le_of_ble_eq_true rfl) dX3_goOne_109 rfl (fun H locs hP hD hS => ?_)
        exact j112 o_12.1 n_begins_7 n_ends_3 o_12.2.1 o_12.2.2.1 o_12.2.2.2.1 n_doneAt o_12.2.2.2.2.1 o_12.2.2.2.2.2.1 o_12.2.2.2.2.2.2 _ _ hF hP hD hS ls (lv_sub hl [1, 2] rfl)
    · have hF := zf c_9 hF
      refine lv_aload_n hx hb dX3_goOne_83 rfl (lv_at hl 0 rfl) ?_
      refine va_get (D := D) (ci := 2) (v := .ref (ad_b 0)) (C := RX3) (T := TX3) (N := 15) hx hb hts hin3 hown hK hP 0 rfl rfl 2 (by decide) (hts _ zm_347) (fun _ h9 => h9) rfl dX3_goOne_84 ?_
      refine va_get (D := D) (ci := 0) (v := .ref (ad_b 6)) (C := RX0) (T := TX0) (N := 4) hx hb hts hin0 hown hK hP 12 rfl rfl 3 (by decide) (hts _ zm_353) (fun _ h9 => h9) rfl dX3_goOne_87 ?_
      refine lv_iload_n hx hb dX3_goOne_90 rfl (lv_at hl 1 rfl) ?_
      refine va_iald hx hb hK hP 18 0 rfl rfl h_1 dX3_goOne_91 ?_
      refine lv_goto (tgt := 99) hx hb dX3_goOne_92 (by decide) ?_
      refine z_let hF (fun v2_13 hF => ?_)
      refine lv_istore_n (lv' := [(2, .int v2_13), (0, .ref (ad_n 0)), (1, .int p1)]) hx hb dX3_goOne_99 rfl hl (by decide) rfl (fun ls hl => ?_)
      refine lv_iload_n hx hb dX3_goOne_100 rfl (lv_at hl 0 rfl) ?_
      refine lv_bipush (v := (-4)) hx hb dX3_goOne_101 (by decide) ?_
      refine lv_icmp_eq (tgt := 112) hx hb dX3_goOne_103 (by decide) (fun c_14 => ?_) (fun c_14 => ?_)
      · have hF := zt c_14 hF
        exact j112 n_lifts n_begins_7 n_ends_3 n_has n_lifted n_allLifts n_doneAt b_piles b_heights b_spots _ _ hF hP hD hS ls (lv_sub hl [1, 2] rfl)
      · have hF := zf c_14 hF
        refine lv_aload_n hx hb dX3_goOne_106 rfl (lv_at hl 1 rfl) ?_
        refine lv_iload_n hx hb dX3_goOne_107 rfl (lv_at hl 2 rfl) ?_
        refine lv_iload_n hx hb dX3_goOne_108 rfl (lv_at hl 0 rfl) ?_
        obtain ⟨o_15, hc_15, hF⟩ := zb hF
        refine zcVv (rest := []) (ws' := (wX3_nybr ca ad_n ad_y ad_b ad_r (ad_r 0) n_order n_weights n_black o_15.1 n_begins_7 n_ends_3 o_15.2.1 o_15.2.2.1 o_15.2.2.2.1 n_doneAt y_going y_coming y_holds y_latest b_heaps o_15.2.2.2.2.1 o_15.2.2.2.2.2.1 o_15.2.2.2.2.2.2 r_guests r_kinds r_figures r_minutes r_settings r_hooks r_letters r_letterCount)) (kX3_dig l D ca t ad_n ad_y ad_b ad_r n_order n_weights n_black n_lifts n_begins_7 n_ends_3 n_has n_lifted n_allLifts n_doneAt b_heaps b_piles b_heights b_spots r_guests r_kinds r_figures r_minutes r_settings r_hooks r_letters r_letterCount p1 v2_13 fuel _ hc_15) ⟨hx, hb, hml, hown, hts⟩ (zcwV hts zm_635 zm_636 zm_637 zm_568 zm_634 rfl rfl zdv_X3_dig ⟨Nat.le_of_ble_eq_true rfl, Nat.le_of_ble_eq_true rfl⟩) hA hK hZ hP hD hS [0, 1, 2, 3, 4, 5, 6, 7, 8, 12, 13, 14, 15, 16, 17, 18, 19, 20, 21, 22, 23, 24] [9, 10, 11] [3, 4, 5, 6, 7, 8, 9, 10, 11, 0, 1, 2, 12, 13, 14, 15, 16, 17, 18, 19, 20, 21, 22, 23, 24] rfl rfl rfl rfl rfl rfl rfl 2 0 rfl rfl rfl hl.1 (Nat.le_of_ble_eq_true rfl) dX3_goOne_109 rfl (fun H locs hP hD hS => ?_)
        exact j112 o_15.1 n_begins_7 n_ends_3 o_15.2.1 o_15.2.2.1 o_15.2.2.2.1 n_doneAt o_15.2.2.2.2.1 o_15.2.2.2.2.2.1 o_15.2.2.2.2.2.2 _ _ hF hP hD hS ls (lv_sub hl [1, 2] rfl)
  · have hF := zf c_5 hF
    refine lv_aload_n hx hb dX3_goOne_35 rfl (lv_at hl 0 rfl) ?_
    refine va_get (D := D) (ci := 2) (v := .ref (ad_n 7)) (C := RX3) (T := TX3) (N := 15) hx hb hts hin3 hown hK hP 0 rfl rfl 11 (by decide) (hts _ zm_366) (fun _ h9 => h9) rfl dX3_goOne_36 ?_
    refine lv_iload_n hx hb dX3_goOne_39 rfl (lv_at hl 1 rfl) ?_
    refine lv_iload_n hx hb dX3_goOne_40 rfl (lv_at hl 1 rfl) ?_
    refine z_iast hx hb hK hP hD hS 7 0 rfl rfl h_1 dX3_goOne_41 (fun g => (wX3_nybr ca ad_n ad_y ad_b ad_r (ad_r 0) n_order n_weights n_black n_lifts n_begins_2 n_ends_3 g n_lifted n_allLifts n_doneAt y_going y_coming y_holds y_latest b_heaps b_piles b_heights b_spots r_guests r_kinds r_figures r_minutes r_settings r_hooks r_letters r_letterCount)) (fun _ => rfl) hF (fun n_has_16 H locs hF hP hD hS => ?_)
    refine lv_aload_n hx hb dX3_goOne_42 rfl (lv_at hl 0 rfl) ?_
    refine va_get (D := D) (ci := 2) (v := .ref (ad_b 0)) (C := RX3) (T := TX3) (N := 15) hx hb hts hin3 hown hK hP 0 rfl rfl 2 (by decide) (hts _ zm_347) (fun _ h9 => h9) rfl dX3_goOne_43 ?_
    refine va_get (D := D) (ci := 0) (v := .ref (ad_b 6)) (C := RX0) (T := TX0) (N := 4) hx hb hts hin0 hown hK hP 12 rfl rfl 3 (by decide) (hts _ zm_353) (fun _ h9 => h9) rfl dX3_goOne_46 ?_
    refine lv_iload_n hx hb dX3_goOne_49 rfl (lv_at hl 1 rfl) ?_
    refine lv_iconst (v := (-1)) hx hb dX3_goOne_50 (by decide) ?_
    refine z_iast hx hb hK hP hD hS 18 0 rfl rfl h_1 dX3_goOne_51 (fun g => (wX3_nybr ca ad_n ad_y ad_b ad_r (ad_r 0) n_order n_weights n_black n_lifts n_begins_2 n_ends_3 n_has_16 n_lifted n_allLifts n_doneAt y_going y_coming y_holds y_latest b_heaps b_piles b_heights g r_guests r_kinds r_figures r_minutes r_settings r_hooks r_letters r_letterCount)) (fun _ => rfl) hF (fun b_spots_17 H locs hF hP hD hS => ?_)
    obtain rfl := Option.some.inj hF
    exact hret _ _ _ _ hP hD hS dX3_goOne_52
theorem zdv_X3_goOne : yX3_goOne.cls = RX3 ∧ yX3_goOne.cls ≠ "java/lang/invoke/MethodHandle" ∧ yX3_goOne.cls ≠ "java/lang/invoke/VarHandle" ∧ (parseMethodDescriptor yX3_goOne.desc).map (fun d => d.parameters.length) = some 1 := by decide +kernel
theorem zdv_X3_turnAll : yX3_turnAll.cls = RX3 ∧ yX3_turnAll.cls ≠ "java/lang/invoke/MethodHandle" ∧ yX3_turnAll.cls ≠ "java/lang/invoke/VarHandle" ∧ (parseMethodDescriptor yX3_turnAll.desc).map (fun d => d.parameters.length) = some 0 := by decide +kernel
abbrev roX3_letGo : Room := { frames := 4, cells := 0, slots := 0, locals := 92 }
set_option maxHeartbeats 4000000 in
set_option maxRecDepth 100000 in
theorem kX3_letGo (l : Launch) (D : va_G) (ca : Nat → ClassId) (t : Nat → Nat) (ad_n : Nat → Nat) (ad_y : Nat → Nat) (ad_b : Nat → Nat) (ad_r : Nat → Nat) (n_order : Nat → Int32) (n_weights : Nat → Int32) (n_black : Nat → Int32) (n_lifts : Nat → Int32) (n_begins : Nat → Int32) (n_ends : Nat → Int32) (n_has : Nat → Int32) (n_lifted : Nat → Int32) (n_allLifts : Int32) (n_doneAt : Int32) (y_going : Nat → Int32) (y_coming : Nat → Int32) (y_holds : Int32) (y_latest : Int32) (b_heaps : Int32) (b_piles : Nat → Nat → Int32) (b_heights : Nat → Int32) (b_spots : Nat → Int32) (r_guests : Int32) (r_kinds : Nat → Int32) (r_figures : Nat → Int32) (r_minutes : Nat → Int32) (r_settings : Nat → Int32) (r_hooks : Int32) (r_letters : Nat → Int32) (r_letterCount : Int32) (p1 : Int32) (p2 : Int32) (fuel : Nat) (o : Int32 × (Nat → Int32) × (Nat → Int32) × (Nat → Int32) × (Nat → Int32) × (Nat → Int32) × Int32 × Int32 × (Nat → Nat → Int32) × (Nat → Int32) × (Nat → Int32)) (hF : fX3_letGo fuel n_order n_weights n_black n_lifts n_begins n_ends n_has n_lifted n_allLifts n_doneAt y_going b_heaps b_piles b_heights b_spots r_guests r_settings p1 p2 = some o) : zMi l D (zT ca) t yX3_letGo (.code yX3_letGo cX3_letGo 4 (some .int) :: zW) roX3_letGo [.ref (ad_n 0), .int p1, .int p2] (wX3_nybr ca ad_n ad_y ad_b ad_r (ad_r 0) n_order n_weights n_black n_lifts n_begins n_ends n_has n_lifted n_allLifts n_doneAt y_going y_coming y_holds y_latest b_heaps b_piles b_heights b_spots r_guests r_kinds r_figures r_minutes r_settings r_hooks r_letters r_letterCount) (wX3_nybr ca ad_n ad_y ad_b ad_r (ad_r 0) n_order n_weights n_black o.2.1 o.2.2.1 o.2.2.2.1 o.2.2.2.2.1 o.2.2.2.2.2.1 o.2.2.2.2.2.2.1 o.2.2.2.2.2.2.2.1 y_going y_coming y_holds y_latest b_heaps o.2.2.2.2.2.2.2.2.1 o.2.2.2.2.2.2.2.2.2.1 o.2.2.2.2.2.2.2.2.2.2 r_guests r_kinds r_figures r_minutes r_settings r_hooks r_letters r_letterCount) o.1 := by
  refine zMi_of (cc := cX3_letGo) (maxL := 4) (by decide) rfl (Nat.le_of_ble_eq_true rfl) ?_
  intro p e s m args below meth c A Q ls ⟨hx, hb, hml, hown, hts, hA, hK, hZ, hS⟩ hret hP hD hl
  have hts := fun w h => hts w (List.mem_cons_of_mem _ h)
  have hown : s.vm.findClass RX3 = some m.cls := hown
  have hl : lv_has ls 4 [(0, .ref (ad_n 0)), (1, .int p1), (2, .int p2)] := hl
  have hin3 := zin_X3
  have hin5 := zin_X5
  have l53 : ∀ (n53 : Nat) (v3 : Int32) (n_lifts : Nat → Int32) (n_begins : Nat → Int32) (n_ends : Nat → Int32) (n_has : Nat → Int32) (n_lifted : Nat → Int32) (n_allLifts : Int32) (n_doneAt : Int32) (b_piles : Nat → Nat → Int32) (b_heights : Nat → Int32) (b_spots : Nat → Int32) (H : Heap) (locs : List Loc), fX3_letGo_L53 fuel n_order n_weights n_black y_going b_heaps r_settings p1 p2 n53 v3 n_lifts n_begins n_ends n_has n_lifted n_allLifts n_doneAt b_piles b_heights b_spots = some o → va_P D vwCl (wX3_nybr ca ad_n ad_y ad_b ad_r (ad_r 0) n_order n_weights n_black n_lifts n_begins n_ends n_has n_lifted n_allLifts n_doneAt y_going y_coming y_holds y_latest b_heaps b_piles b_heights b_spots r_guests r_kinds r_figures r_minutes r_settings r_hooks r_letters r_letterCount) H → va_D A (wX3_nybr ca ad_n ad_y ad_b ad_r (ad_r 0) n_order n_weights n_black n_lifts n_begins n_ends n_has n_lifted n_allLifts n_doneAt y_going y_coming y_holds y_latest b_heaps b_piles b_heights b_spots r_guests r_kinds r_figures r_minutes r_settings r_hooks r_letters r_letterCount) → va_S A s.heap H locs → ∀ ls : Array Slot, lv_has ls 4 [(0, .ref (ad_n 0)), (1, .int p1), (2, .int p2), (3, .int v3)] → W p l e roX3_letGo s m args below meth c H locs 0 0 Q (F0 m 53 ls []) := by
    intro n53
    induction n53 with
    | zero =>
      intro v3 n_lifts n_begins n_ends n_has n_lifted n_allLifts n_doneAt b_piles b_heights b_spots H locs hF
      rw [fX3_letGo_L53] at hF
      cases hF
    | succ n53 ih53 =>
      have j67 : ∀ (v3 : Int32) (n_lifts : Nat → Int32) (n_begins : Nat → Int32) (n_ends : Nat → Int32) (n_has : Nat → Int32) (n_lifted : Nat → Int32) (n_allLifts : Int32) (n_doneAt : Int32) (b_piles : Nat → Nat → Int32) (b_heights : Nat → Int32) (b_spots : Nat → Int32) (H : Heap) (locs : List Loc), fX3_letGo_J67 fuel n_order n_weights n_black y_going b_heaps r_settings (fX3_letGo_L53 fuel n_order n_weights n_black y_going b_heaps r_settings p1 p2 n53) v3 n_lifts n_begins n_ends n_has n_lifted n_allLifts n_doneAt b_piles b_heights b_spots = some o → va_P D vwCl (wX3_nybr ca ad_n ad_y ad_b ad_r (ad_r 0) n_order n_weights n_black n_lifts n_begins n_ends n_has n_lifted n_allLifts n_doneAt y_going y_coming y_holds y_latest b_heaps b_piles b_heights b_spots r_guests r_kinds r_figures r_minutes r_settings r_hooks r_letters r_letterCount) H → va_D A (wX3_nybr ca ad_n ad_y ad_b ad_r (ad_r 0) n_order n_weights n_black n_lifts n_begins n_ends n_has n_lifted n_allLifts n_doneAt y_going y_coming y_holds y_latest b_heaps b_piles b_heights b_spots r_guests r_kinds r_figures r_minutes r_settings r_hooks r_letters r_letterCount) → va_S A s.heap H locs → ∀ ls : Array Slot, lv_has ls 4 [(0, .ref (ad_n 0)), (1, .int p1), (2, .int p2), (3, .int v3)] → W p l e roX3_letGo s m args below meth c H locs 0 0 Q (F0 m 67 ls []) := by
        intro v3 n_lifts n_begins n_ends n_has n_lifted n_allLifts n_doneAt b_piles b_heights b_spots H locs hF hP hD hS ls hl
        unfold fX3_letGo_J67 at hF
        refine lv_aload_n hx hb dX3_letGo_67 rfl (lv_at hl 0 rfl) ?_
        refine lv_aload_n hx hb dX3_letGo_68 rfl (lv_at hl 0 rfl) ?_
        refine va_get (D := D) (ci := 2) (v := .ref (ad_n 1)) (C := RX3) (T := TX3) (N := 15) hx hb hts hin3 hown hK hP 0 rfl rfl 5 (by decide) (hts _ zm_346) (fun _ h9 => h9) rfl dX3_letGo_69 ?_
        refine lv_iload_n hx hb dX3_letGo_72 rfl (lv_at hl 3 rfl) ?_
        obtain ⟨h_10, hF⟩ := zgi hF
        refine va_iald hx hb hK hP 1 0 rfl rfl h_10 dX3_letGo_73 ?_
        obtain ⟨o_11, hc_11, hF⟩ := zb hF
        refine zcVv (rest := []) (ws' := (wX3_nybr ca ad_n ad_y ad_b ad_r (ad_r 0) n_order n_weights n_black o_11.1 o_11.2.1 o_11.2.2.1 o_11.2.2.2.1 o_11.2.2.2.2.1 o_11.2.2.2.2.2.1 o_11.2.2.2.2.2.2.1 y_going y_coming y_holds y_latest b_heaps o_11.2.2.2.2.2.2.2.1 o_11.2.2.2.2.2.2.2.2.1 o_11.2.2.2.2.2.2.2.2.2 r_guests r_kinds r_figures r_minutes r_settings r_hooks r_letters r_letterCount)) (kX3_goOne l D ca t ad_n ad_y ad_b ad_r n_order n_weights n_black n_lifts n_begins n_ends n_has n_lifted n_allLifts n_doneAt y_going y_coming y_holds y_latest b_heaps b_piles b_heights b_spots r_guests r_kinds r_figures r_minutes r_settings r_hooks r_letters r_letterCount (n_order v3.toNatClampNeg) fuel _ hc_11) ⟨hx, hb, hml, hown, hts⟩ (zcwV hts zm_685 zm_686 zm_687 zm_568 zm_684 rfl rfl zdv_X3_goOne ⟨Nat.le_of_ble_eq_true rfl, Nat.le_of_ble_eq_true rfl⟩) hA hK hZ hP hD hS [0, 1, 2, 3, 4, 5, 6, 7, 8, 9, 10, 11, 12, 13, 14, 15, 16, 17, 18, 19, 20, 21, 22, 23, 24] [] [0, 1, 2, 3, 4, 5, 6, 7, 8, 9, 10, 11, 12, 13, 14, 15, 16, 17, 18, 19, 20, 21, 22, 23, 24] rfl rfl rfl rfl rfl rfl rfl 2 0 rfl rfl rfl hl.1 (Nat.le_of_ble_eq_true rfl) dX3_letGo_74 rfl (fun H locs hP hD hS => ?_)
        refine z_iinc (kv := 1) hx hb 3 dX3_letGo_77 hl rfl (by decide) (by decide) (fun g => [(3, .int g), (0, .ref (ad_n 0)), (1, .int p1), (2, .int p2)]) (fun _ => rfl) hF (fun v3_12 ls hF hl => ?_)
        refine lv_goto (tgt := 53) hx hb dX3_letGo_80 (by decide) ?_
        exact ih53 v3_12 o_11.1 o_11.2.1 o_11.2.2.1 o_11.2.2.2.1 o_11.2.2.2.2.1 o_11.2.2.2.2.2.1 o_11.2.2.2.2.2.2.1 o_11.2.2.2.2.2.2.2.1 o_11.2.2.2.2.2.2.2.2.1 o_11.2.2.2.2.2.2.2.2.2 _ _ hF hP hD hS ls (lv_sub hl [1, 2, 3, 0] rfl)
      intro v3 n_lifts n_begins n_ends n_has n_lifted n_allLifts n_doneAt b_piles b_heights b_spots H locs hF hP hD hS ls hl
      rw [fX3_letGo_L53] at hF
      refine lv_iload_n hx hb dX3_letGo_53 rfl (lv_at hl 3 rfl) ?_
      refine lv_iload_n hx hb dX3_letGo_54 rfl (lv_at hl 1 rfl) ?_
      refine lv_icmp_ge (tgt := 83) hx hb dX3_letGo_55 (by decide) (fun c_7 => ?_) (fun c_7 => ?_)
      · have hF := zt c_7 hF
        refine lv_aload_n hx hb dX3_letGo_83 rfl (lv_at hl 0 rfl) ?_
        refine va_get (D := D) (ci := 2) (v := .int n_allLifts) (C := RX3) (T := TX3) (N := 15) hx hb hts hin3 hown hK hP 0 rfl rfl 13 (by decide) (hts _ zm_361) (fun _ h9 => h9) rfl dX3_letGo_84 ?_
        obtain rfl := Option.some.inj hF
        exact hret _ _ _ _ hP hD hS rfl dX3_letGo_87
      · have hF := zf c_7 hF
        refine lv_iload_n hx hb dX3_letGo_58 rfl (lv_at hl 3 rfl) ?_
        refine lv_iload_n hx hb dX3_letGo_59 rfl (lv_at hl 2 rfl) ?_
        refine lv_icmp_ne (tgt := 67) hx hb dX3_letGo_60 (by decide) (fun c_8 => ?_) (fun c_8 => ?_)
        · have hF := zf c_8 hF
          exact j67 v3 n_lifts n_begins n_ends n_has n_lifted n_allLifts n_doneAt b_piles b_heights b_spots _ _ hF hP hD hS ls (lv_sub hl [0, 1, 2, 3] rfl)
        · have hF := zt c_8 hF
          refine lv_aload_n hx hb dX3_letGo_63 rfl (lv_at hl 0 rfl) ?_
          obtain ⟨o_9, hc_9, hF⟩ := zb hF
          refine zcVv (rest := []) (ws' := (wX3_nybr ca ad_n ad_y ad_b ad_r (ad_r 0) n_order n_weights n_black n_lifts n_begins n_ends n_has n_lifted o_9.1 n_doneAt y_going y_coming y_holds y_latest b_heaps o_9.2 b_heights b_spots r_guests r_kinds r_figures r_minutes r_settings r_hooks r_letters r_letterCount)) (kX3_turnAll l D ca t ad_n ad_y ad_b (ad_r 0) n_order n_weights n_black n_lifts n_begins n_ends n_has n_lifted n_allLifts n_doneAt b_heaps b_piles b_heights b_spots fuel _ hc_9) ⟨hx, hb, hml, hown, hts⟩ (zcwV hts zm_681 zm_682 zm_683 zm_568 zm_680 rfl rfl zdv_X3_turnAll ⟨Nat.le_of_ble_eq_true rfl, Nat.le_of_ble_eq_true rfl⟩) hA hK hZ hP hD hS [0, 1, 2, 3, 4, 5, 6, 7, 8, 12, 13, 14, 15, 16, 17, 18] [9, 10, 11, 19, 20, 21, 22, 23, 24] [9, 10, 11, 12, 13, 14, 15, 16, 17, 0, 1, 2, 18, 19, 20, 21, 22, 23, 24, 3, 4, 5, 6, 7, 8] rfl rfl rfl rfl rfl rfl rfl 2 0 rfl rfl rfl hl.1 (Nat.le_of_ble_eq_true rfl) dX3_letGo_64 rfl (fun H locs hP hD hS => ?_)
          exact j67 v3 n_lifts n_begins n_ends n_has n_lifted o_9.1 n_doneAt o_9.2 b_heights b_spots _ _ hF hP hD hS ls (lv_sub hl [0, 1, 2, 3] rfl)
  have j51 : ∀ (n_lifts : Nat → Int32) (n_begins : Nat → Int32) (n_ends : Nat → Int32) (n_has : Nat → Int32) (n_lifted : Nat → Int32) (n_allLifts : Int32) (n_doneAt : Int32) (b_piles : Nat → Nat → Int32) (b_heights : Nat → Int32) (b_spots : Nat → Int32) (H : Heap) (locs : List Loc), fX3_letGo_J51 fuel n_order n_weights n_black y_going b_heaps r_settings p1 p2 n_lifts n_begins n_ends n_has n_lifted n_allLifts n_doneAt b_piles b_heights b_spots = some o → va_P D vwCl (wX3_nybr ca ad_n ad_y ad_b ad_r (ad_r 0) n_order n_weights n_black n_lifts n_begins n_ends n_has n_lifted n_allLifts n_doneAt y_going y_coming y_holds y_latest b_heaps b_piles b_heights b_spots r_guests r_kinds r_figures r_minutes r_settings r_hooks r_letters r_letterCount) H → va_D A (wX3_nybr ca ad_n ad_y ad_b ad_r (ad_r 0) n_order n_weights n_black n_lifts n_begins n_ends n_has n_lifted n_allLifts n_doneAt y_going y_coming y_holds y_latest b_heaps b_piles b_heights b_spots r_guests r_kinds r_figures r_minutes r_settings r_hooks r_letters r_letterCount) → va_S A s.heap H locs → ∀ ls : Array Slot, lv_has ls 4 [(0, .ref (ad_n 0)), (1, .int p1), (2, .int p2)] → W p l e roX3_letGo s m args below meth c H locs 0 0 Q (F0 m 51 ls []) := by
    intro n_lifts n_begins n_ends n_has n_lifted n_allLifts n_doneAt b_piles b_heights b_spots H locs hF hP hD hS ls hl
    unfold fX3_letGo_J51 at hF
    refine lv_iconst (v := 0) hx hb dX3_letGo_51 (by decide) ?_
    refine lv_istore_n (lv' := [(3, .int 0), (0, .ref (ad_n 0)), (1, .int p1), (2, .int p2)]) hx hb dX3_letGo_52 rfl hl (by decide) rfl (fun ls hl => ?_)
    exact l53 fuel 0 n_lifts n_begins n_ends n_has n_lifted n_allLifts n_doneAt b_piles b_heights b_spots _ _ hF hP hD hS ls (lv_sub hl [1, 2, 3, 0] rfl)
  have l12 : ∀ (n12 : Nat) (v3 : Int32) (n_lifts : Nat → Int32) (n_begins : Nat → Int32) (n_ends : Nat → Int32) (n_has : Nat → Int32) (n_lifted : Nat → Int32) (n_allLifts : Int32) (n_doneAt : Int32) (b_piles : Nat → Nat → Int32) (b_heights : Nat → Int32) (b_spots : Nat → Int32) (H : Heap) (locs : List Loc), fX3_letGo_L12 fuel n_order n_weights n_black y_going b_heaps r_guests r_settings p1 p2 n12 v3 n_lifts n_begins n_ends n_has n_lifted n_allLifts n_doneAt b_piles b_heights b_spots = some o → va_P D vwCl (wX3_nybr ca ad_n ad_y ad_b ad_r (ad_r 0) n_order n_weights n_black n_lifts n_begins n_ends n_has n_lifted n_allLifts n_doneAt y_going y_coming y_holds y_latest b_heaps b_piles b_heights b_spots r_guests r_kinds r_figures r_minutes r_settings r_hooks r_letters r_letterCount) H → va_D A (wX3_nybr ca ad_n ad_y ad_b ad_r (ad_r 0) n_order n_weights n_black n_lifts n_begins n_ends n_has n_lifted n_allLifts n_doneAt y_going y_coming y_holds y_latest b_heaps b_piles b_heights b_spots r_guests r_kinds r_figures r_minutes r_settings r_hooks r_letters r_letterCount) → va_S A s.heap H locs → ∀ ls : Array Slot, lv_has ls 4 [(0, .ref (ad_n 0)), (1, .int p1), (2, .int p2), (3, .int v3)] → W p l e roX3_letGo s m args below meth c H locs 0 0 Q (F0 m 12 ls []) := by
    intro n12
    induction n12 with
    | zero =>
      intro v3 n_lifts n_begins n_ends n_has n_lifted n_allLifts n_doneAt b_piles b_heights b_spots H locs hF
      rw [fX3_letGo_L12] at hF
      cases hF
    | succ n12 ih12 =>
      intro v3 n_lifts n_begins n_ends n_has n_lifted n_allLifts n_doneAt b_piles b_heights b_spots H locs hF hP hD hS ls hl
      rw [fX3_letGo_L12] at hF
      refine lv_iload_n hx hb dX3_letGo_12 rfl (lv_at hl 3 rfl) ?_
      refine lv_aload_n hx hb dX3_letGo_13 rfl (lv_at hl 0 rfl) ?_
      refine va_get (D := D) (ci := 2) (v := .ref (ad_r 0)) (C := RX3) (T := TX3) (N := 15) hx hb hts hin3 hown hK hP 0 rfl rfl 0 (by decide) (hts _ zm_343) (fun _ h9 => h9) rfl dX3_letGo_14 ?_
      refine va_get (D := D) (ci := 3) (v := .int r_guests) (C := RX5) (T := TX5) (N := 8) hx hb hts hin5 hown hK hP 19 rfl rfl 0 (by decide) (hts _ zm_344) (fun _ h9 => h9) rfl dX3_letGo_17 ?_
      refine lv_icmp_ge (tgt := 51) hx hb dX3_letGo_20 (by decide) (fun c_1 => ?_) (fun c_1 => ?_)
      · have hF := zt c_1 hF
        exact j51 n_lifts n_begins n_ends n_has n_lifted n_allLifts n_doneAt b_piles b_heights b_spots _ _ hF hP hD hS ls (lv_sub hl [0, 1, 2] rfl)
      · have hF := zf c_1 hF
        refine lv_aload_n hx hb dX3_letGo_23 rfl (lv_at hl 0 rfl) ?_
        refine va_get (D := D) (ci := 2) (v := .ref (ad_n 4)) (C := RX3) (T := TX3) (N := 15) hx hb hts hin3 hown hK hP 0 rfl rfl 8 (by decide) (hts _ zm_573) (fun _ h9 => h9) rfl dX3_letGo_24 ?_
        refine lv_iload_n hx hb dX3_letGo_27 rfl (lv_at hl 3 rfl) ?_
        refine lv_iconst (v := 0) hx hb dX3_letGo_28 (by decide) ?_
        obtain ⟨h_2, hF⟩ := zgi hF
        refine z_iast hx hb hK hP hD hS 4 0 rfl rfl h_2 dX3_letGo_29 (fun g => (wX3_nybr ca ad_n ad_y ad_b ad_r (ad_r 0) n_order n_weights n_black g n_begins n_ends n_has n_lifted n_allLifts n_doneAt y_going y_coming y_holds y_latest b_heaps b_piles b_heights b_spots r_guests r_kinds r_figures r_minutes r_settings r_hooks r_letters r_letterCount)) (fun _ => rfl) hF (fun n_lifts_3 H locs hF hP hD hS => ?_)
        refine lv_aload_n hx hb dX3_letGo_30 rfl (lv_at hl 0 rfl) ?_
        refine va_get (D := D) (ci := 2) (v := .ref (ad_n 8)) (C := RX3) (T := TX3) (N := 15) hx hb hts hin3 hown hK hP 0 rfl rfl 12 (by decide) (hts _ zm_574) (fun _ h9 => h9) rfl dX3_letGo_31 ?_
        refine lv_iload_n hx hb dX3_letGo_34 rfl (lv_at hl 3 rfl) ?_
        refine lv_iconst (v := 0) hx hb dX3_letGo_35 (by decide) ?_
        refine z_iast hx hb hK hP hD hS 8 0 rfl rfl h_2 dX3_letGo_36 (fun g => (wX3_nybr ca ad_n ad_y ad_b ad_r (ad_r 0) n_order n_weights n_black n_lifts_3 n_begins n_ends n_has g n_allLifts n_doneAt y_going y_coming y_holds y_latest b_heaps b_piles b_heights b_spots r_guests r_kinds r_figures r_minutes r_settings r_hooks r_letters r_letterCount)) (fun _ => rfl) hF (fun n_lifted_4 H locs hF hP hD hS => ?_)
        refine lv_aload_n hx hb dX3_letGo_37 rfl (lv_at hl 0 rfl) ?_
        refine va_get (D := D) (ci := 2) (v := .ref (ad_n 7)) (C := RX3) (T := TX3) (N := 15) hx hb hts hin3 hown hK hP 0 rfl rfl 11 (by decide) (hts _ zm_366) (fun _ h9 => h9) rfl dX3_letGo_38 ?_
        refine lv_iload_n hx hb dX3_letGo_41 rfl (lv_at hl 3 rfl) ?_
        refine lv_bipush (v := (-4)) hx hb dX3_letGo_42 (by decide) ?_
        refine z_iast hx hb hK hP hD hS 7 0 rfl rfl h_2 dX3_letGo_44 (fun g => (wX3_nybr ca ad_n ad_y ad_b ad_r (ad_r 0) n_order n_weights n_black n_lifts_3 n_begins n_ends g n_lifted_4 n_allLifts n_doneAt y_going y_coming y_holds y_latest b_heaps b_piles b_heights b_spots r_guests r_kinds r_figures r_minutes r_settings r_hooks r_letters r_letterCount)) (fun _ => rfl) hF (fun n_has_5 H locs hF hP hD hS => ?_)
        refine z_iinc (kv := 1) hx hb 3 dX3_letGo_45 hl rfl (by decide) (by decide) (fun g => [(3, .int g), (0, .ref (ad_n 0)), (1, .int p1), (2, .int p2)]) (fun _ => rfl) hF (fun v3_6 ls hF hl => ?_)
        refine lv_goto (tgt := 12) hx hb dX3_letGo_48 (by decide) ?_
        exact ih12 v3_6 n_lifts_3 n_begins n_ends n_has_5 n_lifted_4 n_allLifts n_doneAt b_piles b_heights b_spots _ _ hF hP hD hS ls (lv_sub hl [1, 2, 3, 0] rfl)
  unfold fX3_letGo at hF
  refine lv_aload_n hx hb dX3_letGo_0 rfl (lv_at hl 0 rfl) ?_
  refine lv_iconst (v := 0) hx hb dX3_letGo_1 (by decide) ?_
  refine va_put (D := D) (ci := 2) (v := .int 0) (C := RX3) (T := TX3) (N := 15) hx hb hts hin3 tyX3 tyX3_ok nmX3 hown hK hP hD hS 0 rfl rfl 13 (by decide) (hts _ zm_361) (fun _ h9 => h9) rfl (tyX3_ok 13 (by decide)) rfl rfl (Nat.le_of_ble_eq_true rfl) dX3_letGo_2 (fun H locs hP hD hS => ?_)
  have hP : va_P D vwCl (wX3_nybr ca ad_n ad_y ad_b ad_r (ad_r 0) n_order n_weights n_black n_lifts n_begins n_ends n_has n_lifted 0 n_doneAt y_going y_coming y_holds y_latest b_heaps b_piles b_heights b_spots r_guests r_kinds r_figures r_minutes r_settings r_hooks r_letters r_letterCount) H := hP
  have hD : va_D A (wX3_nybr ca ad_n ad_y ad_b ad_r (ad_r 0) n_order n_weights n_black n_lifts n_begins n_ends n_has n_lifted 0 n_doneAt y_going y_coming y_holds y_latest b_heaps b_piles b_heights b_spots r_guests r_kinds r_figures r_minutes r_settings r_hooks r_letters r_letterCount) := hD
  refine lv_aload_n hx hb dX3_letGo_5 rfl (lv_at hl 0 rfl) ?_
  refine lv_iconst (v := 0) hx hb dX3_letGo_6 (by decide) ?_
  refine va_put (D := D) (ci := 2) (v := .int 0) (C := RX3) (T := TX3) (N := 15) hx hb hts hin3 tyX3 tyX3_ok nmX3 hown hK hP hD hS 0 rfl rfl 14 (by decide) (hts _ zm_628) (fun _ h9 => h9) rfl (tyX3_ok 14 (by decide)) rfl rfl (Nat.le_of_ble_eq_true rfl) dX3_letGo_7 (fun H locs hP hD hS => ?_)
  have hP : va_P D vwCl (wX3_nybr ca ad_n ad_y ad_b ad_r (ad_r 0) n_order n_weights n_black n_lifts n_begins n_ends n_has n_lifted 0 0 y_going y_coming y_holds y_latest b_heaps b_piles b_heights b_spots r_guests r_kinds r_figures r_minutes r_settings r_hooks r_letters r_letterCount) H := hP
  have hD : va_D A (wX3_nybr ca ad_n ad_y ad_b ad_r (ad_r 0) n_order n_weights n_black n_lifts n_begins n_ends n_has n_lifted 0 0 y_going y_coming y_holds y_latest b_heaps b_piles b_heights b_spots r_guests r_kinds r_figures r_minutes r_settings r_hooks r_letters r_letterCount) := hD
  refine lv_iconst (v := 0) hx hb dX3_letGo_10 (by decide) ?_
  refine lv_istore_n (lv' := [(3, .int 0), (0, .ref (ad_n 0)), (1, .int p1), (2, .int p2)]) hx hb dX3_letGo_11 rfl hl (by decide) rfl (fun ls hl => ?_)
  exact l12 fuel 0 n_lifts n_begins n_ends n_has n_lifted 0 0 b_piles b_heights b_spots _ _ hF hP hD hS ls (lv_sub hl [1, 2, 3, 0] rfl)
theorem zdv_X2_layAll : yX2_layAll.cls = RX2 ∧ yX2_layAll.cls ≠ "java/lang/invoke/MethodHandle" ∧ yX2_layAll.cls ≠ "java/lang/invoke/VarHandle" ∧ (parseMethodDescriptor yX2_layAll.desc).map (fun d => d.parameters.length) = some 1 := by decide +kernel
theorem zdv_X3_begin : yX3_begin.cls = RX3 ∧ yX3_begin.cls ≠ "java/lang/invoke/MethodHandle" ∧ yX3_begin.cls ≠ "java/lang/invoke/VarHandle" ∧ (parseMethodDescriptor yX3_begin.desc).map (fun d => d.parameters.length) = some 1 := by decide +kernel
theorem zdv_X3_letGo : yX3_letGo.cls = RX3 ∧ yX3_letGo.cls ≠ "java/lang/invoke/MethodHandle" ∧ yX3_letGo.cls ≠ "java/lang/invoke/VarHandle" ∧ (parseMethodDescriptor yX3_letGo.desc).map (fun d => d.parameters.length) = some 2 := by decide +kernel
abbrev roX3_pass : Room := { frames := 5, cells := 0, slots := 0, locals := 117 }
set_option maxHeartbeats 4000000 in
set_option maxRecDepth 100000 in
theorem kX3_pass (l : Launch) (D : va_G) (ca : Nat → ClassId) (t : Nat → Nat) (ad_n : Nat → Nat) (ad_y : Nat → Nat) (ad_b : Nat → Nat) (ad_r : Nat → Nat) (n_room : Nat) (n_order : Nat → Int32) (n_weights : Nat → Int32) (n_black : Nat → Int32) (n_lifts : Nat → Int32) (n_begins : Nat → Int32) (n_ends : Nat → Int32) (n_has : Nat → Int32) (n_lifted : Nat → Int32) (n_allLifts : Int32) (n_doneAt : Int32) (y_going : Nat → Int32) (y_coming : Nat → Int32) (y_holds : Int32) (y_latest : Int32) (b_heaps : Int32) (b_piles : Nat → Nat → Int32) (b_heights : Nat → Int32) (b_spots : Nat → Int32) (r_guests : Int32) (r_kinds : Nat → Int32) (r_figures : Nat → Int32) (r_minutes : Nat → Int32) (r_settings : Nat → Int32) (r_hooks : Int32) (r_letters : Nat → Int32) (r_letterCount : Int32) (fuel : Nat) (o : Int32 × (Nat → Int32) × (Nat → Int32) × (Nat → Int32) × (Nat → Int32) × (Nat → Int32) × (Nat → Int32) × (Nat → Int32) × (Nat → Int32) × Int32 × Int32 × (Nat → Int32) × (Nat → Int32) × Int32 × Int32 × Int32 × (Nat → Nat → Int32) × (Nat → Int32) × (Nat → Int32)) (hF : fX3_pass fuel n_order n_weights n_black n_lifts n_begins n_ends n_has n_lifted n_allLifts n_doneAt y_going y_coming y_holds y_latest b_heaps b_piles b_heights b_spots r_guests r_kinds r_figures r_minutes r_settings r_hooks r_letters r_letterCount = some o) : zMi l D (zT ca) t yX3_pass (.code yX3_pass cX3_pass 2 (some .int) :: zW) roX3_pass [.ref (ad_n 0), .ref (ad_r 0)] (wX3_nybr ca ad_n ad_y ad_b ad_r n_room n_order n_weights n_black n_lifts n_begins n_ends n_has n_lifted n_allLifts n_doneAt y_going y_coming y_holds y_latest b_heaps b_piles b_heights b_spots r_guests r_kinds r_figures r_minutes r_settings r_hooks r_letters r_letterCount) (wX3_nybr ca ad_n ad_y ad_b ad_r (ad_r 0) o.2.1 o.2.2.1 o.2.2.2.1 o.2.2.2.2.1 o.2.2.2.2.2.1 o.2.2.2.2.2.2.1 o.2.2.2.2.2.2.2.1 o.2.2.2.2.2.2.2.2.1 o.2.2.2.2.2.2.2.2.2.1 o.2.2.2.2.2.2.2.2.2.2.1 o.2.2.2.2.2.2.2.2.2.2.2.1 o.2.2.2.2.2.2.2.2.2.2.2.2.1 o.2.2.2.2.2.2.2.2.2.2.2.2.2.1 o.2.2.2.2.2.2.2.2.2.2.2.2.2.2.1 o.2.2.2.2.2.2.2.2.2.2.2.2.2.2.2.1 o.2.2.2.2.2.2.2.2.2.2.2.2.2.2.2.2.1 o.2.2.2.2.2.2.2.2.2.2.2.2.2.2.2.2.2.1 o.2.2.2.2.2.2.2.2.2.2.2.2.2.2.2.2.2.2 r_guests r_kinds r_figures r_minutes r_settings r_hooks r_letters r_letterCount) o.1 := by
  refine zMi_of (cc := cX3_pass) (maxL := 2) (by decide) rfl (Nat.le_of_ble_eq_true rfl) ?_
  intro p e s m args below meth c A Q ls ⟨hx, hb, hml, hown, hts, hA, hK, hZ, hS⟩ hret hP hD hl
  have hts := fun w h => hts w (List.mem_cons_of_mem _ h)
  have hown : s.vm.findClass RX3 = some m.cls := hown
  have hl : lv_has ls 2 [(0, .ref (ad_n 0)), (1, .ref (ad_r 0))] := hl
  have hin3 := zin_X3
  have hin5 := zin_X5
  unfold fX3_pass at hF
  refine lv_aload_n hx hb dX3_pass_0 rfl (lv_at hl 0 rfl) ?_
  refine lv_aload_n hx hb dX3_pass_1 rfl (lv_at hl 1 rfl) ?_
  obtain ⟨o_1, hc_1, hF⟩ := zb hF
  refine zcVv (rest := []) (ws' := (wX3_nybr ca ad_n ad_y ad_b ad_r (ad_r 0) o_1.1 o_1.2.1 o_1.2.2.1 n_lifts n_begins n_ends n_has n_lifted n_allLifts n_doneAt o_1.2.2.2.1 o_1.2.2.2.2 y_holds y_latest b_heaps b_piles b_heights b_spots r_guests r_kinds r_figures r_minutes r_settings r_hooks r_letters r_letterCount)) (kX3_begin l D ca t ad_n ad_y ad_b ad_r n_room n_order n_weights n_black n_lifts n_begins n_ends n_has n_lifted n_allLifts n_doneAt y_going y_coming y_holds y_latest r_guests r_kinds r_figures r_minutes r_settings r_hooks r_letters r_letterCount fuel _ hc_1) ⟨hx, hb, hml, hown, hts⟩ (zcwV hts zm_773 zm_604 zm_605 zm_568 zm_602 rfl rfl zdv_X3_begin ⟨Nat.le_of_ble_eq_true rfl, Nat.le_of_ble_eq_true rfl⟩) hA hK hZ hP hD hS [0, 1, 2, 3, 4, 5, 6, 7, 8, 9, 10, 11, 19, 20, 21, 22, 23, 24] [12, 13, 14, 15, 16, 17, 18] [7, 8, 9, 10, 11, 12, 13, 14, 15, 16, 17, 18, 0, 1, 2, 3, 4, 5, 6, 19, 20, 21, 22, 23, 24] rfl rfl rfl rfl rfl rfl rfl 2 0 rfl rfl rfl hl.1 (Nat.le_of_ble_eq_true rfl) dX3_pass_2 rfl (fun H locs hP hD hS => ?_)
  refine lv_aload_n hx hb dX3_pass_5 rfl (lv_at hl 0 rfl) ?_
  refine va_get (D := D) (ci := 2) (v := .ref (ad_y 0)) (C := RX3) (T := TX3) (N := 15) hx hb hts hin3 hown hK hP 0 rfl rfl 1 (by decide) (hts _ zm_774) (fun _ h9 => h9) rfl dX3_pass_6 ?_
  refine lv_aload_n hx hb dX3_pass_9 rfl (lv_at hl 0 rfl) ?_
  refine va_get (D := D) (ci := 2) (v := .ref (ad_r 0)) (C := RX3) (T := TX3) (N := 15) hx hb hts hin3 hown hK hP 0 rfl rfl 0 (by decide) (hts _ zm_343) (fun _ h9 => h9) rfl dX3_pass_10 ?_
  obtain ⟨o_2, hc_2, hF⟩ := zb hF
  refine zcVv (rest := []) (ws' := (wX3_nybr ca ad_n ad_y ad_b ad_r (ad_r 0) o_1.1 o_1.2.1 o_1.2.2.1 n_lifts n_begins n_ends n_has n_lifted n_allLifts n_doneAt o_1.2.2.2.1 o_1.2.2.2.2 o_2.1 o_2.2.1 o_2.2.2.1 o_2.2.2.2.1 o_2.2.2.2.2.1 o_2.2.2.2.2.2 r_guests r_kinds r_figures r_minutes r_settings r_hooks r_letters r_letterCount)) (kX2_layAll l D ca t ad_y ad_b ad_r o_1.2.2.2.1 o_1.2.2.2.2 y_holds y_latest b_heaps b_piles b_heights b_spots r_guests r_kinds r_figures r_minutes r_settings r_hooks r_letters r_letterCount fuel _ hc_2) ⟨hx, hb, hml, hown, hts⟩ (zcwV hts zm_775 zm_715 zm_716 zm_340 zm_713 rfl rfl zdv_X2_layAll ⟨Nat.le_of_ble_eq_true rfl, Nat.le_of_ble_eq_true rfl⟩) hA hK hZ hP hD hS [9, 10, 11, 12, 13, 14, 15, 16, 17, 18, 19, 20, 21, 22, 23, 24] [0, 1, 2, 3, 4, 5, 6, 7, 8] [0, 1, 2, 3, 4, 5, 6, 7, 8, 9, 10, 11, 12, 13, 14, 15, 16, 17, 18, 19, 20, 21, 22, 23, 24] rfl rfl rfl rfl rfl rfl rfl 1 9 rfl rfl rfl hl.1 (Nat.le_of_ble_eq_true rfl) dX3_pass_13 rfl (fun H locs hP hD hS => ?_)
  refine lv_aload_n hx hb dX3_pass_16 rfl (lv_at hl 0 rfl) ?_
  refine lv_aload_n hx hb dX3_pass_17 rfl (lv_at hl 0 rfl) ?_
  refine va_get (D := D) (ci := 2) (v := .ref (ad_r 0)) (C := RX3) (T := TX3) (N := 15) hx hb hts hin3 hown hK hP 0 rfl rfl 0 (by decide) (hts _ zm_343) (fun _ h9 => h9) rfl dX3_pass_18 ?_
  refine va_get (D := D) (ci := 3) (v := .int r_guests) (C := RX5) (T := TX5) (N := 8) hx hb hts hin5 hown hK hP 19 rfl rfl 0 (by decide) (hts _ zm_344) (fun _ h9 => h9) rfl dX3_pass_21 ?_
  refine lv_bipush (v := (-4)) hx hb dX3_pass_24 (by decide) ?_
  obtain ⟨o_3, hc_3, hF⟩ := zb hF
  refine zcVi (rest := []) (ws' := (wX3_nybr ca ad_n ad_y ad_b ad_r (ad_r 0) o_1.1 o_1.2.1 o_1.2.2.1 o_3.2.1 o_3.2.2.1 o_3.2.2.2.1 o_3.2.2.2.2.1 o_3.2.2.2.2.2.1 o_3.2.2.2.2.2.2.1 o_3.2.2.2.2.2.2.2.1 o_1.2.2.2.1 o_1.2.2.2.2 o_2.1 o_2.2.1 o_2.2.2.1 o_3.2.2.2.2.2.2.2.2.1 o_3.2.2.2.2.2.2.2.2.2.1 o_3.2.2.2.2.2.2.2.2.2.2 r_guests r_kinds r_figures r_minutes r_settings r_hooks r_letters r_letterCount)) (kX3_letGo l D ca t ad_n ad_y ad_b ad_r o_1.1 o_1.2.1 o_1.2.2.1 n_lifts n_begins n_ends n_has n_lifted n_allLifts n_doneAt o_1.2.2.2.1 o_1.2.2.2.2 o_2.1 o_2.2.1 o_2.2.2.1 o_2.2.2.2.1 o_2.2.2.2.2.1 o_2.2.2.2.2.2 r_guests r_kinds r_figures r_minutes r_settings r_hooks r_letters r_letterCount r_guests (-4) fuel _ hc_3) ⟨hx, hb, hml, hown, hts⟩ (zcwV hts zm_776 zm_703 zm_704 zm_568 zm_701 rfl rfl zdv_X3_letGo ⟨Nat.le_of_ble_eq_true rfl, Nat.le_of_ble_eq_true rfl⟩) hA hK hZ hP hD hS [0, 1, 2, 3, 4, 5, 6, 7, 8, 9, 10, 11, 12, 13, 14, 15, 16, 17, 18, 19, 20, 21, 22, 23, 24] [] [0, 1, 2, 3, 4, 5, 6, 7, 8, 9, 10, 11, 12, 13, 14, 15, 16, 17, 18, 19, 20, 21, 22, 23, 24] rfl rfl rfl rfl rfl rfl rfl 2 0 rfl rfl rfl hl.1 (Nat.le_of_ble_eq_true rfl) dX3_pass_26 rfl (fun H locs hP hD hS => ?_)
  obtain rfl := Option.some.inj hF
  exact hret _ _ _ _ hP hD hS rfl dX3_pass_29
