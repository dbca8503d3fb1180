abbrev roX9_areHooks : Room := { frames := 0, cells := 0, slots := 0, locals := 0 }
set_option maxHeartbeats 4000000 in
set_option maxRecDepth 100000 in
theorem kX9_areHooks (l : Launch) (D : va_G) (ca : Nat → ClassId) (t : Nat → Nat) (ad_s : Nat → Nat) (ad_x : Nat → Nat) (ad_d : Nat → Nat) (ad_p : Nat → Nat) (ad_n : Nat → Nat) (ad_q : Nat → Nat) (x_hasPicture : Int32) (d_guests : Int32) (d_kinds : Nat → Int32) (d_figures : Nat → Int32) (d_minutes : Nat → Int32) (d_settings : Nat → Int32) (d_hooks : Int32) (d_letters : Nat → Int32) (d_letterCount : Int32) (p1 : Int32) (fuel : Nat) (o : Int32) (hF : fX9_areHooks fuel d_guests p1 = some o) : zRi l D (zT ca) t yX9_areHooks (.code yX9_areHooks cX9_areHooks 2 (some .boolean) :: zW) roX9_areHooks [.ref (ad_x 0), .int p1] (wX9_xd ca ad_s ad_x ad_d ad_p ad_n ad_q x_hasPicture d_guests d_kinds d_figures d_minutes d_settings d_hooks d_letters d_letterCount) o := by
  refine zRi_of (cc := cX9_areHooks) (maxL := 2) (by decide) rfl (Nat.le_of_ble_eq_true rfl) ?_
  intro p e s m args below meth c A Q ls ⟨hx, hb, hml, hown, hts, hA, hK, hZ, hS⟩ hret hP hD hl
  have hts := fun w h => hts w (List.mem_cons_of_mem _ h)
  have hown : s.vm.findClass RX9 = some m.cls := hown
  have hl : lv_has ls 2 [(0, .ref (ad_x 0)), (1, .int p1)] := hl
  have hin5 := zin_X5
  have hin9 := zin_X9
  unfold fX9_areHooks at hF
  refine lv_iload_n hx hb dX9_areHooks_0 rfl (lv_at hl 1 rfl) ?_
  refine lv_if_lt (tgt := 24) hx hb dX9_areHooks_1 (by decide) (fun c_1 => ?_) (fun c_1 => ?_)
  · have hF := zt c_1 hF
    refine lv_iconst (v := 0) hx hb dX9_areHooks_24 (by decide) ?_
    obtain rfl := Option.some.inj hF
    exact hret _ _ (zbool (Or.inl rfl)) dX9_areHooks_25
  · have hF := zf c_1 hF
    refine lv_iload_n hx hb dX9_areHooks_4 rfl (lv_at hl 1 rfl) ?_
    refine lv_iconst (v := 3) hx hb dX9_areHooks_5 (by decide) ?_
    refine lv_icmp_gt (tgt := 24) hx hb dX9_areHooks_6 (by decide) (fun c_2 => ?_) (fun c_2 => ?_)
    · have hF := zt c_2 hF
      refine lv_iconst (v := 0) hx hb dX9_areHooks_24 (by decide) ?_
      obtain rfl := Option.some.inj hF
      exact hret _ _ (zbool (Or.inl rfl)) dX9_areHooks_25
    · have hF := zf c_2 hF
      refine lv_iload_n hx hb dX9_areHooks_9 rfl (lv_at hl 1 rfl) ?_
      refine lv_aload_n hx hb dX9_areHooks_10 rfl (lv_at hl 0 rfl) ?_
      refine va_get (D := D) (ci := 6) (v := .ref (ad_d 0)) (C := RX9) (T := TX9) (N := 6) hx hb hts hin9 hown hK hP 0 rfl rfl 0 (by decide) (hts _ zm_3) (fun _ h9 => h9) rfl dX9_areHooks_11 ?_
      refine va_get (D := D) (ci := 3) (v := .int d_guests) (C := RX5) (T := TX5) (N := 8) hx hb hts hin5 hown hK hP 2 rfl rfl 0 (by decide) (hts _ zm_4) (fun _ h9 => h9) rfl dX9_areHooks_14 ?_
      refine lv_icmp_gt (tgt := 24) hx hb dX9_areHooks_17 (by decide) (fun c_3 => ?_) (fun c_3 => ?_)
      · have hF := zt c_3 hF
        refine lv_iconst (v := 0) hx hb dX9_areHooks_24 (by decide) ?_
        obtain rfl := Option.some.inj hF
        exact hret _ _ (zbool (Or.inl rfl)) dX9_areHooks_25
      · have hF := zf c_3 hF
        refine lv_iconst (v := 1) hx hb dX9_areHooks_20 (by decide) ?_
        refine lv_goto (tgt := 25) hx hb dX9_areHooks_21 (by decide) ?_
        obtain rfl := Option.some.inj hF
        exact hret _ _ (zbool (Or.inr rfl)) dX9_areHooks_25
theorem zds_X9_isShelf : yX9_isShelf.cls ≠ "java/lang/invoke/MethodHandle" ∧ yX9_isShelf.cls ≠ "java/lang/invoke/VarHandle" ∧ (parseMethodDescriptor yX9_isShelf.desc).map (fun d => d.parameters.length) = some 1 := by decide +kernel
abbrev roX9_refusalOf : Room := { frames := 1, cells := 0, slots := 0, locals := 20 }
set_option maxHeartbeats 4000000 in
set_option maxRecDepth 100000 in
theorem kX9_refusalOf (l : Launch) (D : va_G) (ca : Nat → ClassId) (t : Nat → Nat) (ad_s : Nat → Nat) (ad_x : Nat → Nat) (ad_d : Nat → Nat) (ad_p : Nat → Nat) (ad_n : Nat → Nat) (ad_q : Nat → Nat) (s_holds : Nat → Int32) (s_kind : Nat → Int32) (s_figure : Nat → Int32) (s_sort : Nat → Int32) (s_size : Nat → Int32) (s_el : Nat → Nat → Int32) (x_hasPicture : Int32) (p1 : Int32) (p2 : Int32) (fuel : Nat) (o : Int32) (hF : fX9_refusalOf fuel s_holds p1 p2 = some o) : zRi l D (zT ca) t yX9_refusalOf (.code yX9_refusalOf cX9_refusalOf 3 (some .int) :: zW) roX9_refusalOf [.ref (ad_x 0), .int p1, .int p2] (wX9_sx ca ad_s ad_x ad_d ad_p ad_n ad_q s_holds s_kind s_figure s_sort s_size s_el x_hasPicture) o := by
  refine zRi_of (cc := cX9_refusalOf) (maxL := 3) (by decide) rfl (Nat.le_of_ble_eq_true rfl) ?_
  intro p e s m args below meth c A Q ls ⟨hx, hb, hml, hown, hts, hA, hK, hZ, hS⟩ hret hP hD hl
  have hts := fun w h => hts w (List.mem_cons_of_mem _ h)
  have hown : s.vm.findClass RX9 = some m.cls := hown
  have hl : lv_has ls 3 [(0, .ref (ad_x 0)), (1, .int p1), (2, .int p2)] := hl
  have hin7 := zin_X7
  have hin9 := zin_X9
  unfold fX9_refusalOf at hF
  refine lv_iload_n hx hb dX9_refusalOf_0 rfl (lv_at hl 1 rfl) ?_
  obtain ⟨o_1, hc_1, hF⟩ := zb hF
  refine zcSR (rest := []) (kX9_isShelf l D ca t p1 fuel _ hc_1) ⟨hx, hb, hml, hown, hts⟩ (zcwS hts zm_8 zm_6 zm_7 zm_5 rfl rfl zds_X9_isShelf ⟨Nat.le_of_ble_eq_true rfl, Nat.le_of_ble_eq_true rfl⟩) hA hK hZ hP hD hS [] rfl rfl rfl hl.1 (Nat.le_of_ble_eq_true rfl) dX9_refusalOf_1 rfl ?_
  refine lv_if_ne (tgt := 9) hx hb dX9_refusalOf_4 (by decide) (fun c_2 => ?_) (fun c_2 => ?_)
  · have hF := zf c_2 hF
    refine lv_aload_n hx hb dX9_refusalOf_9 rfl (lv_at hl 0 rfl) ?_
    refine va_get (D := D) (ci := 6) (v := .ref (ad_x 1)) (C := RX9) (T := TX9) (N := 6) hx hb hts hin9 hown hK hP 16 rfl rfl 3 (by decide) (hts _ zm_9) (fun _ h9 => h9) rfl dX9_refusalOf_10 ?_
    refine lv_iload_n hx hb dX9_refusalOf_13 rfl (lv_at hl 1 rfl) ?_
    obtain ⟨h_3, hF⟩ := zgi hF
    refine z_aald hx hb hK hP 17 3 rfl rfl rfl h_3 dX9_refusalOf_14 ?_
    refine va_get (D := D) (ci := 4) (v := .int (s_holds p1.toNatClampNeg)) (C := RX7) (T := TX7) (N := 6) hx hb hts hin7 hown hK hP (2 * p1.toNatClampNeg) (zsh_at p1.toNatClampNeg (zin_lt h_3)) rfl 0 (by decide) (hts _ zm_10) (fun _ h9 => h9) rfl dX9_refusalOf_15 ?_
    refine lv_if_ne (tgt := 24) hx hb dX9_refusalOf_18 (by decide) (fun c_4 => ?_) (fun c_4 => ?_)
    · have hF := zf c_4 hF
      refine lv_aload_n hx hb dX9_refusalOf_24 rfl (lv_at hl 0 rfl) ?_
      refine va_get (D := D) (ci := 6) (v := .ref (ad_x 1)) (C := RX9) (T := TX9) (N := 6) hx hb hts hin9 hown hK hP 16 rfl rfl 3 (by decide) (hts _ zm_9) (fun _ h9 => h9) rfl dX9_refusalOf_25 ?_
      refine lv_iload_n hx hb dX9_refusalOf_28 rfl (lv_at hl 1 rfl) ?_
      refine z_aald hx hb hK hP 17 3 rfl rfl rfl h_3 dX9_refusalOf_29 ?_
      refine va_get (D := D) (ci := 4) (v := .int (s_holds p1.toNatClampNeg)) (C := RX7) (T := TX7) (N := 6) hx hb hts hin7 hown hK hP (2 * p1.toNatClampNeg) (zsh_at p1.toNatClampNeg (zin_lt h_3)) rfl 0 (by decide) (hts _ zm_10) (fun _ h9 => h9) rfl dX9_refusalOf_30 ?_
      refine lv_iload_n hx hb dX9_refusalOf_33 rfl (lv_at hl 2 rfl) ?_
      refine lv_icmp_ne (tgt := 41) hx hb dX9_refusalOf_34 (by decide) (fun c_5 => ?_) (fun c_5 => ?_)
      · have hF := zf c_5 hF
        refine lv_bipush (v := (-12)) hx hb dX9_refusalOf_41 (by decide) ?_
        obtain rfl := Option.some.inj hF
        exact hret _ _ rfl dX9_refusalOf_43
      · have hF := zt c_5 hF
        refine lv_iconst (v := 0) hx hb dX9_refusalOf_37 (by decide) ?_
        refine lv_goto (tgt := 43) hx hb dX9_refusalOf_38 (by decide) ?_
        obtain rfl := Option.some.inj hF
        exact hret _ _ rfl dX9_refusalOf_43
    · have hF := zt c_4 hF
      refine lv_bipush (v := (-11)) hx hb dX9_refusalOf_21 (by decide) ?_
      obtain rfl := Option.some.inj hF
      exact hret _ _ rfl dX9_refusalOf_23
  · have hF := zt c_2 hF
    refine lv_iconst (v := (-1)) hx hb dX9_refusalOf_7 (by decide) ?_
    obtain rfl := Option.some.inj hF
    exact hret _ _ rfl dX9_refusalOf_8
theorem zdv_X9_refusalOf : yX9_refusalOf.cls = RX9 ∧ yX9_refusalOf.cls ≠ "java/lang/invoke/MethodHandle" ∧ yX9_refusalOf.cls ≠ "java/lang/invoke/VarHandle" ∧ (parseMethodDescriptor yX9_refusalOf.desc).map (fun d => d.parameters.length) = some 2 := by decide +kernel
abbrev roX9_refusalOfBytes : Room := { frames := 2, cells := 0, slots := 0, locals := 42 }
set_option maxHeartbeats 4000000 in
set_option maxRecDepth 100000 in
theorem kX9_refusalOfBytes (l : Launch) (D : va_G) (ca : Nat → ClassId) (t : Nat → Nat) (ad_s : Nat → Nat) (ad_x : Nat → Nat) (ad_d : Nat → Nat) (ad_p : Nat → Nat) (ad_n : Nat → Nat) (ad_q : Nat → Nat) (s_holds : Nat → Int32) (s_kind : Nat → Int32) (s_figure : Nat → Int32) (s_sort : Nat → Int32) (s_size : Nat → Int32) (s_el : Nat → Nat → Int32) (x_hasPicture : Int32) (p1 : Int32) (fuel : Nat) (o : Int32) (hF : fX9_refusalOfBytes fuel s_holds s_sort p1 = some o) : zRi l D (zT ca) t yX9_refusalOfBytes (.code yX9_refusalOfBytes cX9_refusalOfBytes 3 (some .int) :: zW) roX9_refusalOfBytes [.ref (ad_x 0), .int p1] (wX9_sx ca ad_s ad_x ad_d ad_p ad_n ad_q s_holds s_kind s_figure s_sort s_size s_el x_hasPicture) o := by
  refine zRi_of (cc := cX9_refusalOfBytes) (maxL := 3) (by decide) rfl (Nat.le_of_ble_eq_true rfl) ?_
  intro p e s m args below meth c A Q ls ⟨hx, hb, hml, hown, hts, hA, hK, hZ, hS⟩ hret hP hD hl
  have hts := fun w h => hts w (List.mem_cons_of_mem _ h)
  have hown : s.vm.findClass RX9 = some m.cls := hown
  have hl : lv_has ls 3 [(0, .ref (ad_x 0)), (1, .int p1)] := hl
  have hin7 := zin_X7
  have hin9 := zin_X9
  unfold fX9_refusalOfBytes at hF
  refine lv_aload_n hx hb dX9_refusalOfBytes_0 rfl (lv_at hl 0 rfl) ?_
  refine lv_iload_n hx hb dX9_refusalOfBytes_1 rfl (lv_at hl 1 rfl) ?_
  refine lv_iconst (v := 2) hx hb dX9_refusalOfBytes_2 (by decide) ?_
  obtain ⟨o_1, hc_1, hF⟩ := zb hF
  refine zcVR (rest := []) (kX9_refusalOf l D ca t ad_s ad_x ad_d ad_p ad_n ad_q s_holds s_kind s_figure s_sort s_size s_el x_hasPicture p1 2 fuel _ hc_1) ⟨hx, hb, hml, hown, hts⟩ (zcwV hts zm_12 zm_13 zm_14 zm_7 zm_11 rfl rfl zdv_X9_refusalOf ⟨Nat.le_of_ble_eq_true rfl, Nat.le_of_ble_eq_true rfl⟩) hA hK hZ hP hD hS [0, 1, 2, 3, 4, 5, 6, 7, 8, 9, 10, 11, 12, 13, 14, 15, 16, 17] rfl rfl 6 16 rfl rfl rfl hl.1 (Nat.le_of_ble_eq_true rfl) dX9_refusalOfBytes_3 rfl ?_
  refine lv_istore_n (lv' := [(2, .int o_1), (0, .ref (ad_x 0)), (1, .int p1)]) hx hb dX9_refusalOfBytes_6 rfl hl (by decide) rfl (fun ls hl => ?_)
  refine lv_iload_n hx hb dX9_refusalOfBytes_7 rfl (lv_at hl 0 rfl) ?_
  refine lv_if_eq (tgt := 13) hx hb dX9_refusalOfBytes_8 (by decide) (fun c_2 => ?_) (fun c_2 => ?_)
  · have hF := zt c_2 hF
    refine lv_aload_n hx hb dX9_refusalOfBytes_13 rfl (lv_at hl 1 rfl) ?_
    refine va_get (D := D) (ci := 6) (v := .ref (ad_x 1)) (C := RX9) (T := TX9) (N := 6) hx hb hts hin9 hown hK hP 16 rfl rfl 3 (by decide) (hts _ zm_9) (fun _ h9 => h9) rfl dX9_refusalOfBytes_14 ?_
    refine lv_iload_n hx hb dX9_refusalOfBytes_17 rfl (lv_at hl 2 rfl) ?_
    obtain ⟨h_3, hF⟩ := zgi hF
    refine z_aald hx hb hK hP 17 3 rfl rfl rfl h_3 dX9_refusalOfBytes_18 ?_
    refine va_get (D := D) (ci := 4) (v := .int (s_sort p1.toNatClampNeg)) (C := RX7) (T := TX7) (N := 6) hx hb hts hin7 hown hK hP (2 * p1.toNatClampNeg) (zsh_at p1.toNatClampNeg (zin_lt h_3)) rfl 3 (by decide) (hts _ zm_15) (fun _ h9 => h9) rfl dX9_refusalOfBytes_19 ?_
    refine lv_if_ne (tgt := 29) hx hb dX9_refusalOfBytes_22 (by decide) (fun c_4 => ?_) (fun c_4 => ?_)
    · have hF := zf c_4 hF
      refine lv_bipush (v := (-12)) hx hb dX9_refusalOfBytes_29 (by decide) ?_
      obtain rfl := Option.some.inj hF
      exact hret _ _ rfl dX9_refusalOfBytes_31
    · have hF := zt c_4 hF
      refine lv_iconst (v := 0) hx hb dX9_refusalOfBytes_25 (by decide) ?_
      refine lv_goto (tgt := 31) hx hb dX9_refusalOfBytes_26 (by decide) ?_
      obtain rfl := Option.some.inj hF
      exact hret _ _ rfl dX9_refusalOfBytes_31
  · have hF := zf c_2 hF
    refine lv_iload_n hx hb dX9_refusalOfBytes_11 rfl (lv_at hl 0 rfl) ?_
    obtain rfl := Option.some.inj hF
    exact hret _ _ rfl dX9_refusalOfBytes_12
theorem zds_X9_isMinute : yX9_isMinute.cls ≠ "java/lang/invoke/MethodHandle" ∧ yX9_isMinute.cls ≠ "java/lang/invoke/VarHandle" ∧ (parseMethodDescriptor yX9_isMinute.desc).map (fun d => d.parameters.length) = some 1 := by decide +kernel
abbrev roX9_comes : Room := { frames := 2, cells := 0, slots := 0, locals := 42 }
set_option maxHeartbeats 4000000 in
set_option maxRecDepth 100000 in
theorem kX9_comes (l : Launch) (D : va_G) (ca : Nat → ClassId) (t : Nat → Nat) (ad_s : Nat → Nat) (ad_x : Nat → Nat) (ad_d : Nat → Nat) (ad_p : Nat → Nat) (ad_n : Nat → Nat) (ad_q : Nat → Nat) (s_holds : Nat → Int32) (s_kind : Nat → Int32) (s_figure : Nat → Int32) (s_sort : Nat → Int32) (s_size : Nat → Int32) (s_el : Nat → Nat → Int32) (x_hasPicture : Int32) (d_guests : Int32) (d_kinds : Nat → Int32) (d_figures : Nat → Int32) (d_minutes : Nat → Int32) (d_settings : Nat → Int32) (d_hooks : Int32) (d_letters : Nat → Int32) (d_letterCount : Int32) (p1 : Int32) (p2 : Int32) (fuel : Nat) (o : Int32 × Int32 × (Nat → Int32) × (Nat → Int32) × (Nat → Int32)) (hF : fX9_comes fuel s_holds s_kind s_figure d_guests d_kinds d_figures d_minutes p1 p2 = some o) : zMi l D (zT ca) t yX9_comes (.code yX9_comes cX9_comes 4 (some .int) :: zW) roX9_comes [.ref (ad_x 0), .int p1, .int p2] (wX9_sxd ca ad_s ad_x ad_d ad_p ad_n ad_q s_holds s_kind s_figure s_sort s_size s_el x_hasPicture d_guests d_kinds d_figures d_minutes d_settings d_hooks d_letters d_letterCount) (wX9_sxd ca ad_s ad_x ad_d ad_p ad_n ad_q s_holds s_kind s_figure s_sort s_size s_el x_hasPicture o.2.1 o.2.2.1 o.2.2.2.1 o.2.2.2.2 d_settings d_hooks d_letters d_letterCount) o.1 := by
  refine zMi_of (cc := cX9_comes) (maxL := 4) (by decide) rfl (Nat.le_of_ble_eq_true rfl) ?_
  intro p e s m args below meth c A Q ls ⟨hx, hb, hml, hown, hts, hA, hK, hZ, hS⟩ hret hP hD hl
  have hts := fun w h => hts w (List.mem_cons_of_mem _ h)
  have hown : s.vm.findClass RX9 = some m.cls := hown
  have hl : lv_has ls 4 [(0, .ref (ad_x 0)), (1, .int p1), (2, .int p2)] := hl
  have hin7 := zin_X7
  have hin9 := zin_X9
  unfold fX9_comes at hF
  refine lv_iload_n hx hb dX9_comes_0 rfl (lv_at hl 1 rfl) ?_
  obtain ⟨o_1, hc_1, hF⟩ := zb hF
  refine zcSR (rest := []) (kX9_isShelf l D ca t p1 fuel _ hc_1) ⟨hx, hb, hml, hown, hts⟩ (zcwS hts zm_8 zm_6 zm_7 zm_5 rfl rfl zds_X9_isShelf ⟨Nat.le_of_ble_eq_true rfl, Nat.le_of_ble_eq_true rfl⟩) hA hK hZ hP hD hS [] rfl rfl rfl hl.1 (Nat.le_of_ble_eq_true rfl) dX9_comes_1 rfl ?_
  refine lv_if_eq (tgt := 14) hx hb dX9_comes_4 (by decide) (fun c_2 => ?_) (fun c_2 => ?_)
  · have hF := zt c_2 hF
    refine lv_iconst (v := (-1)) hx hb dX9_comes_14 (by decide) ?_
    obtain rfl := Option.some.inj hF
    exact hret _ _ _ _ hP hD hS rfl dX9_comes_15
  · have hF := zf c_2 hF
    refine lv_iload_n hx hb dX9_comes_7 rfl (lv_at hl 2 rfl) ?_
    obtain ⟨o_3, hc_3, hF⟩ := zb hF
    refine zcSR (rest := []) (kX9_isMinute l D ca t p2 fuel _ hc_3) ⟨hx, hb, hml, hown, hts⟩ (zcwS hts zm_446 zm_445 zm_7 zm_444 rfl rfl zds_X9_isMinute ⟨Nat.le_of_ble_eq_true rfl, Nat.le_of_ble_eq_true rfl⟩) hA hK hZ hP hD hS [] rfl rfl rfl hl.1 (Nat.le_of_ble_eq_true rfl) dX9_comes_8 rfl ?_
    refine lv_if_ne (tgt := 16) hx hb dX9_comes_11 (by decide) (fun c_4 => ?_) (fun c_4 => ?_)
    · have hF := zf c_4 hF
      refine lv_aload_n hx hb dX9_comes_16 rfl (lv_at hl 0 rfl) ?_
      refine lv_iload_n hx hb dX9_comes_17 rfl (lv_at hl 1 rfl) ?_
      refine lv_iconst (v := 1) hx hb dX9_comes_18 (by decide) ?_
      obtain ⟨o_5, hc_5, hF⟩ := zb hF
      refine zcVR (rest := []) (kX9_refusalOf l D ca t ad_s ad_x ad_d ad_p ad_n ad_q s_holds s_kind s_figure s_sort s_size s_el x_hasPicture p1 1 fuel _ hc_5) ⟨hx, hb, hml, hown, hts⟩ (zcwV hts zm_12 zm_13 zm_14 zm_7 zm_11 rfl rfl zdv_X9_refusalOf ⟨Nat.le_of_ble_eq_true rfl, Nat.le_of_ble_eq_true rfl⟩) hA hK hZ hP hD hS [0, 1, 2, 3, 4, 5, 6, 7, 8, 9, 10, 11, 12, 13, 14, 15, 16, 17] rfl rfl 6 16 rfl rfl rfl hl.1 (Nat.le_of_ble_eq_true rfl) dX9_comes_19 rfl ?_
      refine lv_istore_n (lv' := [(3, .int o_5), (0, .ref (ad_x 0)), (1, .int p1), (2, .int p2)]) hx hb dX9_comes_22 rfl hl (by decide) rfl (fun ls hl => ?_)
      refine lv_iload_n hx hb dX9_comes_23 rfl (lv_at hl 0 rfl) ?_
      refine lv_if_eq (tgt := 29) hx hb dX9_comes_24 (by decide) (fun c_6 => ?_) (fun c_6 => ?_)
      · have hF := zt c_6 hF
        refine lv_aload_n hx hb dX9_comes_29 rfl (lv_at hl 1 rfl) ?_
        refine va_get (D := D) (ci := 6) (v := .ref (ad_d 0)) (C := RX9) (T := TX9) (N := 6) hx hb hts hin9 hown hK hP 16 rfl rfl 0 (by decide) (hts _ zm_3) (fun _ h9 => h9) rfl dX9_comes_30 ?_
        refine lv_aload_n hx hb dX9_comes_33 rfl (lv_at hl 1 rfl) ?_
        refine va_get (D := D) (ci := 6) (v := .ref (ad_x 1)) (C := RX9) (T := TX9) (N := 6) hx hb hts hin9 hown hK hP 16 rfl rfl 3 (by decide) (hts _ zm_9) (fun _ h9 => h9) rfl dX9_comes_34 ?_
        refine lv_iload_n hx hb dX9_comes_37 rfl (lv_at hl 2 rfl) ?_
        obtain ⟨h_7, hF⟩ := zgi hF
        refine z_aald hx hb hK hP 17 3 rfl rfl rfl h_7 dX9_comes_38 ?_
        refine va_get (D := D) (ci := 4) (v := .int (s_kind p1.toNatClampNeg)) (C := RX7) (T := TX7) (N := 6) hx hb hts hin7 hown hK hP (2 * p1.toNatClampNeg) (zsh_at p1.toNatClampNeg (zin_lt h_7)) rfl 1 (by decide) (hts _ zm_447) (fun _ h9 => h9) rfl dX9_comes_39 ?_
        refine lv_aload_n hx hb dX9_comes_42 rfl (lv_at hl 1 rfl) ?_
        refine va_get (D := D) (ci := 6) (v := .ref (ad_x 1)) (C := RX9) (T := TX9) (N := 6) hx hb hts hin9 hown hK hP 16 rfl rfl 3 (by decide) (hts _ zm_9) (fun _ h9 => h9) rfl dX9_comes_43 ?_
        refine lv_iload_n hx hb dX9_comes_46 rfl (lv_at hl 2 rfl) ?_
        refine z_aald hx hb hK hP 17 3 rfl rfl rfl h_7 dX9_comes_47 ?_
        refine va_get (D := D) (ci := 4) (v := .int (s_figure p1.toNatClampNeg)) (C := RX7) (T := TX7) (N := 6) hx hb hts hin7 hown hK hP (2 * p1.toNatClampNeg) (zsh_at p1.toNatClampNeg (zin_lt h_7)) rfl 2 (by decide) (hts _ zm_448) (fun _ h9 => h9) rfl dX9_comes_48 ?_
        refine lv_iload_n hx hb dX9_comes_51 rfl (lv_at hl 3 rfl) ?_
        obtain ⟨o_8, hc_8, hF⟩ := zb hF
        refine zcVi (rest := []) (ws' := (wX9_sxd ca ad_s ad_x ad_d ad_p ad_n ad_q s_holds s_kind s_figure s_sort s_size s_el x_hasPicture o_8.2.1 o_8.2.2.1 o_8.2.2.2.1 o_8.2.2.2.2 d_settings d_hooks d_letters d_letterCount)) (kX5_welcome l D ca t ad_d d_guests d_kinds d_figures d_minutes d_settings d_hooks d_letters d_letterCount (s_kind p1.toNatClampNeg) (s_figure p1.toNatClampNeg) p2 fuel _ hc_8) ⟨hx, hb, hml, hown, hts⟩ (zcwV hts zm_450 zm_451 zm_452 zm_387 zm_449 rfl rfl zdv_X5_welcome ⟨Nat.le_of_ble_eq_true rfl, Nat.le_of_ble_eq_true rfl⟩) hA hK hZ hP hD hS [18, 19, 20, 21, 22, 23] [0, 1, 2, 3, 4, 5, 6, 7, 8, 9, 10, 11, 12, 13, 14, 15, 16, 17] [0, 1, 2, 3, 4, 5, 6, 7, 8, 9, 10, 11, 12, 13, 14, 15, 16, 17, 18, 19, 20, 21, 22, 23] rfl rfl rfl rfl rfl rfl rfl 3 18 rfl rfl rfl hl.1 (Nat.le_of_ble_eq_true rfl) dX9_comes_52 rfl (fun H locs hP hD hS => ?_)
        obtain rfl := Option.some.inj hF
        exact hret _ _ _ _ hP hD hS rfl dX9_comes_55
      · have hF := zf c_6 hF
        refine lv_iload_n hx hb dX9_comes_27 rfl (lv_at hl 0 rfl) ?_
        obtain rfl := Option.some.inj hF
        exact hret _ _ _ _ hP hD hS rfl dX9_comes_28
    · have hF := zt c_4 hF
      refine lv_iconst (v := (-1)) hx hb dX9_comes_14 (by decide) ?_
      obtain rfl := Option.some.inj hF
      exact hret _ _ _ _ hP hD hS rfl dX9_comes_15
abbrev roX9_leaves : Room := { frames := 1, cells := 0, slots := 0, locals := 23 }
set_option maxHeartbeats 4000000 in
set_option maxRecDepth 100000 in
theorem kX9_leaves (l : Launch) (D : va_G) (ca : Nat → ClassId) (t : Nat → Nat) (ad_s : Nat → Nat) (ad_x : Nat → Nat) (ad_d : Nat → Nat) (ad_p : Nat → Nat) (ad_n : Nat → Nat) (ad_q : Nat → Nat) (x_hasPicture : Int32) (d_guests : Int32) (d_kinds : Nat → Int32) (d_figures : Nat → Int32) (d_minutes : Nat → Int32) (d_settings : Nat → Int32) (d_hooks : Int32) (d_letters : Nat → Int32) (d_letterCount : Int32) (p1 : Int32) (fuel : Nat) (o : Int32 × Int32 × (Nat → Int32) × (Nat → Int32) × (Nat → Int32) × Int32) (hF : fX9_leaves fuel d_guests d_kinds d_figures d_minutes d_hooks p1 = some o) : zMi l D (zT ca) t yX9_leaves (.code yX9_leaves cX9_leaves 2 (some .int) :: zW) roX9_leaves [.ref (ad_x 0), .int p1] (wX9_xd ca ad_s ad_x ad_d ad_p ad_n ad_q x_hasPicture d_guests d_kinds d_figures d_minutes d_settings d_hooks d_letters d_letterCount) (wX9_xd ca ad_s ad_x ad_d ad_p ad_n ad_q x_hasPicture o.2.1 o.2.2.1 o.2.2.2.1 o.2.2.2.2.1 d_settings o.2.2.2.2.2 d_letters d_letterCount) o.1 := by
  refine zMi_of (cc := cX9_leaves) (maxL := 2) (by decide) rfl (Nat.le_of_ble_eq_true rfl) ?_
  intro p e s m args below meth c A Q ls ⟨hx, hb, hml, hown, hts, hA, hK, hZ, hS⟩ hret hP hD hl
  have hts := fun w h => hts w (List.mem_cons_of_mem _ h)
  have hown : s.vm.findClass RX9 = some m.cls := hown
  have hl : lv_has ls 2 [(0, .ref (ad_x 0)), (1, .int p1)] := hl
  have hin5 := zin_X5
  have hin9 := zin_X9
  unfold fX9_leaves at hF
  refine lv_aload_n hx hb dX9_leaves_0 rfl (lv_at hl 0 rfl) ?_
  refine va_get (D := D) (ci := 6) (v := .ref (ad_d 0)) (C := RX9) (T := TX9) (N := 6) hx hb hts hin9 hown hK hP 0 rfl rfl 0 (by decide) (hts _ zm_3) (fun _ h9 => h9) rfl dX9_leaves_1 ?_
  refine lv_iload_n hx hb dX9_leaves_4 rfl (lv_at hl 1 rfl) ?_
  obtain ⟨o_1, hc_1, hF⟩ := zb hF
  refine zcVR (rest := []) (kX5_hasGuest l D ca t ad_d d_guests d_kinds d_figures d_minutes d_settings d_hooks d_letters d_letterCount p1 fuel _ hc_1) ⟨hx, hb, hml, hown, hts⟩ (zcwV hts zm_454 zm_455 zm_456 zm_387 zm_453 rfl rfl zdv_X5_hasGuest ⟨Nat.le_of_ble_eq_true rfl, Nat.le_of_ble_eq_true rfl⟩) hA hK hZ hP hD hS [2, 3, 4, 5, 6, 7] rfl rfl 3 2 rfl rfl rfl hl.1 (Nat.le_of_ble_eq_true rfl) dX9_leaves_5 rfl ?_
  refine lv_if_ne (tgt := 13) hx hb dX9_leaves_8 (by decide) (fun c_2 => ?_) (fun c_2 => ?_)
  · have hF := zf c_2 hF
    refine lv_aload_n hx hb dX9_leaves_13 rfl (lv_at hl 0 rfl) ?_
    refine va_get (D := D) (ci := 6) (v := .ref (ad_d 0)) (C := RX9) (T := TX9) (N := 6) hx hb hts hin9 hown hK hP 0 rfl rfl 0 (by decide) (hts _ zm_3) (fun _ h9 => h9) rfl dX9_leaves_14 ?_
    refine lv_iload_n hx hb dX9_leaves_17 rfl (lv_at hl 1 rfl) ?_
    obtain ⟨o_3, hc_3, hF⟩ := zb hF
    refine zcVv (rest := []) (ws' := (wX9_xd ca ad_s ad_x ad_d ad_p ad_n ad_q x_hasPicture o_3.1 o_3.2.1 o_3.2.2.1 o_3.2.2.2.1 d_settings o_3.2.2.2.2 d_letters d_letterCount)) (kX5_dismiss l D ca t ad_d d_guests d_kinds d_figures d_minutes d_settings d_hooks d_letters d_letterCount p1 fuel _ hc_3) ⟨hx, hb, hml, hown, hts⟩ (zcwV hts zm_458 zm_459 zm_460 zm_387 zm_457 rfl rfl zdv_X5_dismiss ⟨Nat.le_of_ble_eq_true rfl, Nat.le_of_ble_eq_true rfl⟩) hA hK hZ hP hD hS [2, 3, 4, 5, 6, 7] [0, 1] [0, 1, 2, 3, 4, 5, 6, 7] rfl rfl rfl rfl rfl rfl rfl 3 2 rfl rfl rfl hl.1 (Nat.le_of_ble_eq_true rfl) dX9_leaves_18 rfl (fun H locs hP hD hS => ?_)
    refine lv_aload_n hx hb dX9_leaves_21 rfl (lv_at hl 0 rfl) ?_
    refine va_get (D := D) (ci := 6) (v := .ref (ad_d 0)) (C := RX9) (T := TX9) (N := 6) hx hb hts hin9 hown hK hP 0 rfl rfl 0 (by decide) (hts _ zm_3) (fun _ h9 => h9) rfl dX9_leaves_22 ?_
    refine va_get (D := D) (ci := 3) (v := .int o_3.1) (C := RX5) (T := TX5) (N := 8) hx hb hts hin5 hown hK hP 2 rfl rfl 0 (by decide) (hts _ zm_4) (fun _ h9 => h9) rfl dX9_leaves_25 ?_
    obtain rfl := Option.some.inj hF
    exact hret _ _ _ _ hP hD hS rfl dX9_leaves_28
  · have hF := zt c_2 hF
    refine lv_iconst (v := (-1)) hx hb dX9_leaves_11 (by decide) ?_
    obtain rfl := Option.some.inj hF
    exact hret _ _ _ _ hP hD hS rfl dX9_leaves_12
abbrev roX9_goes : Room := { frames := 1, cells := 0, slots := 0, locals := 21 }
set_option maxHeartbeats 4000000 in
set_option maxRecDepth 100000 in
theorem kX9_goes (l : Launch) (D : va_G) (ca : Nat → ClassId) (t : Nat → Nat) (ad_s : Nat → Nat) (ad_x : Nat → Nat) (ad_d : Nat → Nat) (ad_p : Nat → Nat) (ad_n : Nat → Nat) (ad_q : Nat → Nat) (x_hasPicture : Int32) (d_guests : Int32) (d_kinds : Nat → Int32) (d_figures : Nat → Int32) (d_minutes : Nat → Int32) (d_settings : Nat → Int32) (d_hooks : Int32) (d_letters : Nat → Int32) (d_letterCount : Int32) (p1 : Int32) (p2 : Int32) (fuel : Nat) (o : Int32 × (Nat → Int32)) (hF : fX9_goes fuel d_guests d_minutes p1 p2 = some o) : zMi l D (zT ca) t yX9_goes (.code yX9_goes cX9_goes 4 (some .int) :: zW) roX9_goes [.ref (ad_x 0), .int p1, .int p2] (wX9_xd ca ad_s ad_x ad_d ad_p ad_n ad_q x_hasPicture d_guests d_kinds d_figures d_minutes d_settings d_hooks d_letters d_letterCount) (wX9_xd ca ad_s ad_x ad_d ad_p ad_n ad_q x_hasPicture d_guests d_kinds d_figures o.2 d_settings d_hooks d_letters d_letterCount) o.1 := by
  refine zMi_of (cc := cX9_goes) (maxL := 4) (by decide) rfl (Nat.le_of_ble_eq_true rfl) ?_
  intro p e s m args below meth c A Q ls ⟨hx, hb, hml, hown, hts, hA, hK, hZ, hS⟩ hret hP hD hl
  have hts := fun w h => hts w (List.mem_cons_of_mem _ h)
  have hown : s.vm.findClass RX9 = some m.cls := hown
  have hl : lv_has ls 4 [(0, .ref (ad_x 0)), (1, .int p1), (2, .int p2)] := hl
  have hin5 := zin_X5
  have hin9 := zin_X9
  unfold fX9_goes at hF
  refine lv_aload_n hx hb dX9_goes_0 rfl (lv_at hl 0 rfl) ?_
  refine va_get (D := D) (ci := 6) (v := .ref (ad_d 0)) (C := RX9) (T := TX9) (N := 6) hx hb hts hin9 hown hK hP 0 rfl rfl 0 (by decide) (hts _ zm_3) (fun _ h9 => h9) rfl dX9_goes_1 ?_
  refine lv_iload_n hx hb dX9_goes_4 rfl (lv_at hl 1 rfl) ?_
  obtain ⟨o_1, hc_1, hF⟩ := zb hF
  refine zcVR (rest := []) (kX5_hasGuest l D ca t ad_d d_guests d_kinds d_figures d_minutes d_settings d_hooks d_letters d_letterCount p1 fuel _ hc_1) ⟨hx, hb, hml, hown, hts⟩ (zcwV hts zm_454 zm_455 zm_456 zm_387 zm_453 rfl rfl zdv_X5_hasGuest ⟨Nat.le_of_ble_eq_true rfl, Nat.le_of_ble_eq_true rfl⟩) hA hK hZ hP hD hS [2, 3, 4, 5, 6, 7] rfl rfl 3 2 rfl rfl rfl hl.1 (Nat.le_of_ble_eq_true rfl) dX9_goes_5 rfl ?_
  refine lv_if_eq (tgt := 18) hx hb dX9_goes_8 (by decide) (fun c_2 => ?_) (fun c_2 => ?_)
  · have hF := zt c_2 hF
    refine lv_iconst (v := (-1)) hx hb dX9_goes_18 (by decide) ?_
    obtain rfl := Option.some.inj hF
    exact hret _ _ _ _ hP hD hS rfl dX9_goes_19
  · have hF := zf c_2 hF
    refine lv_iload_n hx hb dX9_goes_11 rfl (lv_at hl 2 rfl) ?_
    obtain ⟨o_3, hc_3, hF⟩ := zb hF
    refine zcSR (rest := []) (kX9_isMinute l D ca t p2 fuel _ hc_3) ⟨hx, hb, hml, hown, hts⟩ (zcwS hts zm_446 zm_445 zm_7 zm_444 rfl rfl zds_X9_isMinute ⟨Nat.le_of_ble_eq_true rfl, Nat.le_of_ble_eq_true rfl⟩) hA hK hZ hP hD hS [] rfl rfl rfl hl.1 (Nat.le_of_ble_eq_true rfl) dX9_goes_12 rfl ?_
    refine lv_if_ne (tgt := 20) hx hb dX9_goes_15 (by decide) (fun c_4 => ?_) (fun c_4 => ?_)
    · have hF := zf c_4 hF
      refine lv_aload_n hx hb dX9_goes_20 rfl (lv_at hl 0 rfl) ?_
      refine va_get (D := D) (ci := 6) (v := .ref (ad_d 0)) (C := RX9) (T := TX9) (N := 6) hx hb hts hin9 hown hK hP 0 rfl rfl 0 (by decide) (hts _ zm_3) (fun _ h9 => h9) rfl dX9_goes_21 ?_
      refine va_get (D := D) (ci := 3) (v := .ref (ad_d 3)) (C := RX5) (T := TX5) (N := 8) hx hb hts hin5 hown hK hP 2 rfl rfl 3 (by decide) (hts _ zm_461) (fun _ h9 => h9) rfl dX9_goes_24 ?_
      refine lv_iload_n hx hb dX9_goes_27 rfl (lv_at hl 1 rfl) ?_
      obtain ⟨h_5, hF⟩ := zgi hF
      refine va_iald hx hb hK hP 5 0 rfl rfl h_5 dX9_goes_28 ?_
      refine z_let hF (fun v3_6 hF => ?_)
      refine lv_istore_n (lv' := [(3, .int v3_6), (0, .ref (ad_x 0)), (1, .int p1), (2, .int p2)]) hx hb dX9_goes_29 rfl hl (by decide) rfl (fun ls hl => ?_)
      refine lv_aload_n hx hb dX9_goes_30 rfl (lv_at hl 1 rfl) ?_
      refine va_get (D := D) (ci := 6) (v := .ref (ad_d 0)) (C := RX9) (T := TX9) (N := 6) hx hb hts hin9 hown hK hP 0 rfl rfl 0 (by decide) (hts _ zm_3) (fun _ h9 => h9) rfl dX9_goes_31 ?_
      refine va_get (D := D) (ci := 3) (v := .ref (ad_d 3)) (C := RX5) (T := TX5) (N := 8) hx hb hts hin5 hown hK hP 2 rfl rfl 3 (by decide) (hts _ zm_461) (fun _ h9 => h9) rfl dX9_goes_34 ?_
      refine lv_iload_n hx hb dX9_goes_37 rfl (lv_at hl 2 rfl) ?_
      refine lv_iload_n hx hb dX9_goes_38 rfl (lv_at hl 3 rfl) ?_
      refine z_iast hx hb hK hP hD hS 5 0 rfl rfl h_5 dX9_goes_39 (fun g => (wX9_xd ca ad_s ad_x ad_d ad_p ad_n ad_q x_hasPicture d_guests d_kinds d_figures g d_settings d_hooks d_letters d_letterCount)) (fun _ => rfl) hF (fun d_minutes_7 H locs hF hP hD hS => ?_)
      refine lv_iload_n hx hb dX9_goes_40 rfl (lv_at hl 0 rfl) ?_
      obtain rfl := Option.some.inj hF
      exact hret _ _ _ _ hP hD hS rfl dX9_goes_41
    · have hF := zt c_4 hF
      refine lv_iconst (v := (-1)) hx hb dX9_goes_18 (by decide) ?_
      obtain rfl := Option.some.inj hF
      exact hret _ _ _ _ hP hD hS rfl dX9_goes_19
abbrev roX9_hook : Room := { frames := 2, cells := 0, slots := 0, locals := 42 }
set_option maxHeartbeats 4000000 in
set_option maxRecDepth 100000 in
theorem kX9_hook (l : Launch) (D : va_G) (ca : Nat → ClassId) (t : Nat → Nat) (ad_s : Nat → Nat) (ad_x : Nat → Nat) (ad_d : Nat → Nat) (ad_p : Nat → Nat) (ad_n : Nat → Nat) (ad_q : Nat → Nat) (x_hasPicture : Int32) (d_guests : Int32) (d_kinds : Nat → Int32) (d_figures : Nat → Int32) (d_minutes : Nat → Int32) (d_settings : Nat → Int32) (d_hooks : Int32) (d_letters : Nat → Int32) (d_letterCount : Int32) (p1 : Int32) (fuel : Nat) (o : Int32 × Int32) (hF : fX9_hook fuel d_guests d_hooks p1 = some o) : zMi l D (zT ca) t yX9_hook (.code yX9_hook cX9_hook 2 (some .int) :: zW) roX9_hook [.ref (ad_x 0), .int p1] (wX9_xd ca ad_s ad_x ad_d ad_p ad_n ad_q x_hasPicture d_guests d_kinds d_figures d_minutes d_settings d_hooks d_letters d_letterCount) (wX9_xd ca ad_s ad_x ad_d ad_p ad_n ad_q x_hasPicture d_guests d_kinds d_figures d_minutes d_settings o.2 d_letters d_letterCount) o.1 := by
  refine zMi_of (cc := cX9_hook) (maxL := 2) (by decide) rfl (Nat.le_of_ble_eq_true rfl) ?_
  intro p e s m args below meth c A Q ls ⟨hx, hb, hml, hown, hts, hA, hK, hZ, hS⟩ hret hP hD hl
  have hts := fun w h => hts w (List.mem_cons_of_mem _ h)
  have hown : s.vm.findClass RX9 = some m.cls := hown
  have hl : lv_has ls 2 [(0, .ref (ad_x 0)), (1, .int p1)] := hl
  have hin9 := zin_X9
  unfold fX9_hook at hF
  refine lv_aload_n hx hb dX9_hook_0 rfl (lv_at hl 0 rfl) ?_
  refine va_get (D := D) (ci := 6) (v := .ref (ad_d 0)) (C := RX9) (T := TX9) (N := 6) hx hb hts hin9 hown hK hP 0 rfl rfl 0 (by decide) (hts _ zm_3) (fun _ h9 => h9) rfl dX9_hook_1 ?_
  refine lv_iload_n hx hb dX9_hook_4 rfl (lv_at hl 1 rfl) ?_
  obtain ⟨o_1, hc_1, hF⟩ := zb hF
  refine zcVR (rest := []) (kX5_hasGuest l D ca t ad_d d_guests d_kinds d_figures d_minutes d_settings d_hooks d_letters d_letterCount p1 fuel _ hc_1) ⟨hx, hb, hml, hown, hts⟩ (zcwV hts zm_454 zm_455 zm_456 zm_387 zm_453 rfl rfl zdv_X5_hasGuest ⟨Nat.le_of_ble_eq_true rfl, Nat.le_of_ble_eq_true rfl⟩) hA hK hZ hP hD hS [2, 3, 4, 5, 6, 7] rfl rfl 3 2 rfl rfl rfl hl.1 (Nat.le_of_ble_eq_true rfl) dX9_hook_5 rfl ?_
  refine lv_if_eq (tgt := 22) hx hb dX9_hook_8 (by decide) (fun c_2 => ?_) (fun c_2 => ?_)
  · have hF := zt c_2 hF
    refine lv_iconst (v := (-1)) hx hb dX9_hook_22 (by decide) ?_
    obtain rfl := Option.some.inj hF
    exact hret _ _ _ _ hP hD hS rfl dX9_hook_23
  · have hF := zf c_2 hF
    refine lv_aload_n hx hb dX9_hook_11 rfl (lv_at hl 0 rfl) ?_
    refine va_get (D := D) (ci := 6) (v := .ref (ad_d 0)) (C := RX9) (T := TX9) (N := 6) hx hb hts hin9 hown hK hP 0 rfl rfl 0 (by decide) (hts _ zm_3) (fun _ h9 => h9) rfl dX9_hook_12 ?_
    refine lv_iload_n hx hb dX9_hook_15 rfl (lv_at hl 1 rfl) ?_
    obtain ⟨o_3, hc_3, hF⟩ := zb hF
    refine zcVi (rest := []) (ws' := (wX9_xd ca ad_s ad_x ad_d ad_p ad_n ad_q x_hasPicture d_guests d_kinds d_figures d_minutes d_settings o_3.2 d_letters d_letterCount)) (kX5_toggleHook l D ca t ad_d d_guests d_kinds d_figures d_minutes d_settings d_hooks d_letters d_letterCount p1 fuel _ hc_3) ⟨hx, hb, hml, hown, hts⟩ (zcwV hts zm_463 zm_464 zm_465 zm_387 zm_462 rfl rfl zdv_X5_toggleHook ⟨Nat.le_of_ble_eq_true rfl, Nat.le_of_ble_eq_true rfl⟩) hA hK hZ hP hD hS [2, 3, 4, 5, 6, 7] [0, 1] [0, 1, 2, 3, 4, 5, 6, 7] rfl rfl rfl rfl rfl rfl rfl 3 2 rfl rfl rfl hl.1 (Nat.le_of_ble_eq_true rfl) dX9_hook_16 rfl (fun H locs hP hD hS => ?_)
    refine lv_goto (tgt := 23) hx hb dX9_hook_19 (by decide) ?_
    obtain rfl := Option.some.inj hF
    exact hret _ _ _ _ hP hD hS rfl dX9_hook_23
abbrev roX9_set : Room := { frames := 1, cells := 0, slots := 0, locals := 21 }
set_option maxHeartbeats 4000000 in
set_option maxRecDepth 100000 in
theorem kX9_set (l : Launch) (D : va_G) (ca : Nat → ClassId) (t : Nat → Nat) (ad_s : Nat → Nat) (ad_x : Nat → Nat) (ad_d : Nat → Nat) (ad_p : Nat → Nat) (ad_n : Nat → Nat) (ad_q : Nat → Nat) (x_hasPicture : Int32) (d_guests : Int32) (d_kinds : Nat → Int32) (d_figures : Nat → Int32) (d_minutes : Nat → Int32) (d_settings : Nat → Int32) (d_hooks : Int32) (d_letters : Nat → Int32) (d_letterCount : Int32) (p1 : Int32) (p2 : Int32) (fuel : Nat) (o : Int32 × (Nat → Int32)) (hF : fX9_set fuel d_settings p1 p2 = some o) : zMi l D (zT ca) t yX9_set (.code yX9_set cX9_set 4 (some .int) :: zW) roX9_set [.ref (ad_x 0), .int p1, .int p2] (wX9_xd ca ad_s ad_x ad_d ad_p ad_n ad_q x_hasPicture d_guests d_kinds d_figures d_minutes d_settings d_hooks d_letters d_letterCount) (wX9_xd ca ad_s ad_x ad_d ad_p ad_n ad_q x_hasPicture d_guests d_kinds d_figures d_minutes o.2 d_hooks d_letters d_letterCount) o.1 := by
  refine zMi_of (cc := cX9_set) (maxL := 4) (by decide) rfl (Nat.le_of_ble_eq_true rfl) ?_
  intro p e s m args below meth c A Q ls ⟨hx, hb, hml, hown, hts, hA, hK, hZ, hS⟩ hret hP hD hl
  have hts := fun w h => hts w (List.mem_cons_of_mem _ h)
  have hown : s.vm.findClass RX9 = some m.cls := hown
  have hl : lv_has ls 4 [(0, .ref (ad_x 0)), (1, .int p1), (2, .int p2)] := hl
  have hin5 := zin_X5
  have hin9 := zin_X9
  unfold fX9_set at hF
  refine lv_iload_n hx hb dX9_set_0 rfl (lv_at hl 1 rfl) ?_
  refine lv_iload_n hx hb dX9_set_1 rfl (lv_at hl 2 rfl) ?_
  obtain ⟨o_1, hc_1, hF⟩ := zb hF
  refine zcSR (rest := []) (kX5_allows l D ca t p1 p2 fuel _ hc_1) ⟨hx, hb, hml, hown, hts⟩ (zcwS hts zm_466 zm_409 zm_387 zm_408 rfl rfl zds_X5_allows ⟨Nat.le_of_ble_eq_true rfl, Nat.le_of_ble_eq_true rfl⟩) hA hK hZ hP hD hS [] rfl rfl rfl hl.1 (Nat.le_of_ble_eq_true rfl) dX9_set_2 rfl ?_
  refine lv_if_ne (tgt := 10) hx hb dX9_set_5 (by decide) (fun c_2 => ?_) (fun c_2 => ?_)
  · have hF := zf c_2 hF
    refine lv_aload_n hx hb dX9_set_10 rfl (lv_at hl 0 rfl) ?_
    refine va_get (D := D) (ci := 6) (v := .ref (ad_d 0)) (C := RX9) (T := TX9) (N := 6) hx hb hts hin9 hown hK hP 0 rfl rfl 0 (by decide) (hts _ zm_3) (fun _ h9 => h9) rfl dX9_set_11 ?_
    refine va_get (D := D) (ci := 3) (v := .ref (ad_d 4)) (C := RX5) (T := TX5) (N := 8) hx hb hts hin5 hown hK hP 2 rfl rfl 4 (by decide) (hts _ zm_467) (fun _ h9 => h9) rfl dX9_set_14 ?_
    refine lv_iload_n hx hb dX9_set_17 rfl (lv_at hl 1 rfl) ?_
    obtain ⟨h_3, hF⟩ := zgi hF
    refine va_iald hx hb hK hP 6 0 rfl rfl h_3 dX9_set_18 ?_
    refine z_let hF (fun v3_4 hF => ?_)
    refine lv_istore_n (lv' := [(3, .int v3_4), (0, .ref (ad_x 0)), (1, .int p1), (2, .int p2)]) hx hb dX9_set_19 rfl hl (by decide) rfl (fun ls hl => ?_)
    refine lv_aload_n hx hb dX9_set_20 rfl (lv_at hl 1 rfl) ?_
    refine va_get (D := D) (ci := 6) (v := .ref (ad_d 0)) (C := RX9) (T := TX9) (N := 6) hx hb hts hin9 hown hK hP 0 rfl rfl 0 (by decide) (hts _ zm_3) (fun _ h9 => h9) rfl dX9_set_21 ?_
    refine va_get (D := D) (ci := 3) (v := .ref (ad_d 4)) (C := RX5) (T := TX5) (N := 8) hx hb hts hin5 hown hK hP 2 rfl rfl 4 (by decide) (hts _ zm_467) (fun _ h9 => h9) rfl dX9_set_24 ?_
    refine lv_iload_n hx hb dX9_set_27 rfl (lv_at hl 2 rfl) ?_
    refine lv_iload_n hx hb dX9_set_28 rfl (lv_at hl 3 rfl) ?_
    refine z_iast hx hb hK hP hD hS 6 0 rfl rfl h_3 dX9_set_29 (fun g => (wX9_xd ca ad_s ad_x ad_d ad_p ad_n ad_q x_hasPicture d_guests d_kinds d_figures d_minutes g d_hooks d_letters d_letterCount)) (fun _ => rfl) hF (fun d_settings_5 H locs hF hP hD hS => ?_)
    refine lv_iload_n hx hb dX9_set_30 rfl (lv_at hl 0 rfl) ?_
    obtain rfl := Option.some.inj hF
    exact hret _ _ _ _ hP hD hS rfl dX9_set_31
  · have hF := zt c_2 hF
    refine lv_iconst (v := (-1)) hx hb dX9_set_8 (by decide) ?_
    obtain rfl := Option.some.inj hF
    exact hret _ _ _ _ hP hD hS rfl dX9_set_9
abbrev roX9_image : Room := { frames := 2, cells := 0, slots := 0, locals := 81 }
set_option maxHeartbeats 4000000 in
set_option maxRecDepth 100000 in
theorem kX9_image (l : Launch) (D : va_G) (ca : Nat → ClassId) (t : Nat → Nat) (ad_s : Nat → Nat) (ad_x : Nat → Nat) (ad_d : Nat → Nat) (ad_p : Nat → Nat) (ad_n : Nat → Nat) (ad_q : Nat → Nat) (x_hasPicture : Int32) (d_guests : Int32) (d_kinds : Nat → Int32) (d_figures : Nat → Int32) (d_minutes : Nat → Int32) (d_settings : Nat → Int32) (d_hooks : Int32) (d_letters : Nat → Int32) (d_letterCount : Int32) (p_guests : Int32) (p_kinds : Nat → Int32) (p_figures : Nat → Int32) (p_minutes : Nat → Int32) (p_settings : Nat → Int32) (p_hooks : Int32) (p_letters : Nat → Int32) (p_letterCount : Int32) (fuel : Nat) (o : Int32 × Int32 × Int32 × (Nat → Int32) × (Nat → Int32) × (Nat → Int32) × (Nat → Int32) × Int32 × (Nat → Int32) × Int32) (hF : fX9_image fuel x_hasPicture d_guests d_kinds d_figures d_minutes d_settings d_hooks d_letters d_letterCount p_guests p_kinds p_figures p_minutes p_settings p_hooks p_letters p_letterCount = some o) : zMi l D (zT ca) t yX9_image (.code yX9_image cX9_image 1 (some .int) :: zW) roX9_image [.ref (ad_x 0)] (wX9_xdp ca ad_s ad_x ad_d ad_p ad_n ad_q x_hasPicture d_guests d_kinds d_figures d_minutes d_settings d_hooks d_letters d_letterCount p_guests p_kinds p_figures p_minutes p_settings p_hooks p_letters p_letterCount) (wX9_xdp ca ad_s ad_x ad_d ad_p ad_n ad_q o.2.1 d_guests d_kinds d_figures d_minutes d_settings d_hooks d_letters d_letterCount o.2.2.1 o.2.2.2.1 o.2.2.2.2.1 o.2.2.2.2.2.1 o.2.2.2.2.2.2.1 o.2.2.2.2.2.2.2.1 o.2.2.2.2.2.2.2.2.1 o.2.2.2.2.2.2.2.2.2) o.1 := by
  refine zMi_of (cc := cX9_image) (maxL := 1) (by decide) rfl (Nat.le_of_ble_eq_true rfl) ?_
  intro p e s m args below meth c A Q ls ⟨hx, hb, hml, hown, hts, hA, hK, hZ, hS⟩ hret hP hD hl
  have hts := fun w h => hts w (List.mem_cons_of_mem _ h)
  have hown : s.vm.findClass RX9 = some m.cls := hown
  have hl : lv_has ls 1 [(0, .ref (ad_x 0))] := hl
  have hin5 := zin_X5
  have hin9 := zin_X9
  unfold fX9_image at hF
  refine lv_aload_n hx hb dX9_image_0 rfl (lv_at hl 0 rfl) ?_
  refine va_get (D := D) (ci := 6) (v := .ref (ad_p 0)) (C := RX9) (T := TX9) (N := 6) hx hb hts hin9 hown hK hP 0 rfl rfl 1 (by decide) (hts _ zm_468) (fun _ h9 => h9) rfl dX9_image_1 ?_
  refine lv_aload_n hx hb dX9_image_4 rfl (lv_at hl 0 rfl) ?_
  refine va_get (D := D) (ci := 6) (v := .ref (ad_d 0)) (C := RX9) (T := TX9) (N := 6) hx hb hts hin9 hown hK hP 0 rfl rfl 0 (by decide) (hts _ zm_3) (fun _ h9 => h9) rfl dX9_image_5 ?_
  obtain ⟨o_1, hc_1, hF⟩ := zb hF
  refine zcVv (rest := []) (ws' := (wX9_xdp ca ad_s ad_x ad_d ad_p ad_n ad_q x_hasPicture d_guests d_kinds d_figures d_minutes d_settings d_hooks d_letters d_letterCount o_1.1 o_1.2.1 o_1.2.2.1 o_1.2.2.2.1 o_1.2.2.2.2.1 o_1.2.2.2.2.2.1 o_1.2.2.2.2.2.2.1 o_1.2.2.2.2.2.2.2)) (kX5_copyFrom l D ca t ad_p ad_d p_guests p_kinds p_figures p_minutes p_settings p_hooks p_letters p_letterCount d_guests d_kinds d_figures d_minutes d_settings d_hooks d_letters d_letterCount fuel _ hc_1) ⟨hx, hb, hml, hown, hts⟩ (zcwV hts zm_470 zm_471 zm_472 zm_387 zm_469 rfl rfl zdv_X5_copyFrom ⟨Nat.le_of_ble_eq_true rfl, Nat.le_of_ble_eq_true rfl⟩) hA hK hZ hP hD hS [8, 9, 10, 11, 12, 13, 2, 3, 4, 5, 6, 7] [0, 1] [0, 1, 8, 9, 10, 11, 12, 13, 2, 3, 4, 5, 6, 7] rfl rfl rfl rfl rfl rfl rfl 3 8 rfl rfl rfl hl.1 (Nat.le_of_ble_eq_true rfl) dX9_image_8 rfl (fun H locs hP hD hS => ?_)
  refine lv_aload_n hx hb dX9_image_11 rfl (lv_at hl 0 rfl) ?_
  refine lv_iconst (v := 1) hx hb dX9_image_12 (by decide) ?_
  refine va_put (D := D) (ci := 6) (v := .int 1) (C := RX9) (T := TX9) (N := 6) hx hb hts hin9 tyX9 tyX9_ok nmX9 hown hK hP hD hS 0 rfl rfl 2 (by decide) (hts _ zm_473) (fun _ h9 => h9) rfl (tyX9_ok 2 (by decide)) rfl rfl (Nat.le_of_ble_eq_true rfl) dX9_image_13 (fun H locs hP hD hS => ?_)
  have hP : va_P D vwCl (wX9_xdp ca ad_s ad_x ad_d ad_p ad_n ad_q 1 d_guests d_kinds d_figures d_minutes d_settings d_hooks d_letters d_letterCount o_1.1 o_1.2.1 o_1.2.2.1 o_1.2.2.2.1 o_1.2.2.2.2.1 o_1.2.2.2.2.2.1 o_1.2.2.2.2.2.2.1 o_1.2.2.2.2.2.2.2) H := hP
  have hD : va_D A (wX9_xdp ca ad_s ad_x ad_d ad_p ad_n ad_q 1 d_guests d_kinds d_figures d_minutes d_settings d_hooks d_letters d_letterCount o_1.1 o_1.2.1 o_1.2.2.1 o_1.2.2.2.1 o_1.2.2.2.2.1 o_1.2.2.2.2.2.1 o_1.2.2.2.2.2.2.1 o_1.2.2.2.2.2.2.2) := hD
  refine lv_aload_n hx hb dX9_image_16 rfl (lv_at hl 0 rfl) ?_
  refine va_get (D := D) (ci := 6) (v := .ref (ad_d 0)) (C := RX9) (T := TX9) (N := 6) hx hb hts hin9 hown hK hP 0 rfl rfl 0 (by decide) (hts _ zm_3) (fun _ h9 => h9) rfl dX9_image_17 ?_
  refine va_get (D := D) (ci := 3) (v := .int d_guests) (C := RX5) (T := TX5) (N := 8) hx hb hts hin5 hown hK hP 2 rfl rfl 0 (by decide) (hts _ zm_4) (fun _ h9 => h9) rfl dX9_image_20 ?_
  obtain rfl := Option.some.inj hF
  exact hret _ _ _ _ hP hD hS rfl dX9_image_23
abbrev roX9_restore : Room := { frames := 2, cells := 0, slots := 0, locals := 81 }
set_option maxHeartbeats 4000000 in
set_option maxRecDepth 100000 in
theorem kX9_restore (l : Launch) (D : va_G) (ca : Nat → ClassId) (t : Nat → Nat) (ad_s : Nat → Nat) (ad_x : Nat → Nat) (ad_d : Nat → Nat) (ad_p : Nat → Nat) (ad_n : Nat → Nat) (ad_q : Nat → Nat) (x_hasPicture : Int32) (d_guests : Int32) (d_kinds : Nat → Int32) (d_figures : Nat → Int32) (d_minutes : Nat → Int32) (d_settings : Nat → Int32) (d_hooks : Int32) (d_letters : Nat → Int32) (d_letterCount : Int32) (p_guests : Int32) (p_kinds : Nat → Int32) (p_figures : Nat → Int32) (p_minutes : Nat → Int32) (p_settings : Nat → Int32) (p_hooks : Int32) (p_letters : Nat → Int32) (p_letterCount : Int32) (fuel : Nat) (o : Int32 × Int32 × (Nat → Int32) × (Nat → Int32) × (Nat → Int32) × (Nat → Int32) × Int32 × (Nat → Int32) × Int32) (hF : fX9_restore fuel x_hasPicture d_guests d_kinds d_figures d_minutes d_settings d_hooks d_letters d_letterCount p_guests p_kinds p_figures p_minutes p_settings p_hooks p_letters p_letterCount = some o) : zMi l D (zT ca) t yX9_restore (.code yX9_restore cX9_restore 1 (some .int) :: zW) roX9_restore [.ref (ad_x 0)] (wX9_xdp ca ad_s ad_x ad_d ad_p ad_n ad_q x_hasPicture d_guests d_kinds d_figures d_minutes d_settings d_hooks d_letters d_letterCount p_guests p_kinds p_figures p_minutes p_settings p_hooks p_letters p_letterCount) (wX9_xdp ca ad_s ad_x ad_d ad_p ad_n ad_q x_hasPicture o.2.1 o.2.2.1 o.2.2.2.1 o.2.2.2.2.1 o.2.2.2.2.2.1 o.2.2.2.2.2.2.1 o.2.2.2.2.2.2.2.1 o.2.2.2.2.2.2.2.2 p_guests p_kinds p_figures p_minutes p_settings p_hooks p_letters p_letterCount) o.1 := by
  refine zMi_of (cc := cX9_restore) (maxL := 1) (by decide) rfl (Nat.le_of_ble_eq_true rfl) ?_
  intro p e s m args below meth c A Q ls ⟨hx, hb, hml, hown, hts, hA, hK, hZ, hS⟩ hret hP hD hl
  have hts := fun w h => hts w (List.mem_cons_of_mem _ h)
  have hown : s.vm.findClass RX9 = some m.cls := hown
  have hl : lv_has ls 1 [(0, .ref (ad_x 0))] := hl
  have hin5 := zin_X5
  have hin9 := zin_X9
  unfold fX9_restore at hF
  refine lv_aload_n hx hb dX9_restore_0 rfl (lv_at hl 0 rfl) ?_
  refine va_get (D := D) (ci := 6) (v := .int x_hasPicture) (C := RX9) (T := TX9) (N := 6) hx hb hts hin9 hown hK hP 0 rfl rfl 2 (by decide) (hts _ zm_473) (fun _ h9 => h9) rfl dX9_restore_1 ?_
  refine lv_if_ne (tgt := 10) hx hb dX9_restore_4 (by decide) (fun c_1 => ?_) (fun c_1 => ?_)
  · have hF := zf c_1 hF
    refine lv_aload_n hx hb dX9_restore_10 rfl (lv_at hl 0 rfl) ?_
    refine va_get (D := D) (ci := 6) (v := .ref (ad_d 0)) (C := RX9) (T := TX9) (N := 6) hx hb hts hin9 hown hK hP 0 rfl rfl 0 (by decide) (hts _ zm_3) (fun _ h9 => h9) rfl dX9_restore_11 ?_
    refine lv_aload_n hx hb dX9_restore_14 rfl (lv_at hl 0 rfl) ?_
    refine va_get (D := D) (ci := 6) (v := .ref (ad_p 0)) (C := RX9) (T := TX9) (N := 6) hx hb hts hin9 hown hK hP 0 rfl rfl 1 (by decide) (hts _ zm_468) (fun _ h9 => h9) rfl dX9_restore_15 ?_
    obtain ⟨o_2, hc_2, hF⟩ := zb hF
    refine zcVv (rest := []) (ws' := (wX9_xdp ca ad_s ad_x ad_d ad_p ad_n ad_q x_hasPicture o_2.1 o_2.2.1 o_2.2.2.1 o_2.2.2.2.1 o_2.2.2.2.2.1 o_2.2.2.2.2.2.1 o_2.2.2.2.2.2.2.1 o_2.2.2.2.2.2.2.2 p_guests p_kinds p_figures p_minutes p_settings p_hooks p_letters p_letterCount)) (kX5_copyFrom l D ca t ad_d ad_p d_guests d_kinds d_figures d_minutes d_settings d_hooks d_letters d_letterCount p_guests p_kinds p_figures p_minutes p_settings p_hooks p_letters p_letterCount fuel _ hc_2) ⟨hx, hb, hml, hown, hts⟩ (zcwV hts zm_470 zm_471 zm_472 zm_387 zm_469 rfl rfl zdv_X5_copyFrom ⟨Nat.le_of_ble_eq_true rfl, Nat.le_of_ble_eq_true rfl⟩) hA hK hZ hP hD hS [2, 3, 4, 5, 6, 7, 8, 9, 10, 11, 12, 13] [0, 1] [0, 1, 2, 3, 4, 5, 6, 7, 8, 9, 10, 11, 12, 13] rfl rfl rfl rfl rfl rfl rfl 3 2 rfl rfl rfl hl.1 (Nat.le_of_ble_eq_true rfl) dX9_restore_18 rfl (fun H locs hP hD hS => ?_)
    refine lv_aload_n hx hb dX9_restore_21 rfl (lv_at hl 0 rfl) ?_
    refine va_get (D := D) (ci := 6) (v := .ref (ad_d 0)) (C := RX9) (T := TX9) (N := 6) hx hb hts hin9 hown hK hP 0 rfl rfl 0 (by decide) (hts _ zm_3) (fun _ h9 => h9) rfl dX9_restore_22 ?_
    refine va_get (D := D) (ci := 3) (v := .int o_2.1) (C := RX5) (T := TX5) (N := 8) hx hb hts hin5 hown hK hP 2 rfl rfl 0 (by decide) (hts _ zm_4) (fun _ h9 => h9) rfl dX9_restore_25 ?_
    obtain rfl := Option.some.inj hF
    exact hret _ _ _ _ hP hD hS rfl dX9_restore_28
  · have hF := zt c_1 hF
    refine lv_bipush (v := (-3)) hx hb dX9_restore_7 (by decide) ?_
    obtain rfl := Option.some.inj hF
    exact hret _ _ _ _ hP hD hS rfl dX9_restore_9
theorem zdv_X5_allWeights : yX5_allWeights.cls = RX5 ∧ yX5_allWeights.cls ≠ "java/lang/invoke/MethodHandle" ∧ yX5_allWeights.cls ≠ "java/lang/invoke/VarHandle" ∧ (parseMethodDescriptor yX5_allWeights.desc).map (fun d => d.parameters.length) = some 0 := by decide +kernel
abbrev roX9_count : Room := { frames := 3, cells := 0, slots := 0, locals := 65 }
set_option maxHeartbeats 4000000 in
set_option maxRecDepth 100000 in
theorem kX9_count (l : Launch) (D : va_G) (ca : Nat → ClassId) (t : Nat → Nat) (ad_s : Nat → Nat) (ad_x : Nat → Nat) (ad_d : Nat → Nat) (ad_p : Nat → Nat) (ad_n : Nat → Nat) (ad_q : Nat → Nat) (x_hasPicture : Int32) (d_guests : Int32) (d_kinds : Nat → Int32) (d_figures : Nat → Int32) (d_minutes : Nat → Int32) (d_settings : Nat → Int32) (d_hooks : Int32) (d_letters : Nat → Int32) (d_letterCount : Int32) (p1 : Int32) (fuel : Nat) (o : Int32) (hF : fX9_count fuel d_guests d_kinds d_figures d_settings d_hooks d_letterCount p1 = some o) : zRi l D (zT ca) t yX9_count (.code yX9_count cX9_count 2 (some .int) :: zW) roX9_count [.ref (ad_x 0), .int p1] (wX9_xd ca ad_s ad_x ad_d ad_p ad_n ad_q x_hasPicture d_guests d_kinds d_figures d_minutes d_settings d_hooks d_letters d_letterCount) o := by
  refine zRi_of (cc := cX9_count) (maxL := 2) (by decide) rfl (Nat.le_of_ble_eq_true rfl) ?_
  intro p e s m args below meth c A Q ls ⟨hx, hb, hml, hown, hts, hA, hK, hZ, hS⟩ hret hP hD hl
  have hts := fun w h => hts w (List.mem_cons_of_mem _ h)
  have hown : s.vm.findClass RX9 = some m.cls := hown
  have hl : lv_has ls 2 [(0, .ref (ad_x 0)), (1, .int p1)] := hl
  have hin5 := zin_X5
  have hin9 := zin_X9
  unfold fX9_count at hF
  refine lv_iload_n hx hb dX9_count_0 rfl (lv_at hl 1 rfl) ?_
  by_cases c_1 : p1 = 0
  · have hF := zt c_1 hF
    refine lv_tableIn (tgt := 48) (off := 47) hx hb dX9_count_1 (by rw [c_1]; decide) (by rw [c_1]; decide) (by rw [c_1]; rfl) (by decide) ?_
    refine lv_aload_n hx hb dX9_count_48 rfl (lv_at hl 0 rfl) ?_
    refine va_get (D := D) (ci := 6) (v := .ref (ad_d 0)) (C := RX9) (T := TX9) (N := 6) hx hb hts hin9 hown hK hP 0 rfl rfl 0 (by decide) (hts _ zm_3) (fun _ h9 => h9) rfl dX9_count_49 ?_
    refine va_get (D := D) (ci := 3) (v := .int d_guests) (C := RX5) (T := TX5) (N := 8) hx hb hts hin5 hown hK hP 2 rfl rfl 0 (by decide) (hts _ zm_4) (fun _ h9 => h9) rfl dX9_count_52 ?_
    obtain rfl := Option.some.inj hF
    exact hret _ _ rfl dX9_count_55
  · have hF := zf c_1 hF
    by_cases c_2 : p1 = 1
    · have hF := zt c_2 hF
      refine lv_tableIn (tgt := 56) (off := 55) hx hb dX9_count_1 (by rw [c_2]; decide) (by rw [c_2]; decide) (by rw [c_2]; rfl) (by decide) ?_
      refine lv_aload_n hx hb dX9_count_56 rfl (lv_at hl 0 rfl) ?_
      refine va_get (D := D) (ci := 6) (v := .ref (ad_d 0)) (C := RX9) (T := TX9) (N := 6) hx hb hts hin9 hown hK hP 0 rfl rfl 0 (by decide) (hts _ zm_3) (fun _ h9 => h9) rfl dX9_count_57 ?_
      refine va_get (D := D) (ci := 3) (v := .ref (ad_d 4)) (C := RX5) (T := TX5) (N := 8) hx hb hts hin5 hown hK hP 2 rfl rfl 4 (by decide) (hts _ zm_467) (fun _ h9 => h9) rfl dX9_count_60 ?_
      refine lv_iconst (v := 0) hx hb dX9_count_63 (by decide) ?_
      refine z_ialdK 0 hx hb hK hP 6 0 rfl rfl (zin_ok (by decide)) (by decide) dX9_count_64 ?_
      obtain rfl := Option.some.inj hF
      exact hret _ _ rfl dX9_count_65
    · have hF := zf c_2 hF
      by_cases c_3 : p1 = 2
      · have hF := zt c_3 hF
        refine lv_tableIn (tgt := 66) (off := 65) hx hb dX9_count_1 (by rw [c_3]; decide) (by rw [c_3]; decide) (by rw [c_3]; rfl) (by decide) ?_
        refine lv_aload_n hx hb dX9_count_66 rfl (lv_at hl 0 rfl) ?_
        refine va_get (D := D) (ci := 6) (v := .ref (ad_d 0)) (C := RX9) (T := TX9) (N := 6) hx hb hts hin9 hown hK hP 0 rfl rfl 0 (by decide) (hts _ zm_3) (fun _ h9 => h9) rfl dX9_count_67 ?_
        refine va_get (D := D) (ci := 3) (v := .ref (ad_d 4)) (C := RX5) (T := TX5) (N := 8) hx hb hts hin5 hown hK hP 2 rfl rfl 4 (by decide) (hts _ zm_467) (fun _ h9 => h9) rfl dX9_count_70 ?_
        refine lv_iconst (v := 1) hx hb dX9_count_73 (by decide) ?_
        refine z_ialdK 1 hx hb hK hP 6 0 rfl rfl (zin_ok (by decide)) (by decide) dX9_count_74 ?_
        obtain rfl := Option.some.inj hF
        exact hret _ _ rfl dX9_count_75
      · have hF := zf c_3 hF
        by_cases c_4 : p1 = 3
        · have hF := zt c_4 hF
          refine lv_tableIn (tgt := 76) (off := 75) hx hb dX9_count_1 (by rw [c_4]; decide) (by rw [c_4]; decide) (by rw [c_4]; rfl) (by decide) ?_
          refine lv_aload_n hx hb dX9_count_76 rfl (lv_at hl 0 rfl) ?_
          refine va_get (D := D) (ci := 6) (v := .ref (ad_d 0)) (C := RX9) (T := TX9) (N := 6) hx hb hts hin9 hown hK hP 0 rfl rfl 0 (by decide) (hts _ zm_3) (fun _ h9 => h9) rfl dX9_count_77 ?_
          refine va_get (D := D) (ci := 3) (v := .ref (ad_d 4)) (C := RX5) (T := TX5) (N := 8) hx hb hts hin5 hown hK hP 2 rfl rfl 4 (by decide) (hts _ zm_467) (fun _ h9 => h9) rfl dX9_count_80 ?_
          refine lv_iconst (v := 2) hx hb dX9_count_83 (by decide) ?_
          refine z_ialdK 2 hx hb hK hP 6 0 rfl rfl (zin_ok (by decide)) (by decide) dX9_count_84 ?_
          obtain rfl := Option.some.inj hF
          exact hret _ _ rfl dX9_count_85
        · have hF := zf c_4 hF
          by_cases c_5 : p1 = 4
          · have hF := zt c_5 hF
            refine lv_tableIn (tgt := 86) (off := 85) hx hb dX9_count_1 (by rw [c_5]; decide) (by rw [c_5]; decide) (by rw [c_5]; rfl) (by decide) ?_
            refine lv_aload_n hx hb dX9_count_86 rfl (lv_at hl 0 rfl) ?_
            refine va_get (D := D) (ci := 6) (v := .ref (ad_d 0)) (C := RX9) (T := TX9) (N := 6) hx hb hts hin9 hown hK hP 0 rfl rfl 0 (by decide) (hts _ zm_3) (fun _ h9 => h9) rfl dX9_count_87 ?_
            refine va_get (D := D) (ci := 3) (v := .ref (ad_d 4)) (C := RX5) (T := TX5) (N := 8) hx hb hts hin5 hown hK hP 2 rfl rfl 4 (by decide) (hts _ zm_467) (fun _ h9 => h9) rfl dX9_count_90 ?_
            refine lv_iconst (v := 3) hx hb dX9_count_93 (by decide) ?_
            refine z_ialdK 3 hx hb hK hP 6 0 rfl rfl (zin_ok (by decide)) (by decide) dX9_count_94 ?_
            obtain rfl := Option.some.inj hF
            exact hret _ _ rfl dX9_count_95
          · have hF := zf c_5 hF
            by_cases c_6 : p1 = 5
            · have hF := zt c_6 hF
              refine lv_tableIn (tgt := 96) (off := 95) hx hb dX9_count_1 (by rw [c_6]; decide) (by rw [c_6]; decide) (by rw [c_6]; rfl) (by decide) ?_
              refine lv_aload_n hx hb dX9_count_96 rfl (lv_at hl 0 rfl) ?_
              refine va_get (D := D) (ci := 6) (v := .ref (ad_d 0)) (C := RX9) (T := TX9) (N := 6) hx hb hts hin9 hown hK hP 0 rfl rfl 0 (by decide) (hts _ zm_3) (fun _ h9 => h9) rfl dX9_count_97 ?_
              refine va_get (D := D) (ci := 3) (v := .int d_hooks) (C := RX5) (T := TX5) (N := 8) hx hb hts hin5 hown hK hP 2 rfl rfl 5 (by decide) (hts _ zm_474) (fun _ h9 => h9) rfl dX9_count_100 ?_
              obtain rfl := Option.some.inj hF
              exact hret _ _ rfl dX9_count_103
            · have hF := zf c_6 hF
              by_cases c_7 : p1 = 6
              · have hF := zt c_7 hF
                refine lv_tableIn (tgt := 104) (off := 103) hx hb dX9_count_1 (by rw [c_7]; decide) (by rw [c_7]; decide) (by rw [c_7]; rfl) (by decide) ?_
                refine lv_aload_n hx hb dX9_count_104 rfl (lv_at hl 0 rfl) ?_
                refine va_get (D := D) (ci := 6) (v := .ref (ad_d 0)) (C := RX9) (T := TX9) (N := 6) hx hb hts hin9 hown hK hP 0 rfl rfl 0 (by decide) (hts _ zm_3) (fun _ h9 => h9) rfl dX9_count_105 ?_
                refine va_get (D := D) (ci := 3) (v := .int d_letterCount) (C := RX5) (T := TX5) (N := 8) hx hb hts hin5 hown hK hP 2 rfl rfl 7 (by decide) (hts _ zm_475) (fun _ h9 => h9) rfl dX9_count_108 ?_
                obtain rfl := Option.some.inj hF
                exact hret _ _ rfl dX9_count_111
              · have hF := zf c_7 hF
                by_cases c_8 : p1 = 7
                · have hF := zt c_8 hF
                  refine lv_tableIn (tgt := 112) (off := 111) hx hb dX9_count_1 (by rw [c_8]; decide) (by rw [c_8]; decide) (by rw [c_8]; rfl) (by decide) ?_
                  refine lv_aload_n hx hb dX9_count_112 rfl (lv_at hl 0 rfl) ?_
                  refine va_get (D := D) (ci := 6) (v := .ref (ad_d 0)) (C := RX9) (T := TX9) (N := 6) hx hb hts hin9 hown hK hP 0 rfl rfl 0 (by decide) (hts _ zm_3) (fun _ h9 => h9) rfl dX9_count_113 ?_
                  obtain ⟨o_9, hc_9, hF⟩ := zb hF
                  refine zcVR (rest := []) (kX5_allWeights l D ca t ad_d d_guests d_kinds d_figures d_minutes d_settings d_hooks d_letters d_letterCount fuel _ hc_9) ⟨hx, hb, hml, hown, hts⟩ (zcwV hts zm_477 zm_478 zm_479 zm_387 zm_476 rfl rfl zdv_X5_allWeights ⟨Nat.le_of_ble_eq_true rfl, Nat.le_of_ble_eq_true rfl⟩) hA hK hZ hP hD hS [2, 3, 4, 5, 6, 7] rfl rfl 3 2 rfl rfl rfl hl.1 (Nat.le_of_ble_eq_true rfl) dX9_count_116 rfl ?_
                  obtain rfl := Option.some.inj hF
                  exact hret _ _ rfl dX9_count_119
                · have hF := zf c_8 hF
                  refine lv_tableOut (tgt := 120) hx hb dX9_count_1 (ztab (lo := 0) (hi := 7) (fun k h1 h2 => by rcases (show k = 0 ∨ k = 1 ∨ k = 2 ∨ k = 3 ∨ k = 4 ∨ k = 5 ∨ k = 6 ∨ k = 7 by omega) with rfl | rfl | rfl | rfl | rfl | rfl | rfl | rfl <;> first | exact c_1 | exact c_2 | exact c_3 | exact c_4 | exact c_5 | exact c_6 | exact c_7 | exact c_8)) (by decide) ?_
                  refine lv_iconst (v := (-1)) hx hb dX9_count_120 (by decide) ?_
                  obtain rfl := Option.some.inj hF
                  exact hret _ _ rfl dX9_count_121
theorem zdv_X7_becomeCoat : yX7_becomeCoat.cls = RX7 ∧ yX7_becomeCoat.cls ≠ "java/lang/invoke/MethodHandle" ∧ yX7_becomeCoat.cls ≠ "java/lang/invoke/VarHandle" ∧ (parseMethodDescriptor yX7_becomeCoat.desc).map (fun d => d.parameters.length) = some 2 := by decide +kernel
theorem zdv_X7_becomeEmpty : yX7_becomeEmpty.cls = RX7 ∧ yX7_becomeEmpty.cls ≠ "java/lang/invoke/MethodHandle" ∧ yX7_becomeEmpty.cls ≠ "java/lang/invoke/VarHandle" ∧ (parseMethodDescriptor yX7_becomeEmpty.desc).map (fun d => d.parameters.length) = some 0 := by decide +kernel
theorem zds_X9_isFirstOrSecond : yX9_isFirstOrSecond.cls ≠ "java/lang/invoke/MethodHandle" ∧ yX9_isFirstOrSecond.cls ≠ "java/lang/invoke/VarHandle" ∧ (parseMethodDescriptor yX9_isFirstOrSecond.desc).map (fun d => d.parameters.length) = some 1 := by decide +kernel
abbrev roX9_keep : Room := { frames := 1, cells := 0, slots := 0, locals := 22 }
set_option maxHeartbeats 4000000 in
set_option maxRecDepth 100000 in
theorem kX9_keep (l : Launch) (D : va_G) (ca : Nat → ClassId) (t : Nat → Nat) (ad_s : Nat → Nat) (ad_x : Nat → Nat) (ad_d : Nat → Nat) (ad_p : Nat → Nat) (ad_n : Nat → Nat) (ad_q : Nat → Nat) (s_holds : Nat → Int32) (s_kind : Nat → Int32) (s_figure : Nat → Int32) (s_sort : Nat → Int32) (s_size : Nat → Int32) (s_el : Nat → Nat → Int32) (x_hasPicture : Int32) (p1 : Int32) (p2 : Int32) (p3 : Int32) (p4 : Int32) (fuel : Nat) (o : Int32 × (Nat → Int32) × (Nat → Int32) × (Nat → Int32) × (Nat → Int32)) (hF : fX9_keep fuel s_holds s_kind s_figure s_size p1 p2 p3 p4 = some o) : zMi l D (zT ca) t yX9_keep (.code yX9_keep cX9_keep 5 (some .int) :: zW) roX9_keep [.ref (ad_x 0), .int p1, .int p2, .int p3, .int p4] (wX9_sx ca ad_s ad_x ad_d ad_p ad_n ad_q s_holds s_kind s_figure s_sort s_size s_el x_hasPicture) (wX9_sx ca ad_s ad_x ad_d ad_p ad_n ad_q o.2.1 o.2.2.1 o.2.2.2.1 s_sort o.2.2.2.2 s_el x_hasPicture) o.1 := by
  refine zMi_of (cc := cX9_keep) (maxL := 5) (by decide) rfl (Nat.le_of_ble_eq_true rfl) ?_
  intro p e s m args below meth c A Q ls ⟨hx, hb, hml, hown, hts, hA, hK, hZ, hS⟩ hret hP hD hl
  have hts := fun w h => hts w (List.mem_cons_of_mem _ h)
  have hown : s.vm.findClass RX9 = some m.cls := hown
  have hl : lv_has ls 5 [(0, .ref (ad_x 0)), (1, .int p1), (2, .int p2), (3, .int p3), (4, .int p4)] := hl
  have hin9 := zin_X9
  unfold fX9_keep at hF
  refine lv_iload_n hx hb dX9_keep_0 rfl (lv_at hl 1 rfl) ?_
  obtain ⟨o_1, hc_1, hF⟩ := zb hF
  refine zcSR (rest := []) (kX9_isShelf l D ca t p1 fuel _ hc_1) ⟨hx, hb, hml, hown, hts⟩ (zcwS hts zm_8 zm_6 zm_7 zm_5 rfl rfl zds_X9_isShelf ⟨Nat.le_of_ble_eq_true rfl, Nat.le_of_ble_eq_true rfl⟩) hA hK hZ hP hD hS [] rfl rfl rfl hl.1 (Nat.le_of_ble_eq_true rfl) dX9_keep_1 rfl ?_
  refine lv_if_eq (tgt := 14) hx hb dX9_keep_4 (by decide) (fun c_2 => ?_) (fun c_2 => ?_)
  · have hF := zt c_2 hF
    refine lv_iconst (v := (-1)) hx hb dX9_keep_14 (by decide) ?_
    obtain rfl := Option.some.inj hF
    exact hret _ _ _ _ hP hD hS rfl dX9_keep_15
  · have hF := zf c_2 hF
    refine lv_iload_n hx hb dX9_keep_7 rfl (lv_at hl 2 rfl) ?_
    obtain ⟨o_3, hc_3, hF⟩ := zb hF
    refine zcSR (rest := []) (kX9_isFirstOrSecond l D ca t p2 fuel _ hc_3) ⟨hx, hb, hml, hown, hts⟩ (zcwS hts zm_482 zm_481 zm_7 zm_480 rfl rfl zds_X9_isFirstOrSecond ⟨Nat.le_of_ble_eq_true rfl, Nat.le_of_ble_eq_true rfl⟩) hA hK hZ hP hD hS [] rfl rfl rfl hl.1 (Nat.le_of_ble_eq_true rfl) dX9_keep_8 rfl ?_
    refine lv_if_ne (tgt := 16) hx hb dX9_keep_11 (by decide) (fun c_4 => ?_) (fun c_4 => ?_)
    · have hF := zf c_4 hF
      refine lv_iload_n hx hb dX9_keep_16 rfl (lv_at hl 2 rfl) ?_
      refine lv_if_ne (tgt := 31) hx hb dX9_keep_17 (by decide) (fun c_5 => ?_) (fun c_5 => ?_)
      · have hF := zf c_5 hF
        refine lv_iload_n hx hb dX9_keep_31 rfl (lv_at hl 3 rfl) ?_
        obtain ⟨o_6, hc_6, hF⟩ := zb hF
        refine zcSR (rest := []) (kX1_isKind l D ca t p3 fuel _ hc_6) ⟨hx, hb, hml, hown, hts⟩ (zcwS hts zm_485 zm_484 zm_394 zm_483 rfl rfl zds_X1_isKind ⟨Nat.le_of_ble_eq_true rfl, Nat.le_of_ble_eq_true rfl⟩) hA hK hZ hP hD hS [] rfl rfl rfl hl.1 (Nat.le_of_ble_eq_true rfl) dX9_keep_32 rfl ?_
        refine lv_if_eq (tgt := 50) hx hb dX9_keep_35 (by decide) (fun c_7 => ?_) (fun c_7 => ?_)
        · have hF := zt c_7 hF
          refine lv_iconst (v := (-1)) hx hb dX9_keep_50 (by decide) ?_
          obtain rfl := Option.some.inj hF
          exact hret _ _ _ _ hP hD hS rfl dX9_keep_51
        · have hF := zf c_7 hF
          refine lv_iload hx hb dX9_keep_38 (lv_at hl 4 rfl) ?_
          refine lv_if_lt (tgt := 50) hx hb dX9_keep_40 (by decide) (fun c_8 => ?_) (fun c_8 => ?_)
          · have hF := zt c_8 hF
            refine lv_iconst (v := (-1)) hx hb dX9_keep_50 (by decide) ?_
            obtain rfl := Option.some.inj hF
            exact hret _ _ _ _ hP hD hS rfl dX9_keep_51
          · have hF := zf c_8 hF
            refine lv_iload hx hb dX9_keep_43 (lv_at hl 4 rfl) ?_
            refine lv_bipush (v := 9) hx hb dX9_keep_45 (by decide) ?_
            refine lv_icmp_le (tgt := 52) hx hb dX9_keep_47 (by decide) (fun c_9 => ?_) (fun c_9 => ?_)
            · have hF := zt c_9 hF
              refine lv_aload_n hx hb dX9_keep_52 rfl (lv_at hl 0 rfl) ?_
              refine va_get (D := D) (ci := 6) (v := .ref (ad_x 1)) (C := RX9) (T := TX9) (N := 6) hx hb hts hin9 hown hK hP 16 rfl rfl 3 (by decide) (hts _ zm_9) (fun _ h9 => h9) rfl dX9_keep_53 ?_
              refine lv_iload_n hx hb dX9_keep_56 rfl (lv_at hl 1 rfl) ?_
              obtain ⟨h_10, hF⟩ := zgi hF
              refine z_aald hx hb hK hP 17 3 rfl rfl rfl h_10 dX9_keep_57 ?_
              refine lv_iload_n hx hb dX9_keep_58 rfl (lv_at hl 3 rfl) ?_
              refine lv_iload hx hb dX9_keep_59 (lv_at hl 4 rfl) ?_
              obtain ⟨o_11, hc_11, hF⟩ := zb hF
              refine zcVv (rest := []) (ws' := (wX9_sx ca ad_s ad_x ad_d ad_p ad_n ad_q o_11.1 o_11.2.1 o_11.2.2.1 s_sort o_11.2.2.2 s_el x_hasPicture)) (kX7_becomeCoat l D ca t ad_s s_holds s_kind s_figure s_sort s_size s_el p1.toNatClampNeg (zin_lt h_10) p3 p4 fuel _ hc_11) ⟨hx, hb, hml, hown, hts⟩ (zcwV hts zm_487 zm_488 zm_489 zm_422 zm_486 rfl rfl zdv_X7_becomeCoat ⟨Nat.le_of_ble_eq_true rfl, Nat.le_of_ble_eq_true rfl⟩) hA hK hZ hP hD hS [0, 1, 2, 3, 4, 5, 6, 7, 8, 9, 10, 11, 12, 13, 14, 15] [16, 17] [2, 3, 4, 5, 6, 7, 8, 9, 10, 11, 12, 13, 14, 15, 16, 17, 0, 1] rfl rfl rfl rfl rfl rfl rfl 4 (2 * p1.toNatClampNeg) rfl (zsh_at p1.toNatClampNeg (zin_lt h_10)) rfl hl.1 (Nat.le_of_ble_eq_true rfl) dX9_keep_61 rfl (fun H locs hP hD hS => ?_)
              refine lv_iconst (v := 0) hx hb dX9_keep_64 (by decide) ?_
              obtain rfl := Option.some.inj hF
              exact hret _ _ _ _ hP hD hS rfl dX9_keep_65
            · have hF := zf c_9 hF
              refine lv_iconst (v := (-1)) hx hb dX9_keep_50 (by decide) ?_
              obtain rfl := Option.some.inj hF
              exact hret _ _ _ _ hP hD hS rfl dX9_keep_51
      · have hF := zt c_5 hF
        refine lv_aload_n hx hb dX9_keep_20 rfl (lv_at hl 0 rfl) ?_
        refine va_get (D := D) (ci := 6) (v := .ref (ad_x 1)) (C := RX9) (T := TX9) (N := 6) hx hb hts hin9 hown hK hP 16 rfl rfl 3 (by decide) (hts _ zm_9) (fun _ h9 => h9) rfl dX9_keep_21 ?_
        refine lv_iload_n hx hb dX9_keep_24 rfl (lv_at hl 1 rfl) ?_
        obtain ⟨h_12, hF⟩ := zgi hF
        refine z_aald hx hb hK hP 17 3 rfl rfl rfl h_12 dX9_keep_25 ?_
        obtain ⟨o_13, hc_13, hF⟩ := zb hF
        refine zcVv (rest := []) (ws' := (wX9_sx ca ad_s ad_x ad_d ad_p ad_n ad_q o_13.1 s_kind s_figure s_sort o_13.2 s_el x_hasPicture)) (kX7_becomeEmpty l D ca t ad_s s_holds s_kind s_figure s_sort s_size s_el p1.toNatClampNeg (zin_lt h_12) fuel _ hc_13) ⟨hx, hb, hml, hown, hts⟩ (zcwV hts zm_491 zm_492 zm_493 zm_422 zm_490 rfl rfl zdv_X7_becomeEmpty ⟨Nat.le_of_ble_eq_true rfl, Nat.le_of_ble_eq_true rfl⟩) hA hK hZ hP hD hS [0, 1, 2, 3, 4, 5, 6, 7, 8, 9, 10, 11, 12, 13, 14, 15] [16, 17] [2, 3, 4, 5, 6, 7, 8, 9, 10, 11, 12, 13, 14, 15, 16, 17, 0, 1] rfl rfl rfl rfl rfl rfl rfl 4 (2 * p1.toNatClampNeg) rfl (zsh_at p1.toNatClampNeg (zin_lt h_12)) rfl hl.1 (Nat.le_of_ble_eq_true rfl) dX9_keep_26 rfl (fun H locs hP hD hS => ?_)
        refine lv_iconst (v := 0) hx hb dX9_keep_29 (by decide) ?_
        obtain rfl := Option.some.inj hF
        exact hret _ _ _ _ hP hD hS rfl dX9_keep_30
    · have hF := zt c_4 hF
      refine lv_iconst (v := (-1)) hx hb dX9_keep_14 (by decide) ?_
      obtain rfl := Option.some.inj hF
      exact hret _ _ _ _ hP hD hS rfl dX9_keep_15
theorem zdv_X7_becomeRow : yX7_becomeRow.cls = RX7 ∧ yX7_becomeRow.cls ≠ "java/lang/invoke/MethodHandle" ∧ yX7_becomeRow.cls ≠ "java/lang/invoke/VarHandle" ∧ (parseMethodDescriptor yX7_becomeRow.desc).map (fun d => d.parameters.length) = some 2 := by decide +kernel
abbrev roX9_row : Room := { frames := 1, cells := 0, slots := 0, locals := 23 }
set_option maxHeartbeats 4000000 in
set_option maxRecDepth 100000 in
theorem kX9_row (l : Launch) (D : va_G) (ca : Nat → ClassId) (t : Nat → Nat) (ad_s : Nat → Nat) (ad_x : Nat → Nat) (ad_d : Nat → Nat) (ad_p : Nat → Nat) (ad_n : Nat → Nat) (ad_q : Nat → Nat) (s_holds : Nat → Int32) (s_kind : Nat → Int32) (s_figure : Nat → Int32) (s_sort : Nat → Int32) (s_size : Nat → Int32) (s_el : Nat → Nat → Int32) (x_hasPicture : Int32) (p1 : Int32) (p2 : Int32) (p3 : Int32) (fuel : Nat) (o : Int32 × (Nat → Int32) × (Nat → Int32) × (Nat → Int32) × (Nat → Nat → Int32)) (hF : fX9_row fuel s_holds s_sort s_size s_el p1 p2 p3 = some o) : zMi l D (zT ca) t yX9_row (.code yX9_row cX9_row 4 (some .int) :: zW) roX9_row [.ref (ad_x 0), .int p1, .int p2, .int p3] (wX9_sx ca ad_s ad_x ad_d ad_p ad_n ad_q s_holds s_kind s_figure s_sort s_size s_el x_hasPicture) (wX9_sx ca ad_s ad_x ad_d ad_p ad_n ad_q o.2.1 s_kind s_figure o.2.2.1 o.2.2.2.1 o.2.2.2.2 x_hasPicture) o.1 := by
  refine zMi_of (cc := cX9_row) (maxL := 4) (by decide) rfl (Nat.le_of_ble_eq_true rfl) ?_
  intro p e s m args below meth c A Q ls ⟨hx, hb, hml, hown, hts, hA, hK, hZ, hS⟩ hret hP hD hl
  have hts := fun w h => hts w (List.mem_cons_of_mem _ h)
  have hown : s.vm.findClass RX9 = some m.cls := hown
  have hl : lv_has ls 4 [(0, .ref (ad_x 0)), (1, .int p1), (2, .int p2), (3, .int p3)] := hl
  have hin9 := zin_X9
  unfold fX9_row at hF
  refine lv_iload_n hx hb dX9_row_0 rfl (lv_at hl 1 rfl) ?_
  obtain ⟨o_1, hc_1, hF⟩ := zb hF
  refine zcSR (rest := []) (kX9_isShelf l D ca t p1 fuel _ hc_1) ⟨hx, hb, hml, hown, hts⟩ (zcwS hts zm_8 zm_6 zm_7 zm_5 rfl rfl zds_X9_isShelf ⟨Nat.le_of_ble_eq_true rfl, Nat.le_of_ble_eq_true rfl⟩) hA hK hZ hP hD hS [] rfl rfl rfl hl.1 (Nat.le_of_ble_eq_true rfl) dX9_row_1 rfl ?_
  refine lv_if_eq (tgt := 22) hx hb dX9_row_4 (by decide) (fun c_2 => ?_) (fun c_2 => ?_)
  · have hF := zt c_2 hF
    refine lv_iconst (v := (-1)) hx hb dX9_row_22 (by decide) ?_
    obtain rfl := Option.some.inj hF
    exact hret _ _ _ _ hP hD hS rfl dX9_row_23
  · have hF := zf c_2 hF
    refine lv_iload_n hx hb dX9_row_7 rfl (lv_at hl 2 rfl) ?_
    refine lv_if_lt (tgt := 22) hx hb dX9_row_8 (by decide) (fun c_3 => ?_) (fun c_3 => ?_)
    · have hF := zt c_3 hF
      refine lv_iconst (v := (-1)) hx hb dX9_row_22 (by decide) ?_
      obtain rfl := Option.some.inj hF
      exact hret _ _ _ _ hP hD hS rfl dX9_row_23
    · have hF := zf c_3 hF
      refine lv_iload_n hx hb dX9_row_11 rfl (lv_at hl 2 rfl) ?_
      refine lv_iconst (v := 2) hx hb dX9_row_12 (by decide) ?_
      refine lv_icmp_gt (tgt := 22) hx hb dX9_row_13 (by decide) (fun c_4 => ?_) (fun c_4 => ?_)
      · have hF := zt c_4 hF
        refine lv_iconst (v := (-1)) hx hb dX9_row_22 (by decide) ?_
        obtain rfl := Option.some.inj hF
        exact hret _ _ _ _ hP hD hS rfl dX9_row_23
      · have hF := zf c_4 hF
        refine lv_iload_n hx hb dX9_row_16 rfl (lv_at hl 3 rfl) ?_
        refine lv_bipush (v := 100) hx hb dX9_row_17 (by decide) ?_
        refine lv_icmp_le (tgt := 24) hx hb dX9_row_19 (by decide) (fun c_5 => ?_) (fun c_5 => ?_)
        · have hF := zt c_5 hF
          refine lv_iload_n hx hb dX9_row_24 rfl (lv_at hl 3 rfl) ?_
          refine lv_if_ge (tgt := 31) hx hb dX9_row_25 (by decide) (fun c_6 => ?_) (fun c_6 => ?_)
          · have hF := zt c_6 hF
            refine lv_aload_n hx hb dX9_row_31 rfl (lv_at hl 0 rfl) ?_
            refine va_get (D := D) (ci := 6) (v := .ref (ad_x 1)) (C := RX9) (T := TX9) (N := 6) hx hb hts hin9 hown hK hP 16 rfl rfl 3 (by decide) (hts _ zm_9) (fun _ h9 => h9) rfl dX9_row_32 ?_
            refine lv_iload_n hx hb dX9_row_35 rfl (lv_at hl 1 rfl) ?_
            obtain ⟨h_7, hF⟩ := zgi hF
            refine z_aald hx hb hK hP 17 3 rfl rfl rfl h_7 dX9_row_36 ?_
            refine lv_iload_n hx hb dX9_row_37 rfl (lv_at hl 2 rfl) ?_
            refine lv_iload_n hx hb dX9_row_38 rfl (lv_at hl 3 rfl) ?_
            obtain ⟨o_8, hc_8, hF⟩ := zb hF
            refine zcVv (rest := []) (ws' := (wX9_sx ca ad_s ad_x ad_d ad_p ad_n ad_q o_8.1 s_kind s_figure o_8.2.1 o_8.2.2.1 o_8.2.2.2 x_hasPicture)) (kX7_becomeRow l D ca t ad_s s_holds s_kind s_figure s_sort s_size s_el p1.toNatClampNeg (zin_lt h_7) p2 p3 fuel _ hc_8) ⟨hx, hb, hml, hown, hts⟩ (zcwV hts zm_495 zm_496 zm_497 zm_422 zm_494 rfl rfl zdv_X7_becomeRow ⟨Nat.le_of_ble_eq_true rfl, Nat.le_of_ble_eq_true rfl⟩) hA hK hZ hP hD hS [0, 1, 2, 3, 4, 5, 6, 7, 8, 9, 10, 11, 12, 13, 14, 15] [16, 17] [2, 3, 4, 5, 6, 7, 8, 9, 10, 11, 12, 13, 14, 15, 16, 17, 0, 1] rfl rfl rfl rfl rfl rfl rfl 4 (2 * p1.toNatClampNeg) rfl (zsh_at p1.toNatClampNeg (zin_lt h_7)) rfl hl.1 (Nat.le_of_ble_eq_true rfl) dX9_row_39 rfl (fun H locs hP hD hS => ?_)
            refine lv_iconst (v := 0) hx hb dX9_row_42 (by decide) ?_
            obtain rfl := Option.some.inj hF
            exact hret _ _ _ _ hP hD hS rfl dX9_row_43
          · have hF := zf c_6 hF
            refine lv_bipush (v := (-14)) hx hb dX9_row_28 (by decide) ?_
            obtain rfl := Option.some.inj hF
            exact hret _ _ _ _ hP hD hS rfl dX9_row_30
        · have hF := zf c_5 hF
          refine lv_iconst (v := (-1)) hx hb dX9_row_22 (by decide) ?_
          obtain rfl := Option.some.inj hF
          exact hret _ _ _ _ hP hD hS rfl dX9_row_23
theorem zdv_X7_cutToSort : yX7_cutToSort.cls = RX7 ∧ yX7_cutToSort.cls ≠ "java/lang/invoke/MethodHandle" ∧ yX7_cutToSort.cls ≠ "java/lang/invoke/VarHandle" ∧ (parseMethodDescriptor yX7_cutToSort.desc).map (fun d => d.parameters.length) = some 1 := by decide +kernel
abbrev roX9_put : Room := { frames := 2, cells := 0, slots := 0, locals := 42 }
set_option maxHeartbeats 4000000 in
set_option maxRecDepth 100000 in
theorem kX9_put (l : Launch) (D : va_G) (ca : Nat → ClassId) (t : Nat → Nat) (ad_s : Nat → Nat) (ad_x : Nat → Nat) (ad_d : Nat → Nat) (ad_p : Nat → Nat) (ad_n : Nat → Nat) (ad_q : Nat → Nat) (s_holds : Nat → Int32) (s_kind : Nat → Int32) (s_figure : Nat → Int32) (s_sort : Nat → Int32) (s_size : Nat → Int32) (s_el : Nat → Nat → Int32) (x_hasPicture : Int32) (p1 : Int32) (p2 : Int32) (p3 : Int32) (fuel : Nat) (o : Int32 × (Nat → Nat → Int32)) (hF : fX9_put fuel s_holds s_sort s_size s_el p1 p2 p3 = some o) : zMi l D (zT ca) t yX9_put (.code yX9_put cX9_put 5 (some .int) :: zW) roX9_put [.ref (ad_x 0), .int p1, .int p2, .int p3] (wX9_sx ca ad_s ad_x ad_d ad_p ad_n ad_q s_holds s_kind s_figure s_sort s_size s_el x_hasPicture) (wX9_sx ca ad_s ad_x ad_d ad_p ad_n ad_q s_holds s_kind s_figure s_sort s_size o.2 x_hasPicture) o.1 := by
  refine zMi_of (cc := cX9_put) (maxL := 5) (by decide) rfl (Nat.le_of_ble_eq_true rfl) ?_
  intro p e s m args below meth c A Q ls ⟨hx, hb, hml, hown, hts, hA, hK, hZ, hS⟩ hret hP hD hl
  have hts := fun w h => hts w (List.mem_cons_of_mem _ h)
  have hown : s.vm.findClass RX9 = some m.cls := hown
  have hl : lv_has ls 5 [(0, .ref (ad_x 0)), (1, .int p1), (2, .int p2), (3, .int p3)] := hl
  have hin7 := zin_X7
  have hin9 := zin_X9
  unfold fX9_put at hF
  refine lv_aload_n hx hb dX9_put_0 rfl (lv_at hl 0 rfl) ?_
  refine lv_iload_n hx hb dX9_put_1 rfl (lv_at hl 1 rfl) ?_
  refine lv_iconst (v := 2) hx hb dX9_put_2 (by decide) ?_
  obtain ⟨o_1, hc_1, hF⟩ := zb hF
  refine zcVR (rest := []) (kX9_refusalOf l D ca t ad_s ad_x ad_d ad_p ad_n ad_q s_holds s_kind s_figure s_sort s_size s_el x_hasPicture p1 2 fuel _ hc_1) ⟨hx, hb, hml, hown, hts⟩ (zcwV hts zm_12 zm_13 zm_14 zm_7 zm_11 rfl rfl zdv_X9_refusalOf ⟨Nat.le_of_ble_eq_true rfl, Nat.le_of_ble_eq_true rfl⟩) hA hK hZ hP hD hS [0, 1, 2, 3, 4, 5, 6, 7, 8, 9, 10, 11, 12, 13, 14, 15, 16, 17] rfl rfl 6 16 rfl rfl rfl hl.1 (Nat.le_of_ble_eq_true rfl) dX9_put_3 rfl ?_
  refine lv_istore (lv' := [(4, .int o_1), (0, .ref (ad_x 0)), (1, .int p1), (2, .int p2), (3, .int p3)]) hx hb dX9_put_6 hl (by decide) rfl (fun ls hl => ?_)
  refine lv_iload hx hb dX9_put_8 (lv_at hl 0 rfl) ?_
  refine lv_if_eq (tgt := 16) hx hb dX9_put_10 (by decide) (fun c_2 => ?_) (fun c_2 => ?_)
  · have hF := zt c_2 hF
    refine lv_aload_n hx hb dX9_put_16 rfl (lv_at hl 1 rfl) ?_
    refine va_get (D := D) (ci := 6) (v := .ref (ad_x 1)) (C := RX9) (T := TX9) (N := 6) hx hb hts hin9 hown hK hP 16 rfl rfl 3 (by decide) (hts _ zm_9) (fun _ h9 => h9) rfl dX9_put_17 ?_
    refine lv_iload_n hx hb dX9_put_20 rfl (lv_at hl 2 rfl) ?_
    obtain ⟨h_3, hF⟩ := zgi hF
    refine z_aald hx hb hK hP 17 3 rfl rfl rfl h_3 dX9_put_21 ?_
    refine lv_iload_n hx hb dX9_put_22 rfl (lv_at hl 3 rfl) ?_
    obtain ⟨o_4, hc_4, hF⟩ := zb hF
    refine zcVR (rest := []) (kX7_hasPlace l D ca t ad_s s_holds s_kind s_figure s_sort s_size s_el p1.toNatClampNeg (zin_lt h_3) p2 fuel _ hc_4) ⟨hx, hb, hml, hown, hts⟩ (zcwV hts zm_498 zm_420 zm_421 zm_422 zm_418 rfl rfl zdv_X7_hasPlace ⟨Nat.le_of_ble_eq_true rfl, Nat.le_of_ble_eq_true rfl⟩) hA hK hZ hP hD hS [0, 1, 2, 3, 4, 5, 6, 7, 8, 9, 10, 11, 12, 13, 14, 15] rfl rfl 4 (2 * p1.toNatClampNeg) rfl (zsh_at p1.toNatClampNeg (zin_lt h_3)) rfl hl.1 (Nat.le_of_ble_eq_true rfl) dX9_put_23 rfl ?_
    refine lv_if_ne (tgt := 32) hx hb dX9_put_26 (by decide) (fun c_5 => ?_) (fun c_5 => ?_)
    · have hF := zf c_5 hF
      refine lv_aload_n hx hb dX9_put_32 rfl (lv_at hl 1 rfl) ?_
      refine va_get (D := D) (ci := 6) (v := .ref (ad_x 1)) (C := RX9) (T := TX9) (N := 6) hx hb hts hin9 hown hK hP 16 rfl rfl 3 (by decide) (hts _ zm_9) (fun _ h9 => h9) rfl dX9_put_33 ?_
      refine lv_iload_n hx hb dX9_put_36 rfl (lv_at hl 2 rfl) ?_
      refine z_aald hx hb hK hP 17 3 rfl rfl rfl h_3 dX9_put_37 ?_
      refine va_get (D := D) (ci := 4) (v := .ref (ad_s (2 * p1.toNatClampNeg + 1))) (C := RX7) (T := TX7) (N := 6) hx hb hts hin7 hown hK hP (2 * p1.toNatClampNeg) (zsh_at p1.toNatClampNeg (zin_lt h_3)) rfl 5 (by decide) (hts _ zm_499) (fun _ h9 => h9) rfl dX9_put_38 ?_
      refine lv_iload_n hx hb dX9_put_41 rfl (lv_at hl 3 rfl) ?_
      refine lv_aload_n hx hb dX9_put_42 rfl (lv_at hl 1 rfl) ?_
      refine va_get (D := D) (ci := 6) (v := .ref (ad_x 1)) (C := RX9) (T := TX9) (N := 6) hx hb hts hin9 hown hK hP 16 rfl rfl 3 (by decide) (hts _ zm_9) (fun _ h9 => h9) rfl dX9_put_43 ?_
      refine lv_iload_n hx hb dX9_put_46 rfl (lv_at hl 2 rfl) ?_
      refine z_aald hx hb hK hP 17 3 rfl rfl rfl h_3 dX9_put_47 ?_
      refine lv_iload_n hx hb dX9_put_48 rfl (lv_at hl 4 rfl) ?_
      obtain ⟨o_6, hc_6, hF⟩ := zb hF
      refine zcVR (rest := [.int p2, .ref (ad_s (2 * p1.toNatClampNeg + 1))]) (kX7_cutToSort l D ca t ad_s s_holds s_kind s_figure s_sort s_size s_el p1.toNatClampNeg (zin_lt h_3) p3 fuel _ hc_6) ⟨hx, hb, hml, hown, hts⟩ (zcwV hts zm_501 zm_502 zm_503 zm_422 zm_500 rfl rfl zdv_X7_cutToSort ⟨Nat.le_of_ble_eq_true rfl, Nat.le_of_ble_eq_true rfl⟩) hA hK hZ hP hD hS [0, 1, 2, 3, 4, 5, 6, 7, 8, 9, 10, 11, 12, 13, 14, 15] rfl rfl 4 (2 * p1.toNatClampNeg) rfl (zsh_at p1.toNatClampNeg (zin_lt h_3)) rfl hl.1 (Nat.le_of_ble_eq_true rfl) dX9_put_49 rfl ?_
      obtain ⟨h_7, hF⟩ := zgi hF
      refine z_seast hx hb hK hP hD hS p1.toNatClampNeg (zin_lt h_3) rfl h_7 dX9_put_52 (fun g => (wX9_sx ca ad_s ad_x ad_d ad_p ad_n ad_q s_holds s_kind s_figure s_sort s_size g x_hasPicture)) (fun _ => rfl) hF (fun s_el_8 H locs hF hP hD hS => ?_)
      refine lv_iconst (v := 0) hx hb dX9_put_53 (by decide) ?_
      obtain rfl := Option.some.inj hF
      exact hret _ _ _ _ hP hD hS rfl dX9_put_54
    · have hF := zt c_5 hF
      refine lv_bipush (v := (-13)) hx hb dX9_put_29 (by decide) ?_
      obtain rfl := Option.some.inj hF
      exact hret _ _ _ _ hP hD hS rfl dX9_put_31
  · have hF := zf c_2 hF
    refine lv_iload hx hb dX9_put_13 (lv_at hl 0 rfl) ?_
    obtain rfl := Option.some.inj hF
    exact hret _ _ _ _ hP hD hS rfl dX9_put_15
theorem zdv_X7_hasStretch : yX7_hasStretch.cls = RX7 ∧ yX7_hasStretch.cls ≠ "java/lang/invoke/MethodHandle" ∧ yX7_hasStretch.cls ≠ "java/lang/invoke/VarHandle" ∧ (parseMethodDescriptor yX7_hasStretch.desc).map (fun d => d.parameters.length) = some 2 := by decide +kernel
abbrev roX9_copy : Room := { frames := 1, cells := 0, slots := 0, locals := 60 }
set_option maxHeartbeats 4000000 in
set_option maxRecDepth 100000 in
theorem kX9_copy (l : Launch) (D : va_G) (ca : Nat → ClassId) (t : Nat → Nat) (ad_s : Nat → Nat) (ad_x : Nat → Nat) (ad_d : Nat → Nat) (ad_p : Nat → Nat) (ad_n : Nat → Nat) (ad_q : Nat → Nat) (s_holds : Nat → Int32) (s_kind : Nat → Int32) (s_figure : Nat → Int32) (s_sort : Nat → Int32) (s_size : Nat → Int32) (s_el : Nat → Nat → Int32) (x_hasPicture : Int32) (p1 : Int32) (p2 : Int32) (p3 : Int32) (p4 : Int32) (p5 : Int32) (fuel : Nat) (o : Int32 × (Nat → Nat → Int32)) (hF : fX9_copy fuel s_holds s_sort s_size s_el p1 p2 p3 p4 p5 = some o) : zMi l D (zT ca) t yX9_copy (.code yX9_copy cX9_copy 8 (some .int) :: zW) roX9_copy [.ref (ad_x 0), .int p1, .int p2, .int p3, .int p4, .int p5] (wX9_sx ca ad_s ad_x ad_d ad_p ad_n ad_q s_holds s_kind s_figure s_sort s_size s_el x_hasPicture) (wX9_sx ca ad_s ad_x ad_d ad_p ad_n ad_q s_holds s_kind s_figure s_sort s_size o.2 x_hasPicture) o.1 := by
  refine zMi_of (cc := cX9_copy) (maxL := 8) (by decide) rfl (Nat.le_of_ble_eq_true rfl) ?_
  intro p e s m args below meth c A Q ls ⟨hx, hb, hml, hown, hts, hA, hK, hZ, hS⟩ hret hP hD hl
  have hts := fun w h => hts w (List.mem_cons_of_mem _ h)
  have hown : s.vm.findClass RX9 = some m.cls := hown
  have hl : lv_has ls 8 [(0, .ref (ad_x 0)), (1, .int p1), (2, .int p2), (3, .int p3), (4, .int p4), (5, .int p5)] := hl
  have hin7 := zin_X7
  have hin9 := zin_X9
  unfold fX9_copy at hF
  refine lv_iload_n hx hb dX9_copy_0 rfl (lv_at hl 1 rfl) ?_
  obtain ⟨o_1, hc_1, hF⟩ := zb hF
  refine zcSR (rest := []) (kX9_isShelf l D ca t p1 fuel _ hc_1) ⟨hx, hb, hml, hown, hts⟩ (zcwS hts zm_8 zm_6 zm_7 zm_5 rfl rfl zds_X9_isShelf ⟨Nat.le_of_ble_eq_true rfl, Nat.le_of_ble_eq_true rfl⟩) hA hK hZ hP hD hS [] rfl rfl rfl hl.1 (Nat.le_of_ble_eq_true rfl) dX9_copy_1 rfl ?_
  refine lv_if_eq (tgt := 14) hx hb dX9_copy_4 (by decide) (fun c_2 => ?_) (fun c_2 => ?_)
  · have hF := zt c_2 hF
    refine lv_iconst (v := (-1)) hx hb dX9_copy_14 (by decide) ?_
    obtain rfl := Option.some.inj hF
    exact hret _ _ _ _ hP hD hS rfl dX9_copy_15
  · have hF := zf c_2 hF
    refine lv_iload_n hx hb dX9_copy_7 rfl (lv_at hl 3 rfl) ?_
    obtain ⟨o_3, hc_3, hF⟩ := zb hF
    refine zcSR (rest := []) (kX9_isShelf l D ca t p3 fuel _ hc_3) ⟨hx, hb, hml, hown, hts⟩ (zcwS hts zm_8 zm_6 zm_7 zm_5 rfl rfl zds_X9_isShelf ⟨Nat.le_of_ble_eq_true rfl, Nat.le_of_ble_eq_true rfl⟩) hA hK hZ hP hD hS [] rfl rfl rfl hl.1 (Nat.le_of_ble_eq_true rfl) dX9_copy_8 rfl ?_
    refine lv_if_ne (tgt := 16) hx hb dX9_copy_11 (by decide) (fun c_4 => ?_) (fun c_4 => ?_)
    · have hF := zf c_4 hF
      refine lv_aload_n hx hb dX9_copy_16 rfl (lv_at hl 0 rfl) ?_
      refine va_get (D := D) (ci := 6) (v := .ref (ad_x 1)) (C := RX9) (T := TX9) (N := 6) hx hb hts hin9 hown hK hP 16 rfl rfl 3 (by decide) (hts _ zm_9) (fun _ h9 => h9) rfl dX9_copy_17 ?_
      refine lv_iload_n hx hb dX9_copy_20 rfl (lv_at hl 1 rfl) ?_
      obtain ⟨h_5, hF⟩ := zgi hF
      refine z_aald hx hb hK hP 17 3 rfl rfl rfl h_5 dX9_copy_21 ?_
      refine lv_astore (lv' := [(6, .ref (ad_s (2 * p1.toNatClampNeg))), (0, .ref (ad_x 0)), (1, .int p1), (2, .int p2), (3, .int p3), (4, .int p4), (5, .int p5)]) hx hb dX9_copy_22 hl (by decide) rfl (fun ls hl => ?_)
      refine lv_aload_n hx hb dX9_copy_24 rfl (lv_at hl 1 rfl) ?_
      refine va_get (D := D) (ci := 6) (v := .ref (ad_x 1)) (C := RX9) (T := TX9) (N := 6) hx hb hts hin9 hown hK hP 16 rfl rfl 3 (by decide) (hts _ zm_9) (fun _ h9 => h9) rfl dX9_copy_25 ?_
      refine lv_iload_n hx hb dX9_copy_28 rfl (lv_at hl 4 rfl) ?_
      obtain ⟨h_6, hF⟩ := zgi hF
      refine z_aald hx hb hK hP 17 3 rfl rfl rfl h_6 dX9_copy_29 ?_
      refine lv_astore (lv' := [(7, .ref (ad_s (2 * p3.toNatClampNeg))), (6, .ref (ad_s (2 * p1.toNatClampNeg))), (0, .ref (ad_x 0)), (1, .int p1), (2, .int p2), (3, .int p3), (4, .int p4), (5, .int p5)]) hx hb dX9_copy_30 hl (by decide) rfl (fun ls hl => ?_)
      refine lv_aload hx hb dX9_copy_32 (lv_at hl 1 rfl) ?_
      refine va_get (D := D) (ci := 4) (v := .int (s_holds p1.toNatClampNeg)) (C := RX7) (T := TX7) (N := 6) hx hb hts hin7 hown hK hP (2 * p1.toNatClampNeg) (zsh_at p1.toNatClampNeg (zin_lt h_5)) rfl 0 (by decide) (hts _ zm_10) (fun _ h9 => h9) rfl dX9_copy_34 ?_
      refine lv_if_eq (tgt := 48) hx hb dX9_copy_37 (by decide) (fun c_7 => ?_) (fun c_7 => ?_)
      · have hF := zt c_7 hF
        refine lv_bipush (v := (-11)) hx hb dX9_copy_48 (by decide) ?_
        obtain rfl := Option.some.inj hF
        exact hret _ _ _ _ hP hD hS rfl dX9_copy_50
      · have hF := zf c_7 hF
        refine lv_aload hx hb dX9_copy_40 (lv_at hl 0 rfl) ?_
        refine va_get (D := D) (ci := 4) (v := .int (s_holds p3.toNatClampNeg)) (C := RX7) (T := TX7) (N := 6) hx hb hts hin7 hown hK hP (2 * p3.toNatClampNeg) (zsh_at p3.toNatClampNeg (zin_lt h_6)) rfl 0 (by decide) (hts _ zm_10) (fun _ h9 => h9) rfl dX9_copy_42 ?_
        refine lv_if_ne (tgt := 51) hx hb dX9_copy_45 (by decide) (fun c_8 => ?_) (fun c_8 => ?_)
        · have hF := zf c_8 hF
          refine lv_aload hx hb dX9_copy_51 (lv_at hl 1 rfl) ?_
          refine va_get (D := D) (ci := 4) (v := .int (s_holds p1.toNatClampNeg)) (C := RX7) (T := TX7) (N := 6) hx hb hts hin7 hown hK hP (2 * p1.toNatClampNeg) (zsh_at p1.toNatClampNeg (zin_lt h_5)) rfl 0 (by decide) (hts _ zm_10) (fun _ h9 => h9) rfl dX9_copy_53 ?_
          refine lv_iconst (v := 2) hx hb dX9_copy_56 (by decide) ?_
          refine lv_icmp_ne (tgt := 82) hx hb dX9_copy_57 (by decide) (fun c_9 => ?_) (fun c_9 => ?_)
          · have hF := zf c_9 hF
            refine lv_bipush (v := (-12)) hx hb dX9_copy_82 (by decide) ?_
            obtain rfl := Option.some.inj hF
            exact hret _ _ _ _ hP hD hS rfl dX9_copy_84
          · have hF := zt c_9 hF
            refine lv_aload hx hb dX9_copy_60 (lv_at hl 0 rfl) ?_
            refine va_get (D := D) (ci := 4) (v := .int (s_holds p3.toNatClampNeg)) (C := RX7) (T := TX7) (N := 6) hx hb hts hin7 hown hK hP (2 * p3.toNatClampNeg) (zsh_at p3.toNatClampNeg (zin_lt h_6)) rfl 0 (by decide) (hts _ zm_10) (fun _ h9 => h9) rfl dX9_copy_62 ?_
            refine lv_iconst (v := 2) hx hb dX9_copy_65 (by decide) ?_
            refine lv_icmp_ne (tgt := 82) hx hb dX9_copy_66 (by decide) (fun c_10 => ?_) (fun c_10 => ?_)
            · have hF := zf c_10 hF
              refine lv_bipush (v := (-12)) hx hb dX9_copy_82 (by decide) ?_
              obtain rfl := Option.some.inj hF
              exact hret _ _ _ _ hP hD hS rfl dX9_copy_84
            · have hF := zt c_10 hF
              refine lv_aload hx hb dX9_copy_69 (lv_at hl 1 rfl) ?_
              refine va_get (D := D) (ci := 4) (v := .int (s_sort p1.toNatClampNeg)) (C := RX7) (T := TX7) (N := 6) hx hb hts hin7 hown hK hP (2 * p1.toNatClampNeg) (zsh_at p1.toNatClampNeg (zin_lt h_5)) rfl 3 (by decide) (hts _ zm_15) (fun _ h9 => h9) rfl dX9_copy_71 ?_
              refine lv_aload hx hb dX9_copy_74 (lv_at hl 0 rfl) ?_
              refine va_get (D := D) (ci := 4) (v := .int (s_sort p3.toNatClampNeg)) (C := RX7) (T := TX7) (N := 6) hx hb hts hin7 hown hK hP (2 * p3.toNatClampNeg) (zsh_at p3.toNatClampNeg (zin_lt h_6)) rfl 3 (by decide) (hts _ zm_15) (fun _ h9 => h9) rfl dX9_copy_76 ?_
              refine lv_icmp_eq (tgt := 85) hx hb dX9_copy_79 (by decide) (fun c_11 => ?_) (fun c_11 => ?_)
              · have hF := zt c_11 hF
                refine lv_aload hx hb dX9_copy_85 (lv_at hl 1 rfl) ?_
                refine lv_iload_n hx hb dX9_copy_87 rfl (lv_at hl 4 rfl) ?_
                refine lv_iload hx hb dX9_copy_88 (lv_at hl 7 rfl) ?_
                obtain ⟨o_12, hc_12, hF⟩ := zb hF
                refine zcVR (rest := []) (kX7_hasStretch l D ca t ad_s s_holds s_kind s_figure s_sort s_size s_el p1.toNatClampNeg (zin_lt h_5) p2 p5 fuel _ hc_12) ⟨hx, hb, hml, hown, hts⟩ (zcwV hts zm_505 zm_506 zm_507 zm_422 zm_504 rfl rfl zdv_X7_hasStretch ⟨Nat.le_of_ble_eq_true rfl, Nat.le_of_ble_eq_true rfl⟩) hA hK hZ hP hD hS [0, 1, 2, 3, 4, 5, 6, 7, 8, 9, 10, 11, 12, 13, 14, 15] rfl rfl 4 (2 * p1.toNatClampNeg) rfl (zsh_at p1.toNatClampNeg (zin_lt h_5)) rfl hl.1 (Nat.le_of_ble_eq_true rfl) dX9_copy_90 rfl ?_
                refine lv_if_eq (tgt := 108) hx hb dX9_copy_93 (by decide) (fun c_13 => ?_) (fun c_13 => ?_)
                · have hF := zt c_13 hF
                  refine lv_bipush (v := (-13)) hx hb dX9_copy_108 (by decide) ?_
                  obtain rfl := Option.some.inj hF
                  exact hret _ _ _ _ hP hD hS rfl dX9_copy_110
                · have hF := zf c_13 hF
                  refine lv_aload hx hb dX9_copy_96 (lv_at hl 0 rfl) ?_
                  refine lv_iload hx hb dX9_copy_98 (lv_at hl 6 rfl) ?_
                  refine lv_iload hx hb dX9_copy_100 (lv_at hl 7 rfl) ?_
                  obtain ⟨o_14, hc_14, hF⟩ := zb hF
                  refine zcVR (rest := []) (kX7_hasStretch l D ca t ad_s s_holds s_kind s_figure s_sort s_size s_el p3.toNatClampNeg (zin_lt h_6) p4 p5 fuel _ hc_14) ⟨hx, hb, hml, hown, hts⟩ (zcwV hts zm_505 zm_506 zm_507 zm_422 zm_504 rfl rfl zdv_X7_hasStretch ⟨Nat.le_of_ble_eq_true rfl, Nat.le_of_ble_eq_true rfl⟩) hA hK hZ hP hD hS [0, 1, 2, 3, 4, 5, 6, 7, 8, 9, 10, 11, 12, 13, 14, 15] rfl rfl 4 (2 * p3.toNatClampNeg) rfl (zsh_at p3.toNatClampNeg (zin_lt h_6)) rfl hl.1 (Nat.le_of_ble_eq_true rfl) dX9_copy_102 rfl ?_
                  refine lv_if_ne (tgt := 111) hx hb dX9_copy_105 (by decide) (fun c_15 => ?_) (fun c_15 => ?_)
                  · have hF := zf c_15 hF
                    refine lv_aload hx hb dX9_copy_111 (lv_at hl 1 rfl) ?_
                    refine va_get (D := D) (ci := 4) (v := .ref (ad_s (2 * p1.toNatClampNeg + 1))) (C := RX7) (T := TX7) (N := 6) hx hb hts hin7 hown hK hP (2 * p1.toNatClampNeg) (zsh_at p1.toNatClampNeg (zin_lt h_5)) rfl 5 (by decide) (hts _ zm_499) (fun _ h9 => h9) rfl dX9_copy_113 ?_
                    refine lv_iload_n hx hb dX9_copy_116 rfl (lv_at hl 4 rfl) ?_
                    refine lv_aload hx hb dX9_copy_117 (lv_at hl 0 rfl) ?_
                    refine va_get (D := D) (ci := 4) (v := .ref (ad_s (2 * p3.toNatClampNeg + 1))) (C := RX7) (T := TX7) (N := 6) hx hb hts hin7 hown hK hP (2 * p3.toNatClampNeg) (zsh_at p3.toNatClampNeg (zin_lt h_6)) rfl 5 (by decide) (hts _ zm_499) (fun _ h9 => h9) rfl dX9_copy_119 ?_
                    refine lv_iload hx hb dX9_copy_122 (lv_at hl 6 rfl) ?_
                    refine lv_iload hx hb dX9_copy_124 (lv_at hl 7 rfl) ?_
                    obtain ⟨h_16, hF⟩ := zgp hF
                    refine z_cpyS hx hb (hml.trans hl.1.symm) hown (hts _ zm_508) (hts _ zm_374) (hts _ zm_375) (hts _ zm_376) hK hP hD hS p1.toNatClampNeg (zin_lt h_5) p3.toNatClampNeg (zin_lt h_6) rfl h_16 (Nat.le_of_ble_eq_true rfl) (Nat.le_of_ble_eq_true rfl) dX9_copy_126 (fun g => (wX9_sx ca ad_s ad_x ad_d ad_p ad_n ad_q s_holds s_kind s_figure s_sort s_size g x_hasPicture)) (fun _ => rfl) hF (fun s_el_17 H locs hF hP hD hS => ?_)
                    refine lv_iload hx hb dX9_copy_129 (lv_at hl 7 rfl) ?_
                    obtain rfl := Option.some.inj hF
                    exact hret _ _ _ _ hP hD hS rfl dX9_copy_131
                  · have hF := zt c_15 hF
                    refine lv_bipush (v := (-13)) hx hb dX9_copy_108 (by decide) ?_
                    obtain rfl := Option.some.inj hF
                    exact hret _ _ _ _ hP hD hS rfl dX9_copy_110
              · have hF := zf c_11 hF
                refine lv_bipush (v := (-12)) hx hb dX9_copy_82 (by decide) ?_
                obtain rfl := Option.some.inj hF
                exact hret _ _ _ _ hP hD hS rfl dX9_copy_84
        · have hF := zt c_8 hF
          refine lv_bipush (v := (-11)) hx hb dX9_copy_48 (by decide) ?_
          obtain rfl := Option.some.inj hF
          exact hret _ _ _ _ hP hD hS rfl dX9_copy_50
    · have hF := zt c_4 hF
      refine lv_iconst (v := (-1)) hx hb dX9_copy_14 (by decide) ?_
      obtain rfl := Option.some.inj hF
      exact hret _ _ _ _ hP hD hS rfl dX9_copy_15
theorem zds_X1_price : yX1_price.cls ≠ "java/lang/invoke/MethodHandle" ∧ yX1_price.cls ≠ "java/lang/invoke/VarHandle" ∧ (parseMethodDescriptor yX1_price.desc).map (fun d => d.parameters.length) = some 2 := by decide +kernel
abbrev roX9_cost : Room := { frames := 2, cells := 0, slots := 0, locals := 42 }
set_option maxHeartbeats 4000000 in
set_option maxRecDepth 100000 in
theorem kX9_cost (l : Launch) (D : va_G) (ca : Nat → ClassId) (t : Nat → Nat) (ad_s : Nat → Nat) (ad_x : Nat → Nat) (ad_d : Nat → Nat) (ad_p : Nat → Nat) (ad_n : Nat → Nat) (ad_q : Nat → Nat) (s_holds : Nat → Int32) (s_kind : Nat → Int32) (s_figure : Nat → Int32) (s_sort : Nat → Int32) (s_size : Nat → Int32) (s_el : Nat → Nat → Int32) (x_hasPicture : Int32) (p1 : Int32) (fuel : Nat) (o : Int32) (hF : fX9_cost fuel s_holds s_kind s_figure p1 = some o) : zRi l D (zT ca) t yX9_cost (.code yX9_cost cX9_cost 3 (some .int) :: zW) roX9_cost [.ref (ad_x 0), .int p1] (wX9_sx ca ad_s ad_x ad_d ad_p ad_n ad_q s_holds s_kind s_figure s_sort s_size s_el x_hasPicture) o := by
  refine zRi_of (cc := cX9_cost) (maxL := 3) (by decide) rfl (Nat.le_of_ble_eq_true rfl) ?_
  intro p e s m args below meth c A Q ls ⟨hx, hb, hml, hown, hts, hA, hK, hZ, hS⟩ hret hP hD hl
  have hts := fun w h => hts w (List.mem_cons_of_mem _ h)
  have hown : s.vm.findClass RX9 = some m.cls := hown
  have hl : lv_has ls 3 [(0, .ref (ad_x 0)), (1, .int p1)] := hl
  have hin7 := zin_X7
  have hin9 := zin_X9
  unfold fX9_cost at hF
  refine lv_aload_n hx hb dX9_cost_0 rfl (lv_at hl 0 rfl) ?_
  refine lv_iload_n hx hb dX9_cost_1 rfl (lv_at hl 1 rfl) ?_
  refine lv_iconst (v := 1) hx hb dX9_cost_2 (by decide) ?_
  obtain ⟨o_1, hc_1, hF⟩ := zb hF
  refine zcVR (rest := []) (kX9_refusalOf l D ca t ad_s ad_x ad_d ad_p ad_n ad_q s_holds s_kind s_figure s_sort s_size s_el x_hasPicture p1 1 fuel _ hc_1) ⟨hx, hb, hml, hown, hts⟩ (zcwV hts zm_12 zm_13 zm_14 zm_7 zm_11 rfl rfl zdv_X9_refusalOf ⟨Nat.le_of_ble_eq_true rfl, Nat.le_of_ble_eq_true rfl⟩) hA hK hZ hP hD hS [0, 1, 2, 3, 4, 5, 6, 7, 8, 9, 10, 11, 12, 13, 14, 15, 16, 17] rfl rfl 6 16 rfl rfl rfl hl.1 (Nat.le_of_ble_eq_true rfl) dX9_cost_3 rfl ?_
  refine lv_istore_n (lv' := [(2, .int o_1), (0, .ref (ad_x 0)), (1, .int p1)]) hx hb dX9_cost_6 rfl hl (by decide) rfl (fun ls hl => ?_)
  refine lv_iload_n hx hb dX9_cost_7 rfl (lv_at hl 0 rfl) ?_
  refine lv_if_eq (tgt := 15) hx hb dX9_cost_8 (by decide) (fun c_2 => ?_) (fun c_2 => ?_)
  · have hF := zt c_2 hF
    refine lv_aload_n hx hb dX9_cost_15 rfl (lv_at hl 1 rfl) ?_
    refine va_get (D := D) (ci := 6) (v := .ref (ad_x 1)) (C := RX9) (T := TX9) (N := 6) hx hb hts hin9 hown hK hP 16 rfl rfl 3 (by decide) (hts _ zm_9) (fun _ h9 => h9) rfl dX9_cost_16 ?_
    refine lv_iload_n hx hb dX9_cost_19 rfl (lv_at hl 2 rfl) ?_
    obtain ⟨h_3, hF⟩ := zgi hF
    refine z_aald hx hb hK hP 17 3 rfl rfl rfl h_3 dX9_cost_20 ?_
    refine va_get (D := D) (ci := 4) (v := .int (s_kind p1.toNatClampNeg)) (C := RX7) (T := TX7) (N := 6) hx hb hts hin7 hown hK hP (2 * p1.toNatClampNeg) (zsh_at p1.toNatClampNeg (zin_lt h_3)) rfl 1 (by decide) (hts _ zm_447) (fun _ h9 => h9) rfl dX9_cost_21 ?_
    refine lv_aload_n hx hb dX9_cost_24 rfl (lv_at hl 1 rfl) ?_
    refine va_get (D := D) (ci := 6) (v := .ref (ad_x 1)) (C := RX9) (T := TX9) (N := 6) hx hb hts hin9 hown hK hP 16 rfl rfl 3 (by decide) (hts _ zm_9) (fun _ h9 => h9) rfl dX9_cost_25 ?_
    refine lv_iload_n hx hb dX9_cost_28 rfl (lv_at hl 2 rfl) ?_
    refine z_aald hx hb hK hP 17 3 rfl rfl rfl h_3 dX9_cost_29 ?_
    refine va_get (D := D) (ci := 4) (v := .int (s_figure p1.toNatClampNeg)) (C := RX7) (T := TX7) (N := 6) hx hb hts hin7 hown hK hP (2 * p1.toNatClampNeg) (zsh_at p1.toNatClampNeg (zin_lt h_3)) rfl 2 (by decide) (hts _ zm_448) (fun _ h9 => h9) rfl dX9_cost_30 ?_
    obtain ⟨o_4, hc_4, hF⟩ := zb hF
    refine zcSR (rest := []) (kX1_price l D ca t (s_kind p1.toNatClampNeg) (s_figure p1.toNatClampNeg) fuel _ hc_4) ⟨hx, hb, hml, hown, hts⟩ (zcwS hts zm_511 zm_510 zm_394 zm_509 rfl rfl zds_X1_price ⟨Nat.le_of_ble_eq_true rfl, Nat.le_of_ble_eq_true rfl⟩) hA hK hZ hP hD hS [] rfl rfl rfl hl.1 (Nat.le_of_ble_eq_true rfl) dX9_cost_33 rfl ?_
    obtain rfl := Option.some.inj hF
    exact hret _ _ rfl dX9_cost_36
  · have hF := zf c_2 hF
    refine lv_iload_n hx hb dX9_cost_11 rfl (lv_at hl 0 rfl) ?_
    refine lv_goto (tgt := 36) hx hb dX9_cost_12 (by decide) ?_
    obtain rfl := Option.some.inj hF
    exact hret _ _ rfl dX9_cost_36
theorem zdv_X9_refusalOfBytes : yX9_refusalOfBytes.cls = RX9 ∧ yX9_refusalOfBytes.cls ≠ "java/lang/invoke/MethodHandle" ∧ yX9_refusalOfBytes.cls ≠ "java/lang/invoke/VarHandle" ∧ (parseMethodDescriptor yX9_refusalOfBytes.desc).map (fun d => d.parameters.length) = some 1 := by decide +kernel
abbrev roX9_rule : Room := { frames := 3, cells := 0, slots := 0, locals := 66 }
set_option maxHeartbeats 4000000 in
set_option maxRecDepth 100000 in
theorem kX9_rule (l : Launch) (D : va_G) (ca : Nat → ClassId) (t : Nat → Nat) (ad_s : Nat → Nat) (ad_x : Nat → Nat) (ad_d : Nat → Nat) (ad_p : Nat → Nat) (ad_n : Nat → Nat) (ad_q : Nat → Nat) (s_holds : Nat → Int32) (s_kind : Nat → Int32) (s_figure : Nat → Int32) (s_sort : Nat → Int32) (s_size : Nat → Int32) (s_el : Nat → Nat → Int32) (x_hasPicture : Int32) (d_guests : Int32) (d_kinds : Nat → Int32) (d_figures : Nat → Int32) (d_minutes : Nat → Int32) (d_settings : Nat → Int32) (d_hooks : Int32) (d_letters : Nat → Int32) (d_letterCount : Int32) (p1 : Int32) (fuel : Nat) (o : Int32 × (Nat → Int32) × Int32) (hF : fX9_rule fuel s_holds s_sort s_size s_el d_letters d_letterCount p1 = some o) : zMi l D (zT ca) t yX9_rule (.code yX9_rule cX9_rule 5 (some .int) :: zW) roX9_rule [.ref (ad_x 0), .int p1] (wX9_sxd ca ad_s ad_x ad_d ad_p ad_n ad_q s_holds s_kind s_figure s_sort s_size s_el x_hasPicture d_guests d_kinds d_figures d_minutes d_settings d_hooks d_letters d_letterCount) (wX9_sxd ca ad_s ad_x ad_d ad_p ad_n ad_q s_holds s_kind s_figure s_sort s_size s_el x_hasPicture d_guests d_kinds d_figures d_minutes d_settings d_hooks o.2.1 o.2.2) o.1 := by
  refine zMi_of (cc := cX9_rule) (maxL := 5) (by decide) rfl (Nat.le_of_ble_eq_true rfl) ?_
  intro p e s m args below meth c A Q ls ⟨hx, hb, hml, hown, hts, hA, hK, hZ, hS⟩ hret hP hD hl
  have hts := fun w h => hts w (List.mem_cons_of_mem _ h)
  have hown : s.vm.findClass RX9 = some m.cls := hown
  have hl : lv_has ls 5 [(0, .ref (ad_x 0)), (1, .int p1)] := hl
  have hin5 := zin_X5
  have hin7 := zin_X7
  have hin9 := zin_X9
  have j65 : ∀ (d_letters : Nat → Int32) (d_letterCount : Int32) (H : Heap) (locs : List Loc), fX9_rule_J65 fuel s_size s_el p1 d_letters d_letterCount = some o → va_P D vwCl (wX9_sxd ca ad_s ad_x ad_d ad_p ad_n ad_q s_holds s_kind s_figure s_sort s_size s_el x_hasPicture d_guests d_kinds d_figures d_minutes d_settings d_hooks d_letters d_letterCount) H → va_D A (wX9_sxd ca ad_s ad_x ad_d ad_p ad_n ad_q s_holds s_kind s_figure s_sort s_size s_el x_hasPicture d_guests d_kinds d_figures d_minutes d_settings d_hooks d_letters d_letterCount) → va_S A s.heap H locs → ∀ ls : Array Slot, lv_has ls 5 [(0, .ref (ad_x 0)), (3, .ref (ad_s (2 * p1.toNatClampNeg)))] → W p l e roX9_rule s m args below meth c H locs 0 0 Q (F0 m 65 ls []) := by
    intro d_letters d_letterCount H locs hF hP hD hS ls hl
    unfold fX9_rule_J65 at hF
    refine lv_aload_n hx hb dX9_rule_65 rfl (lv_at hl 0 rfl) ?_
    refine va_get (D := D) (ci := 6) (v := .ref (ad_d 0)) (C := RX9) (T := TX9) (N := 6) hx hb hts hin9 hown hK hP 16 rfl rfl 0 (by decide) (hts _ zm_3) (fun _ h9 => h9) rfl dX9_rule_66 ?_
    refine lv_aload_n hx hb dX9_rule_69 rfl (lv_at hl 1 rfl) ?_
    refine lv_iconst (v := 0) hx hb dX9_rule_70 (by decide) ?_
    refine lv_aload_n hx hb dX9_rule_71 rfl (lv_at hl 1 rfl) ?_
    obtain ⟨h_11, hF⟩ := zgi hF
    refine va_get (D := D) (ci := 4) (v := .int (s_size p1.toNatClampNeg)) (C := RX7) (T := TX7) (N := 6) hx hb hts hin7 hown hK hP (2 * p1.toNatClampNeg) (zsh_at p1.toNatClampNeg (zin_lt h_11)) rfl 4 (by decide) (hts _ zm_612) (fun _ h9 => h9) rfl dX9_rule_72 ?_
    obtain ⟨o_12, hc_12, hF⟩ := zb hF
    refine zcVv (rest := []) (ws' := (wX9_sxd ca ad_s ad_x ad_d ad_p ad_n ad_q s_holds s_kind s_figure s_sort s_size s_el x_hasPicture d_guests d_kinds d_figures d_minutes d_settings d_hooks o_12.1 o_12.2)) (kX5_takeLetters l D ca t ad_s ad_d s_holds s_kind s_figure s_sort s_size s_el d_guests d_kinds d_figures d_minutes d_settings d_hooks d_letters d_letterCount p1.toNatClampNeg (zin_lt h_11) 0 (s_size p1.toNatClampNeg) fuel _ hc_12) ⟨hx, hb, hml, hown, hts⟩ (zcwV hts zm_615 zm_616 zm_617 zm_387 zm_614 rfl rfl zdv_X5_takeLetters ⟨Nat.le_of_ble_eq_true rfl, Nat.le_of_ble_eq_true rfl⟩) hA hK hZ hP hD hS [0, 1, 2, 3, 4, 5, 6, 7, 8, 9, 10, 11, 12, 13, 14, 15, 18, 19, 20, 21, 22, 23] [16, 17] [2, 3, 4, 5, 6, 7, 8, 9, 10, 11, 12, 13, 14, 15, 16, 17, 0, 1, 18, 19, 20, 21, 22, 23] rfl rfl rfl rfl rfl rfl rfl 3 18 rfl rfl rfl hl.1 (Nat.le_of_ble_eq_true rfl) dX9_rule_75 rfl (fun H locs hP hD hS => ?_)
    refine lv_aload_n hx hb dX9_rule_78 rfl (lv_at hl 0 rfl) ?_
    refine va_get (D := D) (ci := 6) (v := .ref (ad_d 0)) (C := RX9) (T := TX9) (N := 6) hx hb hts hin9 hown hK hP 16 rfl rfl 0 (by decide) (hts _ zm_3) (fun _ h9 => h9) rfl dX9_rule_79 ?_
    refine va_get (D := D) (ci := 3) (v := .int o_12.2) (C := RX5) (T := TX5) (N := 8) hx hb hts hin5 hown hK hP 18 rfl rfl 7 (by decide) (hts _ zm_475) (fun _ h9 => h9) rfl dX9_rule_82 ?_
    obtain rfl := Option.some.inj hF
    exact hret _ _ _ _ hP hD hS rfl dX9_rule_85
  have l34 : ∀ (n34 : Nat) (v4 : Int32) (d_letters : Nat → Int32) (d_letterCount : Int32) (H : Heap) (locs : List Loc), fX9_rule_L34 fuel s_size s_el p1 n34 v4 d_letters d_letterCount = some o → va_P D vwCl (wX9_sxd ca ad_s ad_x ad_d ad_p ad_n ad_q s_holds s_kind s_figure s_sort s_size s_el x_hasPicture d_guests d_kinds d_figures d_minutes d_settings d_hooks d_letters d_letterCount) H → va_D A (wX9_sxd ca ad_s ad_x ad_d ad_p ad_n ad_q s_holds s_kind s_figure s_sort s_size s_el x_hasPicture d_guests d_kinds d_figures d_minutes d_settings d_hooks d_letters d_letterCount) → va_S A s.heap H locs → ∀ ls : Array Slot, lv_has ls 5 [(0, .ref (ad_x 0)), (3, .ref (ad_s (2 * p1.toNatClampNeg))), (4, .int v4)] → W p l e roX9_rule s m args below meth c H locs 0 0 Q (F0 m 34 ls []) := by
    intro n34
    induction n34 with
    | zero =>
      intro v4 d_letters d_letterCount H locs hF
      rw [fX9_rule_L34] at hF
      cases hF
    | succ n34 ih34 =>
      intro v4 d_letters d_letterCount H locs hF hP hD hS ls hl
      rw [fX9_rule_L34] at hF
      refine lv_iload hx hb dX9_rule_34 (lv_at hl 2 rfl) ?_
      refine lv_aload_n hx hb dX9_rule_36 rfl (lv_at hl 1 rfl) ?_
      obtain ⟨h_5, hF⟩ := zgi hF
      refine va_get (D := D) (ci := 4) (v := .int (s_size p1.toNatClampNeg)) (C := RX7) (T := TX7) (N := 6) hx hb hts hin7 hown hK hP (2 * p1.toNatClampNeg) (zsh_at p1.toNatClampNeg (zin_lt h_5)) rfl 4 (by decide) (hts _ zm_612) (fun _ h9 => h9) rfl dX9_rule_37 ?_
      refine lv_icmp_ge (tgt := 65) hx hb dX9_rule_40 (by decide) (fun c_6 => ?_) (fun c_6 => ?_)
      · have hF := zt c_6 hF
        exact j65 d_letters d_letterCount _ _ hF hP hD hS ls (lv_sub hl [0, 1] rfl)
      · have hF := zf c_6 hF
        refine lv_aload_n hx hb dX9_rule_43 rfl (lv_at hl 1 rfl) ?_
        refine va_get (D := D) (ci := 4) (v := .ref (ad_s (2 * p1.toNatClampNeg + 1))) (C := RX7) (T := TX7) (N := 6) hx hb hts hin7 hown hK hP (2 * p1.toNatClampNeg) (zsh_at p1.toNatClampNeg (zin_lt h_5)) rfl 5 (by decide) (hts _ zm_499) (fun _ h9 => h9) rfl dX9_rule_44 ?_
        refine lv_iload hx hb dX9_rule_47 (lv_at hl 2 rfl) ?_
        obtain ⟨h_7, hF⟩ := zgi hF
        refine va_iald hx hb hK hP (2 * p1.toNatClampNeg + 1) 0 (zsh_el p1.toNatClampNeg (zin_lt h_5)) rfl h_7 dX9_rule_49 ?_
        obtain ⟨o_8, hc_8, hF⟩ := zb hF
        refine zcSR (rest := []) (kX6_isLetterOfRule l D ca t (s_el p1.toNatClampNeg v4.toNatClampNeg) fuel _ hc_8) ⟨hx, hb, hml, hown, hts⟩ (zcwS hts zm_613 zm_595 zm_596 zm_594 rfl rfl zds_X6_isLetterOfRule ⟨Nat.le_of_ble_eq_true rfl, Nat.le_of_ble_eq_true rfl⟩) hA hK hZ hP hD hS [] rfl rfl rfl hl.1 (Nat.le_of_ble_eq_true rfl) dX9_rule_50 rfl ?_
        refine lv_if_ne (tgt := 59) hx hb dX9_rule_53 (by decide) (fun c_9 => ?_) (fun c_9 => ?_)
        · have hF := zf c_9 hF
          refine z_iinc (kv := 1) hx hb 2 dX9_rule_59 hl rfl (by decide) (by decide) (fun g => [(4, .int g), (0, .ref (ad_x 0)), (3, .ref (ad_s (2 * p1.toNatClampNeg)))]) (fun _ => rfl) hF (fun v4_10 ls hF hl => ?_)
          refine lv_goto (tgt := 34) hx hb dX9_rule_62 (by decide) ?_
          exact ih34 v4_10 d_letters d_letterCount _ _ hF hP hD hS ls (lv_sub hl [1, 2, 0] rfl)
        · have hF := zt c_9 hF
          refine lv_bipush (v := (-13)) hx hb dX9_rule_56 (by decide) ?_
          obtain rfl := Option.some.inj hF
          exact hret _ _ _ _ hP hD hS rfl dX9_rule_58
  unfold fX9_rule at hF
  refine lv_aload_n hx hb dX9_rule_0 rfl (lv_at hl 0 rfl) ?_
  refine lv_iload_n hx hb dX9_rule_1 rfl (lv_at hl 1 rfl) ?_
  obtain ⟨o_1, hc_1, hF⟩ := zb hF
  refine zcVR (rest := []) (kX9_refusalOfBytes l D ca t ad_s ad_x ad_d ad_p ad_n ad_q s_holds s_kind s_figure s_sort s_size s_el x_hasPicture p1 fuel _ hc_1) ⟨hx, hb, hml, hown, hts⟩ (zcwV hts zm_609 zm_610 zm_611 zm_7 zm_608 rfl rfl zdv_X9_refusalOfBytes ⟨Nat.le_of_ble_eq_true rfl, Nat.le_of_ble_eq_true rfl⟩) hA hK hZ hP hD hS [0, 1, 2, 3, 4, 5, 6, 7, 8, 9, 10, 11, 12, 13, 14, 15, 16, 17] rfl rfl 6 16 rfl rfl rfl hl.1 (Nat.le_of_ble_eq_true rfl) dX9_rule_2 rfl ?_
  refine lv_istore_n (lv' := [(2, .int o_1), (0, .ref (ad_x 0)), (1, .int p1)]) hx hb dX9_rule_5 rfl hl (by decide) rfl (fun ls hl => ?_)
  refine lv_iload_n hx hb dX9_rule_6 rfl (lv_at hl 0 rfl) ?_
  refine lv_if_eq (tgt := 12) hx hb dX9_rule_7 (by decide) (fun c_2 => ?_) (fun c_2 => ?_)
  · have hF := zt c_2 hF
    refine lv_aload_n hx hb dX9_rule_12 rfl (lv_at hl 1 rfl) ?_
    refine va_get (D := D) (ci := 6) (v := .ref (ad_x 1)) (C := RX9) (T := TX9) (N := 6) hx hb hts hin9 hown hK hP 16 rfl rfl 3 (by decide) (hts _ zm_9) (fun _ h9 => h9) rfl dX9_rule_13 ?_
    refine lv_iload_n hx hb dX9_rule_16 rfl (lv_at hl 2 rfl) ?_
    obtain ⟨h_3, hF⟩ := zgi hF
    refine z_aald hx hb hK hP 17 3 rfl rfl rfl h_3 dX9_rule_17 ?_
    refine lv_astore_n (lv' := [(3, .ref (ad_s (2 * p1.toNatClampNeg))), (2, .int o_1), (0, .ref (ad_x 0)), (1, .int p1)]) hx hb dX9_rule_18 rfl hl (by decide) rfl (fun ls hl => ?_)
    refine lv_aload_n hx hb dX9_rule_19 rfl (lv_at hl 0 rfl) ?_
    refine va_get (D := D) (ci := 4) (v := .int (s_size p1.toNatClampNeg)) (C := RX7) (T := TX7) (N := 6) hx hb hts hin7 hown hK hP (2 * p1.toNatClampNeg) (zsh_at p1.toNatClampNeg (zin_lt h_3)) rfl 4 (by decide) (hts _ zm_612) (fun _ h9 => h9) rfl dX9_rule_20 ?_
    refine lv_bipush (v := 6) hx hb dX9_rule_23 (by decide) ?_
    refine lv_icmp_le (tgt := 31) hx hb dX9_rule_25 (by decide) (fun c_4 => ?_) (fun c_4 => ?_)
    · have hF := zt c_4 hF
      refine lv_iconst (v := 0) hx hb dX9_rule_31 (by decide) ?_
      refine lv_istore (lv' := [(4, .int 0), (3, .ref (ad_s (2 * p1.toNatClampNeg))), (2, .int o_1), (0, .ref (ad_x 0)), (1, .int p1)]) hx hb dX9_rule_32 hl (by decide) rfl (fun ls hl => ?_)
      exact l34 fuel 0 d_letters d_letterCount _ _ hF hP hD hS ls (lv_sub hl [3, 1, 0] rfl)
    · have hF := zf c_4 hF
      refine lv_bipush (v := (-13)) hx hb dX9_rule_28 (by decide) ?_
      obtain rfl := Option.some.inj hF
      exact hret _ _ _ _ hP hD hS rfl dX9_rule_30
  · have hF := zf c_2 hF
    refine lv_iload_n hx hb dX9_rule_10 rfl (lv_at hl 0 rfl) ?_
    obtain rfl := Option.some.inj hF
    exact hret _ _ _ _ hP hD hS rfl dX9_rule_11
abbrev roX9_order : Room := { frames := 4, cells := 0, slots := 0, locals := 89 }
set_option maxHeartbeats 4000000 in
set_option maxRecDepth 100000 in
theorem kX9_order (l : Launch) (D : va_G) (ca : Nat → ClassId) (t : Nat → Nat) (ad_s : Nat → Nat) (ad_x : Nat → Nat) (ad_d : Nat → Nat) (ad_p : Nat → Nat) (ad_n : Nat → Nat) (ad_y : Nat → Nat) (ad_b : Nat → Nat) (ad_q : Nat → Nat) (x_hasPicture : Int32) (d_guests : Int32) (d_kinds : Nat → Int32) (d_figures : Nat → Int32) (d_minutes : Nat → Int32) (d_settings : Nat → Int32) (d_hooks : Int32) (d_letters : Nat → Int32) (d_letterCount : Int32) (n_room : Nat) (n_order : Nat → Int32) (n_weights : Nat → Int32) (n_black : Nat → Int32) (n_lifts : Nat → Int32) (n_begins : Nat → Int32) (n_ends : Nat → Int32) (n_has : Nat → Int32) (n_lifted : Nat → Int32) (n_allLifts : Int32) (n_doneAt : Int32) (y_going : Nat → Int32) (y_coming : Nat → Int32) (y_holds : Int32) (y_latest : Int32) (p1 : Int32) (fuel : Nat) (o : Int32 × Nat × (Nat → Int32) × (Nat → Int32) × (Nat → Int32) × (Nat → Int32) × (Nat → Int32)) (hF : fX9_order fuel d_guests d_kinds d_figures d_minutes n_room n_order n_weights n_black y_going y_coming ad_d p1 = some o) : zMi l D (zT ca) t yX9_order (.code yX9_order cX9_order 2 (some .int) :: zW) roX9_order [.ref (ad_x 0), .int p1] (wX9_xdny ca ad_s ad_x ad_d ad_p ad_n ad_y ad_b ad_q x_hasPicture d_guests d_kinds d_figures d_minutes d_settings d_hooks d_letters d_letterCount n_room n_order n_weights n_black n_lifts n_begins n_ends n_has n_lifted n_allLifts n_doneAt y_going y_coming y_holds y_latest) (wX9_xdny ca ad_s ad_x ad_d ad_p ad_n ad_y ad_b ad_q x_hasPicture d_guests d_kinds d_figures d_minutes d_settings d_hooks d_letters d_letterCount o.2.1 o.2.2.1 o.2.2.2.1 o.2.2.2.2.1 n_lifts n_begins n_ends n_has n_lifted n_allLifts n_doneAt o.2.2.2.2.2.1 o.2.2.2.2.2.2 y_holds y_latest) o.1 := by
  refine zMi_of (cc := cX9_order) (maxL := 2) (by decide) rfl (Nat.le_of_ble_eq_true rfl) ?_
  intro p e s m args below meth c A Q ls ⟨hx, hb, hml, hown, hts, hA, hK, hZ, hS⟩ hret hP hD hl
  have hts := fun w h => hts w (List.mem_cons_of_mem _ h)
  have hown : s.vm.findClass RX9 = some m.cls := hown
  have hl : lv_has ls 2 [(0, .ref (ad_x 0)), (1, .int p1)] := hl
  have hin3 := zin_X3
  have hin5 := zin_X5
  have hin9 := zin_X9
  unfold fX9_order at hF
  refine lv_iload_n hx hb dX9_order_0 rfl (lv_at hl 1 rfl) ?_
  refine lv_if_ge (tgt := 6) hx hb dX9_order_1 (by decide) (fun c_1 => ?_) (fun c_1 => ?_)
  · have hF := zt c_1 hF
    refine lv_aload_n hx hb dX9_order_6 rfl (lv_at hl 0 rfl) ?_
    refine va_get (D := D) (ci := 6) (v := .ref (ad_n 0)) (C := RX9) (T := TX9) (N := 6) hx hb hts hin9 hown hK hP 0 rfl rfl 4 (by decide) (hts _ zm_618) (fun _ h9 => h9) rfl dX9_order_7 ?_
    refine lv_aload_n hx hb dX9_order_10 rfl (lv_at hl 0 rfl) ?_
    refine va_get (D := D) (ci := 6) (v := .ref (ad_d 0)) (C := RX9) (T := TX9) (N := 6) hx hb hts hin9 hown hK hP 0 rfl rfl 0 (by decide) (hts _ zm_3) (fun _ h9 => h9) rfl dX9_order_11 ?_
    obtain ⟨o_2, hc_2, hF⟩ := zb hF
    refine zcVv (rest := []) (ws' := (wX9_xdny ca ad_s ad_x ad_d ad_p ad_n ad_y ad_b ad_q x_hasPicture d_guests d_kinds d_figures d_minutes d_settings d_hooks d_letters d_letterCount (ad_d 0) o_2.1 o_2.2.1 o_2.2.2.1 n_lifts n_begins n_ends n_has n_lifted n_allLifts n_doneAt o_2.2.2.2.1 o_2.2.2.2.2 y_holds y_latest)) (kX3_begin l D ca t ad_n ad_y ad_b ad_d n_room n_order n_weights n_black n_lifts n_begins n_ends n_has n_lifted n_allLifts n_doneAt y_going y_coming y_holds y_latest d_guests d_kinds d_figures d_minutes d_settings d_hooks d_letters d_letterCount fuel _ hc_2) ⟨hx, hb, hml, hown, hts⟩ (zcwV hts zm_619 zm_604 zm_605 zm_568 zm_602 rfl rfl zdv_X3_begin ⟨Nat.le_of_ble_eq_true rfl, Nat.le_of_ble_eq_true rfl⟩) hA hK hZ hP hD hS [8, 9, 10, 11, 12, 13, 14, 15, 16, 17, 18, 19, 2, 3, 4, 5, 6, 7] [0, 1] [0, 1, 14, 15, 16, 17, 18, 19, 2, 3, 4, 5, 6, 7, 8, 9, 10, 11, 12, 13] rfl rfl rfl rfl rfl rfl rfl 2 8 rfl rfl rfl hl.1 (Nat.le_of_ble_eq_true rfl) dX9_order_14 rfl (fun H locs hP hD hS => ?_)
    refine lv_iload_n hx hb dX9_order_17 rfl (lv_at hl 1 rfl) ?_
    refine lv_aload_n hx hb dX9_order_18 rfl (lv_at hl 0 rfl) ?_
    refine va_get (D := D) (ci := 6) (v := .ref (ad_d 0)) (C := RX9) (T := TX9) (N := 6) hx hb hts hin9 hown hK hP 0 rfl rfl 0 (by decide) (hts _ zm_3) (fun _ h9 => h9) rfl dX9_order_19 ?_
    refine va_get (D := D) (ci := 3) (v := .int d_guests) (C := RX5) (T := TX5) (N := 8) hx hb hts hin5 hown hK hP 2 rfl rfl 0 (by decide) (hts _ zm_4) (fun _ h9 => h9) rfl dX9_order_22 ?_
    refine lv_icmp_ge (tgt := 40) hx hb dX9_order_25 (by decide) (fun c_3 => ?_) (fun c_3 => ?_)
    · have hF := zt c_3 hF
      refine lv_bipush (v := (-4)) hx hb dX9_order_40 (by decide) ?_
      obtain rfl := Option.some.inj hF
      exact hret _ _ _ _ hP hD hS rfl dX9_order_42
    · have hF := zf c_3 hF
      refine lv_aload_n hx hb dX9_order_28 rfl (lv_at hl 0 rfl) ?_
      refine va_get (D := D) (ci := 6) (v := .ref (ad_n 0)) (C := RX9) (T := TX9) (N := 6) hx hb hts hin9 hown hK hP 0 rfl rfl 4 (by decide) (hts _ zm_618) (fun _ h9 => h9) rfl dX9_order_29 ?_
      refine va_get (D := D) (ci := 2) (v := .ref (ad_n 1)) (C := RX3) (T := TX3) (N := 15) hx hb hts hin3 hown hK hP 8 rfl rfl 5 (by decide) (hts _ zm_620) (fun _ h9 => h9) rfl dX9_order_32 ?_
      refine lv_iload_n hx hb dX9_order_35 rfl (lv_at hl 1 rfl) ?_
      obtain ⟨h_4, hF⟩ := zgi hF
      refine va_iald hx hb hK hP 9 0 rfl rfl h_4 dX9_order_36 ?_
      refine lv_goto (tgt := 42) hx hb dX9_order_37 (by decide) ?_
      obtain rfl := Option.some.inj hF
      exact hret _ _ _ _ hP hD hS rfl dX9_order_42
  · have hF := zf c_1 hF
    refine lv_iconst (v := (-1)) hx hb dX9_order_4 (by decide) ?_
    obtain rfl := Option.some.inj hF
    exact hret _ _ _ _ hP hD hS rfl dX9_order_5
