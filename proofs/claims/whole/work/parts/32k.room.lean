abbrev roX5_allows : Room := { frames := 0, cells := 0, slots := 0, locals := 0 }
set_option maxHeartbeats 4000000 in
set_option maxRecDepth 100000 in
theorem kX5_allows (l : Launch) (D : va_G) (ca : Nat → ClassId) (t : Nat → Nat) (p0 : Int32) (p1 : Int32) (fuel : Nat) (o : Int32) (hF : fX5_allows fuel p0 p1 = some o) : zRi l D (zT ca) t yX5_allows (.code yX5_allows cX5_allows 2 (some .boolean) :: zW) roX5_allows [.int p0, .int p1] [] o := by
  refine zRi_of (cc := cX5_allows) (maxL := 2) (by decide) rfl (Nat.le_of_ble_eq_true rfl) ?_
  intro p e s m args below meth c A Q ls ⟨hx, hb, hml, hown, hts, hA, hK, hZ, hS⟩ hret hP hD hl
  have hts := fun w h => hts w (List.mem_cons_of_mem _ h)
  have hown : s.vm.findClass RX5 = some m.cls := hown
  have hl : lv_has ls 2 [(0, .int p0), (1, .int p1)] := hl
  unfold fX5_allows at hF
  refine lv_iload_n hx hb dX5_allows_0 rfl (lv_at hl 0 rfl) ?_
  refine lv_if_lt (tgt := 31) hx hb dX5_allows_1 (by decide) (fun c_1 => ?_) (fun c_1 => ?_)
  · have hF := zt c_1 hF
    refine lv_iconst (v := 0) hx hb dX5_allows_31 (by decide) ?_
    obtain rfl := Option.some.inj hF
    exact hret _ _ (zbool (Or.inl rfl)) dX5_allows_32
  · have hF := zf c_1 hF
    refine lv_iload_n hx hb dX5_allows_4 rfl (lv_at hl 0 rfl) ?_
    refine lv_iconst (v := 4) hx hb dX5_allows_5 (by decide) ?_
    refine lv_icmp_ge (tgt := 31) hx hb dX5_allows_6 (by decide) (fun c_2 => ?_) (fun c_2 => ?_)
    · have hF := zt c_2 hF
      refine lv_iconst (v := 0) hx hb dX5_allows_31 (by decide) ?_
      obtain rfl := Option.some.inj hF
      exact hret _ _ (zbool (Or.inl rfl)) dX5_allows_32
    · have hF := zf c_2 hF
      refine lv_iload_n hx hb dX5_allows_9 rfl (lv_at hl 1 rfl) ?_
      refine va_gets hx hb hZ.2.2.1.1 hS hown (hts _ zm_369) (fun _ h9 => h9) dX5_allows_10 ?_
      refine lv_iload_n hx hb dX5_allows_13 rfl (lv_at hl 0 rfl) ?_
      obtain ⟨h_3, hF⟩ := zgi hF
      refine va_ti hx hb hZ.2.2.1.2 hS h_3 rfl dX5_allows_14 ?_
      refine lv_icmp_lt (tgt := 31) hx hb dX5_allows_15 (by decide) (fun c_4 => ?_) (fun c_4 => ?_)
      · have hF := zt c_4 hF
        refine lv_iconst (v := 0) hx hb dX5_allows_31 (by decide) ?_
        obtain rfl := Option.some.inj hF
        exact hret _ _ (zbool (Or.inl rfl)) dX5_allows_32
      · have hF := zf c_4 hF
        refine lv_iload_n hx hb dX5_allows_18 rfl (lv_at hl 1 rfl) ?_
        refine va_gets hx hb hZ.2.2.2.1.1 hS hown (hts _ zm_370) (fun _ h9 => h9) dX5_allows_19 ?_
        refine lv_iload_n hx hb dX5_allows_22 rfl (lv_at hl 0 rfl) ?_
        refine va_ti hx hb hZ.2.2.2.1.2 hS h_3 rfl dX5_allows_23 ?_
        refine lv_icmp_gt (tgt := 31) hx hb dX5_allows_24 (by decide) (fun c_5 => ?_) (fun c_5 => ?_)
        · have hF := zt c_5 hF
          refine lv_iconst (v := 0) hx hb dX5_allows_31 (by decide) ?_
          obtain rfl := Option.some.inj hF
          exact hret _ _ (zbool (Or.inl rfl)) dX5_allows_32
        · have hF := zf c_5 hF
          refine lv_iconst (v := 1) hx hb dX5_allows_27 (by decide) ?_
          refine lv_goto (tgt := 32) hx hb dX5_allows_28 (by decide) ?_
          obtain rfl := Option.some.inj hF
          exact hret _ _ (zbool (Or.inr rfl)) dX5_allows_32
abbrev roX5_copyFrom : Room := { frames := 1, cells := 0, slots := 0, locals := 60 }
set_option maxHeartbeats 4000000 in
set_option maxRecDepth 100000 in
theorem kX5_copyFrom (l : Launch) (D : va_G) (ca : Nat → ClassId) (t : Nat → Nat) (ad_r : Nat → Nat) (ad_o : Nat → Nat) (r_guests : Int32) (r_kinds : Nat → Int32) (r_figures : Nat → Int32) (r_minutes : Nat → Int32) (r_settings : Nat → Int32) (r_hooks : Int32) (r_letters : Nat → Int32) (r_letterCount : Int32) (o_guests : Int32) (o_kinds : Nat → Int32) (o_figures : Nat → Int32) (o_minutes : Nat → Int32) (o_settings : Nat → Int32) (o_hooks : Int32) (o_letters : Nat → Int32) (o_letterCount : Int32) (fuel : Nat) (o : Int32 × (Nat → Int32) × (Nat → Int32) × (Nat → Int32) × (Nat → Int32) × Int32 × (Nat → Int32) × Int32) (hF : fX5_copyFrom fuel r_guests r_kinds r_figures r_minutes r_settings r_hooks r_letters r_letterCount o_guests o_kinds o_figures o_minutes o_settings o_hooks o_letters o_letterCount = some o) : zMv l D (zT ca) t yX5_copyFrom (.code yX5_copyFrom cX5_copyFrom 2 none :: zW) roX5_copyFrom [.ref (ad_r 0), .ref (ad_o 0)] (wX5_ro ca ad_r ad_o r_guests r_kinds r_figures r_minutes r_settings r_hooks r_letters r_letterCount o_guests o_kinds o_figures o_minutes o_settings o_hooks o_letters o_letterCount) (wX5_ro ca ad_r ad_o o.1 o.2.1 o.2.2.1 o.2.2.2.1 o.2.2.2.2.1 o.2.2.2.2.2.1 o.2.2.2.2.2.2.1 o.2.2.2.2.2.2.2 o_guests o_kinds o_figures o_minutes o_settings o_hooks o_letters o_letterCount) := by
  refine zMv_of (cc := cX5_copyFrom) (maxL := 2) (by decide) rfl (Nat.le_of_ble_eq_true rfl) ?_
  intro p e s m args below meth c A Q ls ⟨hx, hb, hml, hown, hts, hA, hK, hZ, hS⟩ hret hP hD hl
  have hts := fun w h => hts w (List.mem_cons_of_mem _ h)
  have hown : s.vm.findClass RX5 = some m.cls := hown
  have hl : lv_has ls 2 [(0, .ref (ad_r 0)), (1, .ref (ad_o 0))] := hl
  have hin5 := zin_X5
  unfold fX5_copyFrom at hF
  refine lv_aload_n hx hb dX5_copyFrom_0 rfl (lv_at hl 0 rfl) ?_
  refine lv_aload_n hx hb dX5_copyFrom_1 rfl (lv_at hl 1 rfl) ?_
  refine va_get (D := D) (ci := 3) (v := .int o_guests) (C := RX5) (T := TX5) (N := 8) hx hb hts hin5 hown hK hP 6 rfl rfl 0 (by decide) (hts _ zm_371) (fun _ h9 => h9) rfl dX5_copyFrom_2 ?_
  refine va_put (D := D) (ci := 3) (v := .int o_guests) (C := RX5) (T := TX5) (N := 8) hx hb hts hin5 tyX5 tyX5_ok nmX5 hown hK hP hD hS 0 rfl rfl 0 (by decide) (hts _ zm_371) (fun _ h9 => h9) rfl (tyX5_ok 0 (by decide)) rfl rfl (Nat.le_of_ble_eq_true rfl) dX5_copyFrom_5 (fun H locs hP hD hS => ?_)
  have hP : va_P D vwCl (wX5_ro ca ad_r ad_o o_guests r_kinds r_figures r_minutes r_settings r_hooks r_letters r_letterCount o_guests o_kinds o_figures o_minutes o_settings o_hooks o_letters o_letterCount) H := hP
  have hD : va_D A (wX5_ro ca ad_r ad_o o_guests r_kinds r_figures r_minutes r_settings r_hooks r_letters r_letterCount o_guests o_kinds o_figures o_minutes o_settings o_hooks o_letters o_letterCount) := hD
  refine lv_aload_n hx hb dX5_copyFrom_8 rfl (lv_at hl 1 rfl) ?_
  refine va_get (D := D) (ci := 3) (v := .ref (ad_o 1)) (C := RX5) (T := TX5) (N := 8) hx hb hts hin5 hown hK hP 6 rfl rfl 1 (by decide) (hts _ zm_372) (fun _ h9 => h9) rfl dX5_copyFrom_9 ?_
  refine lv_iconst (v := 0) hx hb dX5_copyFrom_12 (by decide) ?_
  refine lv_aload_n hx hb dX5_copyFrom_13 rfl (lv_at hl 0 rfl) ?_
  refine va_get (D := D) (ci := 3) (v := .ref (ad_r 1)) (C := RX5) (T := TX5) (N := 8) hx hb hts hin5 hown hK hP 0 rfl rfl 1 (by decide) (hts _ zm_372) (fun _ h9 => h9) rfl dX5_copyFrom_14 ?_
  refine lv_iconst (v := 0) hx hb dX5_copyFrom_17 (by decide) ?_
  refine lv_bipush (v := 10) hx hb dX5_copyFrom_18 (by decide) ?_
  refine z_cpyK 0 0 10 hx hb (hml.trans hl.1.symm) hown (hts _ zm_373) (hts _ zm_374) (hts _ zm_375) (hts _ zm_376) hK hP hD hS 7 1 0 rfl rfl rfl (by decide) (by decide) (by decide) (by decide) (by decide) (by decide) (by decide) (by decide) (Nat.le_of_ble_eq_true rfl) (Nat.le_of_ble_eq_true rfl) dX5_copyFrom_20 (fun g => (wX5_ro ca ad_r ad_o o_guests g r_figures r_minutes r_settings r_hooks r_letters r_letterCount o_guests o_kinds o_figures o_minutes o_settings o_hooks o_letters o_letterCount)) (fun _ => rfl) hF (fun r_kinds_1 H locs hF hP hD hS => ?_)
  refine lv_aload_n hx hb dX5_copyFrom_23 rfl (lv_at hl 1 rfl) ?_
  refine va_get (D := D) (ci := 3) (v := .ref (ad_o 2)) (C := RX5) (T := TX5) (N := 8) hx hb hts hin5 hown hK hP 6 rfl rfl 2 (by decide) (hts _ zm_377) (fun _ h9 => h9) rfl dX5_copyFrom_24 ?_
  refine lv_iconst (v := 0) hx hb dX5_copyFrom_27 (by decide) ?_
  refine lv_aload_n hx hb dX5_copyFrom_28 rfl (lv_at hl 0 rfl) ?_
  refine va_get (D := D) (ci := 3) (v := .ref (ad_r 2)) (C := RX5) (T := TX5) (N := 8) hx hb hts hin5 hown hK hP 0 rfl rfl 2 (by decide) (hts _ zm_377) (fun _ h9 => h9) rfl dX5_copyFrom_29 ?_
  refine lv_iconst (v := 0) hx hb dX5_copyFrom_32 (by decide) ?_
  refine lv_bipush (v := 10) hx hb dX5_copyFrom_33 (by decide) ?_
  refine z_cpyK 0 0 10 hx hb (hml.trans hl.1.symm) hown (hts _ zm_373) (hts _ zm_374) (hts _ zm_375) (hts _ zm_376) hK hP hD hS 8 2 0 rfl rfl rfl (by decide) (by decide) (by decide) (by decide) (by decide) (by decide) (by decide) (by decide) (Nat.le_of_ble_eq_true rfl) (Nat.le_of_ble_eq_true rfl) dX5_copyFrom_35 (fun g => (wX5_ro ca ad_r ad_o o_guests r_kinds_1 g r_minutes r_settings r_hooks r_letters r_letterCount o_guests o_kinds o_figures o_minutes o_settings o_hooks o_letters o_letterCount)) (fun _ => rfl) hF (fun r_figures_2 H locs hF hP hD hS => ?_)
  refine lv_aload_n hx hb dX5_copyFrom_38 rfl (lv_at hl 1 rfl) ?_
  refine va_get (D := D) (ci := 3) (v := .ref (ad_o 3)) (C := RX5) (T := TX5) (N := 8) hx hb hts hin5 hown hK hP 6 rfl rfl 3 (by decide) (hts _ zm_378) (fun _ h9 => h9) rfl dX5_copyFrom_39 ?_
  refine lv_iconst (v := 0) hx hb dX5_copyFrom_42 (by decide) ?_
  refine lv_aload_n hx hb dX5_copyFrom_43 rfl (lv_at hl 0 rfl) ?_
  refine va_get (D := D) (ci := 3) (v := .ref (ad_r 3)) (C := RX5) (T := TX5) (N := 8) hx hb hts hin5 hown hK hP 0 rfl rfl 3 (by decide) (hts _ zm_378) (fun _ h9 => h9) rfl dX5_copyFrom_44 ?_
  refine lv_iconst (v := 0) hx hb dX5_copyFrom_47 (by decide) ?_
  refine lv_bipush (v := 10) hx hb dX5_copyFrom_48 (by decide) ?_
  refine z_cpyK 0 0 10 hx hb (hml.trans hl.1.symm) hown (hts _ zm_373) (hts _ zm_374) (hts _ zm_375) (hts _ zm_376) hK hP hD hS 9 3 0 rfl rfl rfl (by decide) (by decide) (by decide) (by decide) (by decide) (by decide) (by decide) (by decide) (Nat.le_of_ble_eq_true rfl) (Nat.le_of_ble_eq_true rfl) dX5_copyFrom_50 (fun g => (wX5_ro ca ad_r ad_o o_guests r_kinds_1 r_figures_2 g r_settings r_hooks r_letters r_letterCount o_guests o_kinds o_figures o_minutes o_settings o_hooks o_letters o_letterCount)) (fun _ => rfl) hF (fun r_minutes_3 H locs hF hP hD hS => ?_)
  refine lv_aload_n hx hb dX5_copyFrom_53 rfl (lv_at hl 1 rfl) ?_
  refine va_get (D := D) (ci := 3) (v := .ref (ad_o 4)) (C := RX5) (T := TX5) (N := 8) hx hb hts hin5 hown hK hP 6 rfl rfl 4 (by decide) (hts _ zm_379) (fun _ h9 => h9) rfl dX5_copyFrom_54 ?_
  refine lv_iconst (v := 0) hx hb dX5_copyFrom_57 (by decide) ?_
  refine lv_aload_n hx hb dX5_copyFrom_58 rfl (lv_at hl 0 rfl) ?_
  refine va_get (D := D) (ci := 3) (v := .ref (ad_r 4)) (C := RX5) (T := TX5) (N := 8) hx hb hts hin5 hown hK hP 0 rfl rfl 4 (by decide) (hts _ zm_379) (fun _ h9 => h9) rfl dX5_copyFrom_59 ?_
  refine lv_iconst (v := 0) hx hb dX5_copyFrom_62 (by decide) ?_
  refine lv_iconst (v := 4) hx hb dX5_copyFrom_63 (by decide) ?_
  refine z_cpyK 0 0 4 hx hb (hml.trans hl.1.symm) hown (hts _ zm_373) (hts _ zm_374) (hts _ zm_375) (hts _ zm_376) hK hP hD hS 10 4 0 rfl rfl rfl (by decide) (by decide) (by decide) (by decide) (by decide) (by decide) (by decide) (by decide) (Nat.le_of_ble_eq_true rfl) (Nat.le_of_ble_eq_true rfl) dX5_copyFrom_64 (fun g => (wX5_ro ca ad_r ad_o o_guests r_kinds_1 r_figures_2 r_minutes_3 g r_hooks r_letters r_letterCount o_guests o_kinds o_figures o_minutes o_settings o_hooks o_letters o_letterCount)) (fun _ => rfl) hF (fun r_settings_4 H locs hF hP hD hS => ?_)
  refine lv_aload_n hx hb dX5_copyFrom_67 rfl (lv_at hl 0 rfl) ?_
  refine lv_aload_n hx hb dX5_copyFrom_68 rfl (lv_at hl 1 rfl) ?_
  refine va_get (D := D) (ci := 3) (v := .int o_hooks) (C := RX5) (T := TX5) (N := 8) hx hb hts hin5 hown hK hP 6 rfl rfl 5 (by decide) (hts _ zm_380) (fun _ h9 => h9) rfl dX5_copyFrom_69 ?_
  refine va_put (D := D) (ci := 3) (v := .int o_hooks) (C := RX5) (T := TX5) (N := 8) hx hb hts hin5 tyX5 tyX5_ok nmX5 hown hK hP hD hS 0 rfl rfl 5 (by decide) (hts _ zm_380) (fun _ h9 => h9) rfl (tyX5_ok 5 (by decide)) rfl rfl (Nat.le_of_ble_eq_true rfl) dX5_copyFrom_72 (fun H locs hP hD hS => ?_)
  have hP : va_P D vwCl (wX5_ro ca ad_r ad_o o_guests r_kinds_1 r_figures_2 r_minutes_3 r_settings_4 o_hooks r_letters r_letterCount o_guests o_kinds o_figures o_minutes o_settings o_hooks o_letters o_letterCount) H := hP
  have hD : va_D A (wX5_ro ca ad_r ad_o o_guests r_kinds_1 r_figures_2 r_minutes_3 r_settings_4 o_hooks r_letters r_letterCount o_guests o_kinds o_figures o_minutes o_settings o_hooks o_letters o_letterCount) := hD
  refine lv_aload_n hx hb dX5_copyFrom_75 rfl (lv_at hl 1 rfl) ?_
  refine va_get (D := D) (ci := 3) (v := .ref (ad_o 5)) (C := RX5) (T := TX5) (N := 8) hx hb hts hin5 hown hK hP 6 rfl rfl 6 (by decide) (hts _ zm_381) (fun _ h9 => h9) rfl dX5_copyFrom_76 ?_
  refine lv_iconst (v := 0) hx hb dX5_copyFrom_79 (by decide) ?_
  refine lv_aload_n hx hb dX5_copyFrom_80 rfl (lv_at hl 0 rfl) ?_
  refine va_get (D := D) (ci := 3) (v := .ref (ad_r 5)) (C := RX5) (T := TX5) (N := 8) hx hb hts hin5 hown hK hP 0 rfl rfl 6 (by decide) (hts _ zm_381) (fun _ h9 => h9) rfl dX5_copyFrom_81 ?_
  refine lv_iconst (v := 0) hx hb dX5_copyFrom_84 (by decide) ?_
  refine lv_bipush (v := 6) hx hb dX5_copyFrom_85 (by decide) ?_
  refine z_cpyK 0 0 6 hx hb (hml.trans hl.1.symm) hown (hts _ zm_373) (hts _ zm_374) (hts _ zm_375) (hts _ zm_376) hK hP hD hS 11 5 0 rfl rfl rfl (by decide) (by decide) (by decide) (by decide) (by decide) (by decide) (by decide) (by decide) (Nat.le_of_ble_eq_true rfl) (Nat.le_of_ble_eq_true rfl) dX5_copyFrom_87 (fun g => (wX5_ro ca ad_r ad_o o_guests r_kinds_1 r_figures_2 r_minutes_3 r_settings_4 o_hooks g r_letterCount o_guests o_kinds o_figures o_minutes o_settings o_hooks o_letters o_letterCount)) (fun _ => rfl) hF (fun r_letters_5 H locs hF hP hD hS => ?_)
  refine lv_aload_n hx hb dX5_copyFrom_90 rfl (lv_at hl 0 rfl) ?_
  refine lv_aload_n hx hb dX5_copyFrom_91 rfl (lv_at hl 1 rfl) ?_
  refine va_get (D := D) (ci := 3) (v := .int o_letterCount) (C := RX5) (T := TX5) (N := 8) hx hb hts hin5 hown hK hP 6 rfl rfl 7 (by decide) (hts _ zm_382) (fun _ h9 => h9) rfl dX5_copyFrom_92 ?_
  refine va_put (D := D) (ci := 3) (v := .int o_letterCount) (C := RX5) (T := TX5) (N := 8) hx hb hts hin5 tyX5 tyX5_ok nmX5 hown hK hP hD hS 0 rfl rfl 7 (by decide) (hts _ zm_382) (fun _ h9 => h9) rfl (tyX5_ok 7 (by decide)) rfl rfl (Nat.le_of_ble_eq_true rfl) dX5_copyFrom_95 (fun H locs hP hD hS => ?_)
  have hP : va_P D vwCl (wX5_ro ca ad_r ad_o o_guests r_kinds_1 r_figures_2 r_minutes_3 r_settings_4 o_hooks r_letters_5 o_letterCount o_guests o_kinds o_figures o_minutes o_settings o_hooks o_letters o_letterCount) H := hP
  have hD : va_D A (wX5_ro ca ad_r ad_o o_guests r_kinds_1 r_figures_2 r_minutes_3 r_settings_4 o_hooks r_letters_5 o_letterCount o_guests o_kinds o_figures o_minutes o_settings o_hooks o_letters o_letterCount) := hD
  obtain rfl := Option.some.inj hF
  exact hret _ _ _ _ hP hD hS dX5_copyFrom_98
abbrev roX5_hasGuest : Room := { frames := 0, cells := 0, slots := 0, locals := 0 }
set_option maxHeartbeats 4000000 in
set_option maxRecDepth 100000 in
theorem kX5_hasGuest (l : Launch) (D : va_G) (ca : Nat → ClassId) (t : Nat → Nat) (ad_r : Nat → Nat) (r_guests : Int32) (r_kinds : Nat → Int32) (r_figures : Nat → Int32) (r_minutes : Nat → Int32) (r_settings : Nat → Int32) (r_hooks : Int32) (r_letters : Nat → Int32) (r_letterCount : Int32) (p1 : Int32) (fuel : Nat) (o : Int32) (hF : fX5_hasGuest fuel r_guests p1 = some o) : zRi l D (zT ca) t yX5_hasGuest (.code yX5_hasGuest cX5_hasGuest 2 (some .boolean) :: zW) roX5_hasGuest [.ref (ad_r 0), .int p1] (wX5_r ca ad_r r_guests r_kinds r_figures r_minutes r_settings r_hooks r_letters r_letterCount) o := by
  refine zRi_of (cc := cX5_hasGuest) (maxL := 2) (by decide) rfl (Nat.le_of_ble_eq_true rfl) ?_
  intro p e s m args below meth c A Q ls ⟨hx, hb, hml, hown, hts, hA, hK, hZ, hS⟩ hret hP hD hl
  have hts := fun w h => hts w (List.mem_cons_of_mem _ h)
  have hown : s.vm.findClass RX5 = some m.cls := hown
  have hl : lv_has ls 2 [(0, .ref (ad_r 0)), (1, .int p1)] := hl
  have hin5 := zin_X5
  unfold fX5_hasGuest at hF
  refine lv_iload_n hx hb dX5_hasGuest_0 rfl (lv_at hl 1 rfl) ?_
  refine lv_if_lt (tgt := 16) hx hb dX5_hasGuest_1 (by decide) (fun c_1 => ?_) (fun c_1 => ?_)
  · have hF := zt c_1 hF
    refine lv_iconst (v := 0) hx hb dX5_hasGuest_16 (by decide) ?_
    obtain rfl := Option.some.inj hF
    exact hret _ _ (zbool (Or.inl rfl)) dX5_hasGuest_17
  · have hF := zf c_1 hF
    refine lv_iload_n hx hb dX5_hasGuest_4 rfl (lv_at hl 1 rfl) ?_
    refine lv_aload_n hx hb dX5_hasGuest_5 rfl (lv_at hl 0 rfl) ?_
    refine va_get (D := D) (ci := 3) (v := .int r_guests) (C := RX5) (T := TX5) (N := 8) hx hb hts hin5 hown hK hP 0 rfl rfl 0 (by decide) (hts _ zm_371) (fun _ h9 => h9) rfl dX5_hasGuest_6 ?_
    refine lv_icmp_ge (tgt := 16) hx hb dX5_hasGuest_9 (by decide) (fun c_2 => ?_) (fun c_2 => ?_)
    · have hF := zt c_2 hF
      refine lv_iconst (v := 0) hx hb dX5_hasGuest_16 (by decide) ?_
      obtain rfl := Option.some.inj hF
      exact hret _ _ (zbool (Or.inl rfl)) dX5_hasGuest_17
    · have hF := zf c_2 hF
      refine lv_iconst (v := 1) hx hb dX5_hasGuest_12 (by decide) ?_
      refine lv_goto (tgt := 17) hx hb dX5_hasGuest_13 (by decide) ?_
      obtain rfl := Option.some.inj hF
      exact hret _ _ (zbool (Or.inr rfl)) dX5_hasGuest_17
abbrev roX5_welcome : Room := { frames := 0, cells := 0, slots := 0, locals := 0 }
set_option maxHeartbeats 4000000 in
set_option maxRecDepth 100000 in
theorem kX5_welcome (l : Launch) (D : va_G) (ca : Nat → ClassId) (t : Nat → Nat) (ad_r : Nat → Nat) (r_guests : Int32) (r_kinds : Nat → Int32) (r_figures : Nat → Int32) (r_minutes : Nat → Int32) (r_settings : Nat → Int32) (r_hooks : Int32) (r_letters : Nat → Int32) (r_letterCount : Int32) (p1 : Int32) (p2 : Int32) (p3 : Int32) (fuel : Nat) (o : Int32 × Int32 × (Nat → Int32) × (Nat → Int32) × (Nat → Int32)) (hF : fX5_welcome fuel r_guests r_kinds r_figures r_minutes p1 p2 p3 = some o) : zMi l D (zT ca) t yX5_welcome (.code yX5_welcome cX5_welcome 4 (some .int) :: zW) roX5_welcome [.ref (ad_r 0), .int p1, .int p2, .int p3] (wX5_r ca ad_r r_guests r_kinds r_figures r_minutes r_settings r_hooks r_letters r_letterCount) (wX5_r ca ad_r o.2.1 o.2.2.1 o.2.2.2.1 o.2.2.2.2 r_settings r_hooks r_letters r_letterCount) o.1 := by
  refine zMi_of (cc := cX5_welcome) (maxL := 4) (by decide) rfl (Nat.le_of_ble_eq_true rfl) ?_
  intro p e s m args below meth c A Q ls ⟨hx, hb, hml, hown, hts, hA, hK, hZ, hS⟩ hret hP hD hl
  have hts := fun w h => hts w (List.mem_cons_of_mem _ h)
  have hown : s.vm.findClass RX5 = some m.cls := hown
  have hl : lv_has ls 4 [(0, .ref (ad_r 0)), (1, .int p1), (2, .int p2), (3, .int p3)] := hl
  have hin5 := zin_X5
  unfold fX5_welcome at hF
  refine lv_aload_n hx hb dX5_welcome_0 rfl (lv_at hl 0 rfl) ?_
  refine va_get (D := D) (ci := 3) (v := .int r_guests) (C := RX5) (T := TX5) (N := 8) hx hb hts hin5 hown hK hP 0 rfl rfl 0 (by decide) (hts _ zm_371) (fun _ h9 => h9) rfl dX5_welcome_1 ?_
  refine lv_bipush (v := 10) hx hb dX5_welcome_4 (by decide) ?_
  refine lv_icmp_lt (tgt := 12) hx hb dX5_welcome_6 (by decide) (fun c_1 => ?_) (fun c_1 => ?_)
  · have hF := zt c_1 hF
    refine lv_aload_n hx hb dX5_welcome_12 rfl (lv_at hl 0 rfl) ?_
    refine va_get (D := D) (ci := 3) (v := .ref (ad_r 1)) (C := RX5) (T := TX5) (N := 8) hx hb hts hin5 hown hK hP 0 rfl rfl 1 (by decide) (hts _ zm_372) (fun _ h9 => h9) rfl dX5_welcome_13 ?_
    refine lv_aload_n hx hb dX5_welcome_16 rfl (lv_at hl 0 rfl) ?_
    refine va_get (D := D) (ci := 3) (v := .int r_guests) (C := RX5) (T := TX5) (N := 8) hx hb hts hin5 hown hK hP 0 rfl rfl 0 (by decide) (hts _ zm_371) (fun _ h9 => h9) rfl dX5_welcome_17 ?_
    refine lv_iload_n hx hb dX5_welcome_20 rfl (lv_at hl 1 rfl) ?_
    obtain ⟨h_2, hF⟩ := zgi hF
    refine z_iast hx hb hK hP hD hS 1 0 rfl rfl h_2 dX5_welcome_21 (fun g => (wX5_r ca ad_r r_guests g r_figures r_minutes r_settings r_hooks r_letters r_letterCount)) (fun _ => rfl) hF (fun r_kinds_3 H locs hF hP hD hS => ?_)
    refine lv_aload_n hx hb dX5_welcome_22 rfl (lv_at hl 0 rfl) ?_
    refine va_get (D := D) (ci := 3) (v := .ref (ad_r 2)) (C := RX5) (T := TX5) (N := 8) hx hb hts hin5 hown hK hP 0 rfl rfl 2 (by decide) (hts _ zm_377) (fun _ h9 => h9) rfl dX5_welcome_23 ?_
    refine lv_aload_n hx hb dX5_welcome_26 rfl (lv_at hl 0 rfl) ?_
    refine va_get (D := D) (ci := 3) (v := .int r_guests) (C := RX5) (T := TX5) (N := 8) hx hb hts hin5 hown hK hP 0 rfl rfl 0 (by decide) (hts _ zm_371) (fun _ h9 => h9) rfl dX5_welcome_27 ?_
    refine lv_iload_n hx hb dX5_welcome_30 rfl (lv_at hl 2 rfl) ?_
    refine z_iast hx hb hK hP hD hS 2 0 rfl rfl h_2 dX5_welcome_31 (fun g => (wX5_r ca ad_r r_guests r_kinds_3 g r_minutes r_settings r_hooks r_letters r_letterCount)) (fun _ => rfl) hF (fun r_figures_4 H locs hF hP hD hS => ?_)
    refine lv_aload_n hx hb dX5_welcome_32 rfl (lv_at hl 0 rfl) ?_
    refine va_get (D := D) (ci := 3) (v := .ref (ad_r 3)) (C := RX5) (T := TX5) (N := 8) hx hb hts hin5 hown hK hP 0 rfl rfl 3 (by decide) (hts _ zm_378) (fun _ h9 => h9) rfl dX5_welcome_33 ?_
    refine lv_aload_n hx hb dX5_welcome_36 rfl (lv_at hl 0 rfl) ?_
    refine va_get (D := D) (ci := 3) (v := .int r_guests) (C := RX5) (T := TX5) (N := 8) hx hb hts hin5 hown hK hP 0 rfl rfl 0 (by decide) (hts _ zm_371) (fun _ h9 => h9) rfl dX5_welcome_37 ?_
    refine lv_iload_n hx hb dX5_welcome_40 rfl (lv_at hl 3 rfl) ?_
    refine z_iast hx hb hK hP hD hS 3 0 rfl rfl h_2 dX5_welcome_41 (fun g => (wX5_r ca ad_r r_guests r_kinds_3 r_figures_4 g r_settings r_hooks r_letters r_letterCount)) (fun _ => rfl) hF (fun r_minutes_5 H locs hF hP hD hS => ?_)
    refine lv_aload_n hx hb dX5_welcome_42 rfl (lv_at hl 0 rfl) ?_
    refine lv_dup hx hb dX5_welcome_43 rfl ?_
    refine va_get (D := D) (ci := 3) (v := .int r_guests) (C := RX5) (T := TX5) (N := 8) hx hb hts hin5 hown hK hP 0 rfl rfl 0 (by decide) (hts _ zm_371) (fun _ h9 => h9) rfl dX5_welcome_44 ?_
    refine lv_iconst (v := 1) hx hb dX5_welcome_47 (by decide) ?_
    refine lv_iadd hx hb dX5_welcome_48 ?_
    refine z_let hF (fun guests_6 hF => ?_)
    refine va_put (D := D) (ci := 3) (v := .int guests_6) (C := RX5) (T := TX5) (N := 8) hx hb hts hin5 tyX5 tyX5_ok nmX5 hown hK hP hD hS 0 rfl rfl 0 (by decide) (hts _ zm_371) (fun _ h9 => h9) rfl (tyX5_ok 0 (by decide)) rfl rfl (Nat.le_of_ble_eq_true rfl) dX5_welcome_49 (fun H locs hP hD hS => ?_)
    have hP : va_P D vwCl (wX5_r ca ad_r guests_6 r_kinds_3 r_figures_4 r_minutes_5 r_settings r_hooks r_letters r_letterCount) H := hP
    have hD : va_D A (wX5_r ca ad_r guests_6 r_kinds_3 r_figures_4 r_minutes_5 r_settings r_hooks r_letters r_letterCount) := hD
    refine lv_aload_n hx hb dX5_welcome_52 rfl (lv_at hl 0 rfl) ?_
    refine va_get (D := D) (ci := 3) (v := .int guests_6) (C := RX5) (T := TX5) (N := 8) hx hb hts hin5 hown hK hP 0 rfl rfl 0 (by decide) (hts _ zm_371) (fun _ h9 => h9) rfl dX5_welcome_53 ?_
    refine lv_iconst (v := 1) hx hb dX5_welcome_56 (by decide) ?_
    refine lv_isub hx hb dX5_welcome_57 ?_
    obtain rfl := Option.some.inj hF
    exact hret _ _ _ _ hP hD hS rfl dX5_welcome_58
  · have hF := zf c_1 hF
    refine lv_bipush (v := (-2)) hx hb dX5_welcome_9 (by decide) ?_
    obtain rfl := Option.some.inj hF
    exact hret _ _ _ _ hP hD hS rfl dX5_welcome_11
abbrev roX5_dismiss : Room := { frames := 0, cells := 0, slots := 0, locals := 0 }
set_option maxHeartbeats 4000000 in
set_option maxRecDepth 100000 in
theorem kX5_dismiss (l : Launch) (D : va_G) (ca : Nat → ClassId) (t : Nat → Nat) (ad_r : Nat → Nat) (r_guests : Int32) (r_kinds : Nat → Int32) (r_figures : Nat → Int32) (r_minutes : Nat → Int32) (r_settings : Nat → Int32) (r_hooks : Int32) (r_letters : Nat → Int32) (r_letterCount : Int32) (p1 : Int32) (fuel : Nat) (o : Int32 × (Nat → Int32) × (Nat → Int32) × (Nat → Int32) × Int32) (hF : fX5_dismiss fuel r_guests r_kinds r_figures r_minutes r_hooks p1 = some o) : zMv l D (zT ca) t yX5_dismiss (.code yX5_dismiss cX5_dismiss 4 none :: zW) roX5_dismiss [.ref (ad_r 0), .int p1] (wX5_r ca ad_r r_guests r_kinds r_figures r_minutes r_settings r_hooks r_letters r_letterCount) (wX5_r ca ad_r o.1 o.2.1 o.2.2.1 o.2.2.2.1 r_settings o.2.2.2.2 r_letters r_letterCount) := by
  refine zMv_of (cc := cX5_dismiss) (maxL := 4) (by decide) rfl (Nat.le_of_ble_eq_true rfl) ?_
  intro p e s m args below meth c A Q ls ⟨hx, hb, hml, hown, hts, hA, hK, hZ, hS⟩ hret hP hD hl
  have hts := fun w h => hts w (List.mem_cons_of_mem _ h)
  have hown : s.vm.findClass RX5 = some m.cls := hown
  have hl : lv_has ls 4 [(0, .ref (ad_r 0)), (1, .int p1)] := hl
  have hin5 := zin_X5
  have j60 : ∀ (r_guests : Int32) (r_kinds : Nat → Int32) (r_figures : Nat → Int32) (r_minutes : Nat → Int32) (r_hooks : Int32) (H : Heap) (locs : List Loc), fX5_dismiss_J60 p1 r_guests r_kinds r_figures r_minutes r_hooks = some o → va_P D vwCl (wX5_r ca ad_r r_guests r_kinds r_figures r_minutes r_settings r_hooks r_letters r_letterCount) H → va_D A (wX5_r ca ad_r r_guests r_kinds r_figures r_minutes r_settings r_hooks r_letters r_letterCount) → va_S A s.heap H locs → ∀ ls : Array Slot, lv_has ls 4 [(0, .ref (ad_r 0)), (1, .int p1)] → W p l e roX5_dismiss s m args below meth c H locs 0 0 Q (F0 m 60 ls []) := by
    intro r_guests r_kinds r_figures r_minutes r_hooks H locs hF hP hD hS ls hl
    unfold fX5_dismiss_J60 at hF
    refine lv_aload_n hx hb dX5_dismiss_60 rfl (lv_at hl 0 rfl) ?_
    refine va_get (D := D) (ci := 3) (v := .int r_hooks) (C := RX5) (T := TX5) (N := 8) hx hb hts hin5 hown hK hP 0 rfl rfl 5 (by decide) (hts _ zm_380) (fun _ h9 => h9) rfl dX5_dismiss_61 ?_
    refine lv_iconst (v := 1) hx hb dX5_dismiss_64 (by decide) ?_
    refine lv_iload_n hx hb dX5_dismiss_65 rfl (lv_at hl 1 rfl) ?_
    refine lv_ishl hx hb dX5_dismiss_66 ?_
    refine lv_iconst (v := 1) hx hb dX5_dismiss_67 (by decide) ?_
    refine lv_isub hx hb dX5_dismiss_68 ?_
    refine lv_iand hx hb dX5_dismiss_69 ?_
    refine z_let hF (fun x_8 hF => ?_)
    refine lv_istore_n (lv' := [(2, .int x_8), (0, .ref (ad_r 0)), (1, .int p1)]) hx hb dX5_dismiss_70 rfl hl (by decide) rfl (fun ls hl => ?_)
    refine lv_aload_n hx hb dX5_dismiss_71 rfl (lv_at hl 1 rfl) ?_
    refine va_get (D := D) (ci := 3) (v := .int r_hooks) (C := RX5) (T := TX5) (N := 8) hx hb hts hin5 hown hK hP 0 rfl rfl 5 (by decide) (hts _ zm_380) (fun _ h9 => h9) rfl dX5_dismiss_72 ?_
    refine lv_iload_n hx hb dX5_dismiss_75 rfl (lv_at hl 2 rfl) ?_
    refine lv_iconst (v := 1) hx hb dX5_dismiss_76 (by decide) ?_
    refine lv_iadd hx hb dX5_dismiss_77 ?_
    refine lv_ishr hx hb dX5_dismiss_78 ?_
    refine lv_iload_n hx hb dX5_dismiss_79 rfl (lv_at hl 2 rfl) ?_
    refine lv_ishl hx hb dX5_dismiss_80 ?_
    refine z_let hF (fun x_9 hF => ?_)
    refine lv_istore_n (lv' := [(3, .int x_9), (2, .int x_8), (0, .ref (ad_r 0)), (1, .int p1)]) hx hb dX5_dismiss_81 rfl hl (by decide) rfl (fun ls hl => ?_)
    refine lv_aload_n hx hb dX5_dismiss_82 rfl (lv_at hl 2 rfl) ?_
    refine lv_iload_n hx hb dX5_dismiss_83 rfl (lv_at hl 1 rfl) ?_
    refine lv_iload_n hx hb dX5_dismiss_84 rfl (lv_at hl 0 rfl) ?_
    refine lv_ior hx hb dX5_dismiss_85 ?_
    refine z_let hF (fun hooks_10 hF => ?_)
    refine va_put (D := D) (ci := 3) (v := .int hooks_10) (C := RX5) (T := TX5) (N := 8) hx hb hts hin5 tyX5 tyX5_ok nmX5 hown hK hP hD hS 0 rfl rfl 5 (by decide) (hts _ zm_380) (fun _ h9 => h9) rfl (tyX5_ok 5 (by decide)) rfl rfl (Nat.le_of_ble_eq_true rfl) dX5_dismiss_86 (fun H locs hP hD hS => ?_)
    have hP : va_P D vwCl (wX5_r ca ad_r r_guests r_kinds r_figures r_minutes r_settings hooks_10 r_letters r_letterCount) H := hP
    have hD : va_D A (wX5_r ca ad_r r_guests r_kinds r_figures r_minutes r_settings hooks_10 r_letters r_letterCount) := hD
    refine lv_aload_n hx hb dX5_dismiss_89 rfl (lv_at hl 2 rfl) ?_
    refine lv_dup hx hb dX5_dismiss_90 rfl ?_
    refine va_get (D := D) (ci := 3) (v := .int r_guests) (C := RX5) (T := TX5) (N := 8) hx hb hts hin5 hown hK hP 0 rfl rfl 0 (by decide) (hts _ zm_371) (fun _ h9 => h9) rfl dX5_dismiss_91 ?_
    refine lv_iconst (v := 1) hx hb dX5_dismiss_94 (by decide) ?_
    refine lv_isub hx hb dX5_dismiss_95 ?_
    refine z_let hF (fun guests_11 hF => ?_)
    refine va_put (D := D) (ci := 3) (v := .int guests_11) (C := RX5) (T := TX5) (N := 8) hx hb hts hin5 tyX5 tyX5_ok nmX5 hown hK hP hD hS 0 rfl rfl 0 (by decide) (hts _ zm_371) (fun _ h9 => h9) rfl (tyX5_ok 0 (by decide)) rfl rfl (Nat.le_of_ble_eq_true rfl) dX5_dismiss_96 (fun H locs hP hD hS => ?_)
    have hP : va_P D vwCl (wX5_r ca ad_r guests_11 r_kinds r_figures r_minutes r_settings hooks_10 r_letters r_letterCount) H := hP
    have hD : va_D A (wX5_r ca ad_r guests_11 r_kinds r_figures r_minutes r_settings hooks_10 r_letters r_letterCount) := hD
    obtain rfl := Option.some.inj hF
    exact hret _ _ _ _ hP hD hS dX5_dismiss_99
  have l2 : ∀ (n2 : Nat) (v2 : Int32) (r_guests : Int32) (r_kinds : Nat → Int32) (r_figures : Nat → Int32) (r_minutes : Nat → Int32) (r_hooks : Int32) (H : Heap) (locs : List Loc), fX5_dismiss_L2 p1 n2 v2 r_guests r_kinds r_figures r_minutes r_hooks = some o → va_P D vwCl (wX5_r ca ad_r r_guests r_kinds r_figures r_minutes r_settings r_hooks r_letters r_letterCount) H → va_D A (wX5_r ca ad_r r_guests r_kinds r_figures r_minutes r_settings r_hooks r_letters r_letterCount) → va_S A s.heap H locs → ∀ ls : Array Slot, lv_has ls 4 [(0, .ref (ad_r 0)), (1, .int p1), (2, .int v2)] → W p l e roX5_dismiss s m args below meth c H locs 0 0 Q (F0 m 2 ls []) := by
    intro n2
    induction n2 with
    | zero =>
      intro v2 r_guests r_kinds r_figures r_minutes r_hooks H locs hF
      rw [fX5_dismiss_L2] at hF
      cases hF
    | succ n2 ih2 =>
      intro v2 r_guests r_kinds r_figures r_minutes r_hooks H locs hF hP hD hS ls hl
      rw [fX5_dismiss_L2] at hF
      refine lv_iload_n hx hb dX5_dismiss_2 rfl (lv_at hl 2 rfl) ?_
      refine lv_iconst (v := 1) hx hb dX5_dismiss_3 (by decide) ?_
      refine lv_iadd hx hb dX5_dismiss_4 ?_
      refine lv_aload_n hx hb dX5_dismiss_5 rfl (lv_at hl 0 rfl) ?_
      refine va_get (D := D) (ci := 3) (v := .int r_guests) (C := RX5) (T := TX5) (N := 8) hx hb hts hin5 hown hK hP 0 rfl rfl 0 (by decide) (hts _ zm_371) (fun _ h9 => h9) rfl dX5_dismiss_6 ?_
      refine lv_icmp_ge (tgt := 60) hx hb dX5_dismiss_9 (by decide) (fun c_1 => ?_) (fun c_1 => ?_)
      · have hF := zt c_1 hF
        exact j60 r_guests r_kinds r_figures r_minutes r_hooks _ _ hF hP hD hS ls (lv_sub hl [0, 1] rfl)
      · have hF := zf c_1 hF
        refine lv_aload_n hx hb dX5_dismiss_12 rfl (lv_at hl 0 rfl) ?_
        refine va_get (D := D) (ci := 3) (v := .ref (ad_r 1)) (C := RX5) (T := TX5) (N := 8) hx hb hts hin5 hown hK hP 0 rfl rfl 1 (by decide) (hts _ zm_372) (fun _ h9 => h9) rfl dX5_dismiss_13 ?_
        refine lv_iload_n hx hb dX5_dismiss_16 rfl (lv_at hl 2 rfl) ?_
        refine lv_aload_n hx hb dX5_dismiss_17 rfl (lv_at hl 0 rfl) ?_
        refine va_get (D := D) (ci := 3) (v := .ref (ad_r 1)) (C := RX5) (T := TX5) (N := 8) hx hb hts hin5 hown hK hP 0 rfl rfl 1 (by decide) (hts _ zm_372) (fun _ h9 => h9) rfl dX5_dismiss_18 ?_
        refine lv_iload_n hx hb dX5_dismiss_21 rfl (lv_at hl 2 rfl) ?_
        refine lv_iconst (v := 1) hx hb dX5_dismiss_22 (by decide) ?_
        refine lv_iadd hx hb dX5_dismiss_23 ?_
        obtain ⟨h_2, hF⟩ := zgi hF
        refine va_iald hx hb hK hP 1 0 rfl rfl h_2 dX5_dismiss_24 ?_
        obtain ⟨h_3, hF⟩ := zgi hF
        refine z_iast hx hb hK hP hD hS 1 0 rfl rfl h_3 dX5_dismiss_25 (fun g => (wX5_r ca ad_r r_guests g r_figures r_minutes r_settings r_hooks r_letters r_letterCount)) (fun _ => rfl) hF (fun r_kinds_4 H locs hF hP hD hS => ?_)
        refine lv_aload_n hx hb dX5_dismiss_26 rfl (lv_at hl 0 rfl) ?_
        refine va_get (D := D) (ci := 3) (v := .ref (ad_r 2)) (C := RX5) (T := TX5) (N := 8) hx hb hts hin5 hown hK hP 0 rfl rfl 2 (by decide) (hts _ zm_377) (fun _ h9 => h9) rfl dX5_dismiss_27 ?_
        refine lv_iload_n hx hb dX5_dismiss_30 rfl (lv_at hl 2 rfl) ?_
        refine lv_aload_n hx hb dX5_dismiss_31 rfl (lv_at hl 0 rfl) ?_
        refine va_get (D := D) (ci := 3) (v := .ref (ad_r 2)) (C := RX5) (T := TX5) (N := 8) hx hb hts hin5 hown hK hP 0 rfl rfl 2 (by decide) (hts _ zm_377) (fun _ h9 => h9) rfl dX5_dismiss_32 ?_
        refine lv_iload_n hx hb dX5_dismiss_35 rfl (lv_at hl 2 rfl) ?_
        refine lv_iconst (v := 1) hx hb dX5_dismiss_36 (by decide) ?_
        refine lv_iadd hx hb dX5_dismiss_37 ?_
        refine va_iald hx hb hK hP 2 0 rfl rfl h_2 dX5_dismiss_38 ?_
        refine z_iast hx hb hK hP hD hS 2 0 rfl rfl h_3 dX5_dismiss_39 (fun g => (wX5_r ca ad_r r_guests r_kinds_4 g r_minutes r_settings r_hooks r_letters r_letterCount)) (fun _ => rfl) hF (fun r_figures_5 H locs hF hP hD hS => ?_)
        refine lv_aload_n hx hb dX5_dismiss_40 rfl (lv_at hl 0 rfl) ?_
        refine va_get (D := D) (ci := 3) (v := .ref (ad_r 3)) (C := RX5) (T := TX5) (N := 8) hx hb hts hin5 hown hK hP 0 rfl rfl 3 (by decide) (hts _ zm_378) (fun _ h9 => h9) rfl dX5_dismiss_41 ?_
        refine lv_iload_n hx hb dX5_dismiss_44 rfl (lv_at hl 2 rfl) ?_
        refine lv_aload_n hx hb dX5_dismiss_45 rfl (lv_at hl 0 rfl) ?_
        refine va_get (D := D) (ci := 3) (v := .ref (ad_r 3)) (C := RX5) (T := TX5) (N := 8) hx hb hts hin5 hown hK hP 0 rfl rfl 3 (by decide) (hts _ zm_378) (fun _ h9 => h9) rfl dX5_dismiss_46 ?_
        refine lv_iload_n hx hb dX5_dismiss_49 rfl (lv_at hl 2 rfl) ?_
        refine lv_iconst (v := 1) hx hb dX5_dismiss_50 (by decide) ?_
        refine lv_iadd hx hb dX5_dismiss_51 ?_
        refine va_iald hx hb hK hP 3 0 rfl rfl h_2 dX5_dismiss_52 ?_
        refine z_iast hx hb hK hP hD hS 3 0 rfl rfl h_3 dX5_dismiss_53 (fun g => (wX5_r ca ad_r r_guests r_kinds_4 r_figures_5 g r_settings r_hooks r_letters r_letterCount)) (fun _ => rfl) hF (fun r_minutes_6 H locs hF hP hD hS => ?_)
        refine z_iinc (kv := 1) hx hb 2 dX5_dismiss_54 hl rfl (by decide) (by decide) (fun g => [(2, .int g), (0, .ref (ad_r 0)), (1, .int p1)]) (fun _ => rfl) hF (fun v2_7 ls hF hl => ?_)
        refine lv_goto (tgt := 2) hx hb dX5_dismiss_57 (by decide) ?_
        exact ih2 v2_7 r_guests r_kinds_4 r_figures_5 r_minutes_6 r_hooks _ _ hF hP hD hS ls (lv_sub hl [1, 2, 0] rfl)
  unfold fX5_dismiss at hF
  refine lv_iload_n hx hb dX5_dismiss_0 rfl (lv_at hl 1 rfl) ?_
  refine lv_istore_n (lv' := [(2, .int p1), (0, .ref (ad_r 0)), (1, .int p1)]) hx hb dX5_dismiss_1 rfl hl (by decide) rfl (fun ls hl => ?_)
  exact l2 fuel p1 r_guests r_kinds r_figures r_minutes r_hooks _ _ hF hP hD hS ls (lv_sub hl [1, 2, 0] rfl)
abbrev roX5_hasHook : Room := { frames := 0, cells := 0, slots := 0, locals := 0 }
set_option maxHeartbeats 4000000 in
set_option maxRecDepth 100000 in
theorem kX5_hasHook (l : Launch) (D : va_G) (ca : Nat → ClassId) (t : Nat → Nat) (ad_r : Nat → Nat) (r_guests : Int32) (r_kinds : Nat → Int32) (r_figures : Nat → Int32) (r_minutes : Nat → Int32) (r_settings : Nat → Int32) (r_hooks : Int32) (r_letters : Nat → Int32) (r_letterCount : Int32) (p1 : Int32) (fuel : Nat) (o : Int32) (hF : fX5_hasHook fuel r_hooks p1 = some o) : zRi l D (zT ca) t yX5_hasHook (.code yX5_hasHook cX5_hasHook 2 (some .boolean) :: zW) roX5_hasHook [.ref (ad_r 0), .int p1] (wX5_r ca ad_r r_guests r_kinds r_figures r_minutes r_settings r_hooks r_letters r_letterCount) o := by
  refine zRi_of (cc := cX5_hasHook) (maxL := 2) (by decide) rfl (Nat.le_of_ble_eq_true rfl) ?_
  intro p e s m args below meth c A Q ls ⟨hx, hb, hml, hown, hts, hA, hK, hZ, hS⟩ hret hP hD hl
  have hts := fun w h => hts w (List.mem_cons_of_mem _ h)
  have hown : s.vm.findClass RX5 = some m.cls := hown
  have hl : lv_has ls 2 [(0, .ref (ad_r 0)), (1, .int p1)] := hl
  have hin5 := zin_X5
  unfold fX5_hasHook at hF
  refine lv_aload_n hx hb dX5_hasHook_0 rfl (lv_at hl 0 rfl) ?_
  refine va_get (D := D) (ci := 3) (v := .int r_hooks) (C := RX5) (T := TX5) (N := 8) hx hb hts hin5 hown hK hP 0 rfl rfl 5 (by decide) (hts _ zm_380) (fun _ h9 => h9) rfl dX5_hasHook_1 ?_
  refine lv_iload_n hx hb dX5_hasHook_4 rfl (lv_at hl 1 rfl) ?_
  refine lv_ishr hx hb dX5_hasHook_5 ?_
  refine lv_iconst (v := 1) hx hb dX5_hasHook_6 (by decide) ?_
  refine lv_iand hx hb dX5_hasHook_7 ?_
  refine lv_iconst (v := 1) hx hb dX5_hasHook_8 (by decide) ?_
  refine lv_icmp_ne (tgt := 16) hx hb dX5_hasHook_9 (by decide) (fun c_1 => ?_) (fun c_1 => ?_)
  · have hF := zf c_1 hF
    refine lv_iconst (v := 0) hx hb dX5_hasHook_16 (by decide) ?_
    obtain rfl := Option.some.inj hF
    exact hret _ _ (zbool (Or.inl rfl)) dX5_hasHook_17
  · have hF := zt c_1 hF
    refine lv_iconst (v := 1) hx hb dX5_hasHook_12 (by decide) ?_
    refine lv_goto (tgt := 17) hx hb dX5_hasHook_13 (by decide) ?_
    obtain rfl := Option.some.inj hF
    exact hret _ _ (zbool (Or.inr rfl)) dX5_hasHook_17
theorem zds_J6_bitCount_0f7a4 : yJ6_bitCount_0f7a4.cls ≠ "java/lang/invoke/MethodHandle" ∧ yJ6_bitCount_0f7a4.cls ≠ "java/lang/invoke/VarHandle" ∧ (parseMethodDescriptor yJ6_bitCount_0f7a4.desc).map (fun d => d.parameters.length) = some 1 := by decide +kernel
theorem zdv_X5_hasHook : yX5_hasHook.cls = RX5 ∧ yX5_hasHook.cls ≠ "java/lang/invoke/MethodHandle" ∧ yX5_hasHook.cls ≠ "java/lang/invoke/VarHandle" ∧ (parseMethodDescriptor yX5_hasHook.desc).map (fun d => d.parameters.length) = some 1 := by decide +kernel
abbrev roX5_toggleHook : Room := { frames := 1, cells := 0, slots := 0, locals := 21 }
set_option maxHeartbeats 4000000 in
set_option maxRecDepth 100000 in
theorem kX5_toggleHook (l : Launch) (D : va_G) (ca : Nat → ClassId) (t : Nat → Nat) (ad_r : Nat → Nat) (r_guests : Int32) (r_kinds : Nat → Int32) (r_figures : Nat → Int32) (r_minutes : Nat → Int32) (r_settings : Nat → Int32) (r_hooks : Int32) (r_letters : Nat → Int32) (r_letterCount : Int32) (p1 : Int32) (fuel : Nat) (o : Int32 × Int32) (hF : fX5_toggleHook fuel r_hooks p1 = some o) : zMi l D (zT ca) t yX5_toggleHook (.code yX5_toggleHook cX5_toggleHook 2 (some .int) :: zW) roX5_toggleHook [.ref (ad_r 0), .int p1] (wX5_r ca ad_r r_guests r_kinds r_figures r_minutes r_settings r_hooks r_letters r_letterCount) (wX5_r ca ad_r r_guests r_kinds r_figures r_minutes r_settings o.2 r_letters r_letterCount) o.1 := by
  refine zMi_of (cc := cX5_toggleHook) (maxL := 2) (by decide) rfl (Nat.le_of_ble_eq_true rfl) ?_
  intro p e s m args below meth c A Q ls ⟨hx, hb, hml, hown, hts, hA, hK, hZ, hS⟩ hret hP hD hl
  have hts := fun w h => hts w (List.mem_cons_of_mem _ h)
  have hown : s.vm.findClass RX5 = some m.cls := hown
  have hl : lv_has ls 2 [(0, .ref (ad_r 0)), (1, .int p1)] := hl
  have hin5 := zin_X5
  have j22 : ∀ (r_hooks : Int32) (H : Heap) (locs : List Loc), fX5_toggleHook_J22 fuel p1 r_hooks = some o → va_P D vwCl (wX5_r ca ad_r r_guests r_kinds r_figures r_minutes r_settings r_hooks r_letters r_letterCount) H → va_D A (wX5_r ca ad_r r_guests r_kinds r_figures r_minutes r_settings r_hooks r_letters r_letterCount) → va_S A s.heap H locs → ∀ ls : Array Slot, lv_has ls 2 [(0, .ref (ad_r 0)), (1, .int p1)] → W p l e roX5_toggleHook s m args below meth c H locs 0 0 Q (F0 m 22 ls []) := by
    intro r_hooks H locs hF hP hD hS ls hl
    unfold fX5_toggleHook_J22 at hF
    refine lv_aload_n hx hb dX5_toggleHook_22 rfl (lv_at hl 0 rfl) ?_
    refine lv_dup hx hb dX5_toggleHook_23 rfl ?_
    refine va_get (D := D) (ci := 3) (v := .int r_hooks) (C := RX5) (T := TX5) (N := 8) hx hb hts hin5 hown hK hP 0 rfl rfl 5 (by decide) (hts _ zm_380) (fun _ h9 => h9) rfl dX5_toggleHook_24 ?_
    refine lv_iconst (v := 1) hx hb dX5_toggleHook_27 (by decide) ?_
    refine lv_iload_n hx hb dX5_toggleHook_28 rfl (lv_at hl 1 rfl) ?_
    refine lv_ishl hx hb dX5_toggleHook_29 ?_
    refine lv_ixor hx hb dX5_toggleHook_30 ?_
    refine z_let hF (fun hooks_5 hF => ?_)
    refine va_put (D := D) (ci := 3) (v := .int hooks_5) (C := RX5) (T := TX5) (N := 8) hx hb hts hin5 tyX5 tyX5_ok nmX5 hown hK hP hD hS 0 rfl rfl 5 (by decide) (hts _ zm_380) (fun _ h9 => h9) rfl (tyX5_ok 5 (by decide)) rfl rfl (Nat.le_of_ble_eq_true rfl) dX5_toggleHook_31 (fun H locs hP hD hS => ?_)
    have hP : va_P D vwCl (wX5_r ca ad_r r_guests r_kinds r_figures r_minutes r_settings hooks_5 r_letters r_letterCount) H := hP
    have hD : va_D A (wX5_r ca ad_r r_guests r_kinds r_figures r_minutes r_settings hooks_5 r_letters r_letterCount) := hD
    refine lv_aload_n hx hb dX5_toggleHook_34 rfl (lv_at hl 0 rfl) ?_
    refine lv_iload_n hx hb dX5_toggleHook_35 rfl (lv_at hl 1 rfl) ?_
    obtain ⟨o_6, hc_6, hF⟩ := zb hF
    refine zcVR (rest := []) (kX5_hasHook l D ca t ad_r r_guests r_kinds r_figures r_minutes r_settings hooks_5 r_letters r_letterCount p1 fuel _ hc_6) ⟨hx, hb, hml, hown, hts⟩ (zcwV hts zm_384 zm_385 zm_386 zm_387 zm_383 rfl rfl zdv_X5_hasHook ⟨Nat.le_of_ble_eq_true rfl, Nat.le_of_ble_eq_true rfl⟩) hA hK hZ hP hD hS [0, 1, 2, 3, 4, 5] rfl rfl 3 0 rfl rfl rfl hl.1 (Nat.le_of_ble_eq_true rfl) dX5_toggleHook_36 rfl ?_
    refine lv_if_eq (tgt := 46) hx hb dX5_toggleHook_39 (by decide) (fun c_7 => ?_) (fun c_7 => ?_)
    · have hF := zt c_7 hF
      refine lv_iconst (v := 0) hx hb dX5_toggleHook_46 (by decide) ?_
      obtain rfl := Option.some.inj hF
      exact hret _ _ _ _ hP hD hS rfl dX5_toggleHook_47
    · have hF := zf c_7 hF
      refine lv_iconst (v := 1) hx hb dX5_toggleHook_42 (by decide) ?_
      refine lv_goto (tgt := 47) hx hb dX5_toggleHook_43 (by decide) ?_
      obtain rfl := Option.some.inj hF
      exact hret _ _ _ _ hP hD hS rfl dX5_toggleHook_47
  unfold fX5_toggleHook at hF
  refine lv_aload_n hx hb dX5_toggleHook_0 rfl (lv_at hl 0 rfl) ?_
  refine lv_iload_n hx hb dX5_toggleHook_1 rfl (lv_at hl 1 rfl) ?_
  obtain ⟨o_1, hc_1, hF⟩ := zb hF
  refine zcVR (rest := []) (kX5_hasHook l D ca t ad_r r_guests r_kinds r_figures r_minutes r_settings r_hooks r_letters r_letterCount p1 fuel _ hc_1) ⟨hx, hb, hml, hown, hts⟩ (zcwV hts zm_384 zm_385 zm_386 zm_387 zm_383 rfl rfl zdv_X5_hasHook ⟨Nat.le_of_ble_eq_true rfl, Nat.le_of_ble_eq_true rfl⟩) hA hK hZ hP hD hS [0, 1, 2, 3, 4, 5] rfl rfl 3 0 rfl rfl rfl hl.1 (Nat.le_of_ble_eq_true rfl) dX5_toggleHook_2 rfl ?_
  refine lv_if_ne (tgt := 22) hx hb dX5_toggleHook_5 (by decide) (fun c_2 => ?_) (fun c_2 => ?_)
  · have hF := zf c_2 hF
    exact j22 r_hooks _ _ hF hP hD hS ls (lv_sub hl [0, 1] rfl)
  · have hF := zt c_2 hF
    refine lv_aload_n hx hb dX5_toggleHook_8 rfl (lv_at hl 0 rfl) ?_
    refine va_get (D := D) (ci := 3) (v := .int r_hooks) (C := RX5) (T := TX5) (N := 8) hx hb hts hin5 hown hK hP 0 rfl rfl 5 (by decide) (hts _ zm_380) (fun _ h9 => h9) rfl dX5_toggleHook_9 ?_
    obtain ⟨o_3, hc_3, hF⟩ := zb hF
    refine zcSR (rest := []) (kJ6_bitCount_0f7a4 l D ca t r_hooks fuel _ hc_3) ⟨hx, hb, hml, hown, hts⟩ (zcwS hts zm_391 zm_389 zm_390 zm_388 rfl rfl zds_J6_bitCount_0f7a4 ⟨Nat.le_of_ble_eq_true rfl, Nat.le_of_ble_eq_true rfl⟩) hA hK hZ hP hD hS [] rfl rfl rfl hl.1 (Nat.le_of_ble_eq_true rfl) dX5_toggleHook_12 rfl ?_
    refine lv_iconst (v := 3) hx hb dX5_toggleHook_15 (by decide) ?_
    refine lv_icmp_lt (tgt := 22) hx hb dX5_toggleHook_16 (by decide) (fun c_4 => ?_) (fun c_4 => ?_)
    · have hF := zt c_4 hF
      exact j22 r_hooks _ _ hF hP hD hS ls (lv_sub hl [0, 1] rfl)
    · have hF := zf c_4 hF
      refine lv_bipush (v := (-2)) hx hb dX5_toggleHook_19 (by decide) ?_
      obtain rfl := Option.some.inj hF
      exact hret _ _ _ _ hP hD hS rfl dX5_toggleHook_21
theorem zds_X1_minute : yX1_minute.cls ≠ "java/lang/invoke/MethodHandle" ∧ yX1_minute.cls ≠ "java/lang/invoke/VarHandle" ∧ (parseMethodDescriptor yX1_minute.desc).map (fun d => d.parameters.length) = some 3 := by decide +kernel
abbrev roX5_goingMinute : Room := { frames := 2, cells := 0, slots := 0, locals := 46 }
set_option maxHeartbeats 4000000 in
set_option maxRecDepth 100000 in
theorem kX5_goingMinute (l : Launch) (D : va_G) (ca : Nat → ClassId) (t : Nat → Nat) (ad_r : Nat → Nat) (r_guests : Int32) (r_kinds : Nat → Int32) (r_figures : Nat → Int32) (r_minutes : Nat → Int32) (r_settings : Nat → Int32) (r_hooks : Int32) (r_letters : Nat → Int32) (r_letterCount : Int32) (p1 : Int32) (fuel : Nat) (o : Int32) (hF : fX5_goingMinute fuel r_kinds r_figures r_minutes p1 = some o) : zRi l D (zT ca) t yX5_goingMinute (.code yX5_goingMinute cX5_goingMinute 2 (some .int) :: zW) roX5_goingMinute [.ref (ad_r 0), .int p1] (wX5_r ca ad_r r_guests r_kinds r_figures r_minutes r_settings r_hooks r_letters r_letterCount) o := by
  refine zRi_of (cc := cX5_goingMinute) (maxL := 2) (by decide) rfl (Nat.le_of_ble_eq_true rfl) ?_
  intro p e s m args below meth c A Q ls ⟨hx, hb, hml, hown, hts, hA, hK, hZ, hS⟩ hret hP hD hl
  have hts := fun w h => hts w (List.mem_cons_of_mem _ h)
  have hown : s.vm.findClass RX5 = some m.cls := hown
  have hl : lv_has ls 2 [(0, .ref (ad_r 0)), (1, .int p1)] := hl
  have hin5 := zin_X5
  unfold fX5_goingMinute at hF
  refine lv_aload_n hx hb dX5_goingMinute_0 rfl (lv_at hl 0 rfl) ?_
  refine va_get (D := D) (ci := 3) (v := .ref (ad_r 1)) (C := RX5) (T := TX5) (N := 8) hx hb hts hin5 hown hK hP 0 rfl rfl 1 (by decide) (hts _ zm_372) (fun _ h9 => h9) rfl dX5_goingMinute_1 ?_
  refine lv_iload_n hx hb dX5_goingMinute_4 rfl (lv_at hl 1 rfl) ?_
  obtain ⟨h_1, hF⟩ := zgi hF
  refine va_iald hx hb hK hP 1 0 rfl rfl h_1 dX5_goingMinute_5 ?_
  refine lv_aload_n hx hb dX5_goingMinute_6 rfl (lv_at hl 0 rfl) ?_
  refine va_get (D := D) (ci := 3) (v := .ref (ad_r 2)) (C := RX5) (T := TX5) (N := 8) hx hb hts hin5 hown hK hP 0 rfl rfl 2 (by decide) (hts _ zm_377) (fun _ h9 => h9) rfl dX5_goingMinute_7 ?_
  refine lv_iload_n hx hb dX5_goingMinute_10 rfl (lv_at hl 1 rfl) ?_
  refine va_iald hx hb hK hP 2 0 rfl rfl h_1 dX5_goingMinute_11 ?_
  refine lv_aload_n hx hb dX5_goingMinute_12 rfl (lv_at hl 0 rfl) ?_
  refine va_get (D := D) (ci := 3) (v := .ref (ad_r 3)) (C := RX5) (T := TX5) (N := 8) hx hb hts hin5 hown hK hP 0 rfl rfl 3 (by decide) (hts _ zm_378) (fun _ h9 => h9) rfl dX5_goingMinute_13 ?_
  refine lv_iload_n hx hb dX5_goingMinute_16 rfl (lv_at hl 1 rfl) ?_
  refine va_iald hx hb hK hP 3 0 rfl rfl h_1 dX5_goingMinute_17 ?_
  obtain ⟨o_2, hc_2, hF⟩ := zb hF
  refine zcSR (rest := []) (kX1_minute l D ca t (r_kinds p1.toNatClampNeg) (r_figures p1.toNatClampNeg) (r_minutes p1.toNatClampNeg) fuel _ hc_2) ⟨hx, hb, hml, hown, hts⟩ (zcwS hts zm_395 zm_393 zm_394 zm_392 rfl rfl zds_X1_minute ⟨Nat.le_of_ble_eq_true rfl, Nat.le_of_ble_eq_true rfl⟩) hA hK hZ hP hD hS [] rfl rfl rfl hl.1 (Nat.le_of_ble_eq_true rfl) dX5_goingMinute_18 rfl ?_
  obtain rfl := Option.some.inj hF
  exact hret _ _ rfl dX5_goingMinute_21
theorem zds_X1_weight : yX1_weight.cls ≠ "java/lang/invoke/MethodHandle" ∧ yX1_weight.cls ≠ "java/lang/invoke/VarHandle" ∧ (parseMethodDescriptor yX1_weight.desc).map (fun d => d.parameters.length) = some 2 := by decide +kernel
abbrev roX5_weightOf : Room := { frames := 1, cells := 0, slots := 0, locals := 22 }
set_option maxHeartbeats 4000000 in
set_option maxRecDepth 100000 in
theorem kX5_weightOf (l : Launch) (D : va_G) (ca : Nat → ClassId) (t : Nat → Nat) (ad_r : Nat → Nat) (r_guests : Int32) (r_kinds : Nat → Int32) (r_figures : Nat → Int32) (r_minutes : Nat → Int32) (r_settings : Nat → Int32) (r_hooks : Int32) (r_letters : Nat → Int32) (r_letterCount : Int32) (p1 : Int32) (fuel : Nat) (o : Int32) (hF : fX5_weightOf fuel r_kinds r_figures p1 = some o) : zRi l D (zT ca) t yX5_weightOf (.code yX5_weightOf cX5_weightOf 2 (some .int) :: zW) roX5_weightOf [.ref (ad_r 0), .int p1] (wX5_r ca ad_r r_guests r_kinds r_figures r_minutes r_settings r_hooks r_letters r_letterCount) o := by
  refine zRi_of (cc := cX5_weightOf) (maxL := 2) (by decide) rfl (Nat.le_of_ble_eq_true rfl) ?_
  intro p e s m args below meth c A Q ls ⟨hx, hb, hml, hown, hts, hA, hK, hZ, hS⟩ hret hP hD hl
  have hts := fun w h => hts w (List.mem_cons_of_mem _ h)
  have hown : s.vm.findClass RX5 = some m.cls := hown
  have hl : lv_has ls 2 [(0, .ref (ad_r 0)), (1, .int p1)] := hl
  have hin5 := zin_X5
  unfold fX5_weightOf at hF
  refine lv_aload_n hx hb dX5_weightOf_0 rfl (lv_at hl 0 rfl) ?_
  refine va_get (D := D) (ci := 3) (v := .ref (ad_r 1)) (C := RX5) (T := TX5) (N := 8) hx hb hts hin5 hown hK hP 0 rfl rfl 1 (by decide) (hts _ zm_372) (fun _ h9 => h9) rfl dX5_weightOf_1 ?_
  refine lv_iload_n hx hb dX5_weightOf_4 rfl (lv_at hl 1 rfl) ?_
  obtain ⟨h_1, hF⟩ := zgi hF
  refine va_iald hx hb hK hP 1 0 rfl rfl h_1 dX5_weightOf_5 ?_
  refine lv_aload_n hx hb dX5_weightOf_6 rfl (lv_at hl 0 rfl) ?_
  refine va_get (D := D) (ci := 3) (v := .ref (ad_r 2)) (C := RX5) (T := TX5) (N := 8) hx hb hts hin5 hown hK hP 0 rfl rfl 2 (by decide) (hts _ zm_377) (fun _ h9 => h9) rfl dX5_weightOf_7 ?_
  refine lv_iload_n hx hb dX5_weightOf_10 rfl (lv_at hl 1 rfl) ?_
  refine va_iald hx hb hK hP 2 0 rfl rfl h_1 dX5_weightOf_11 ?_
  obtain ⟨o_2, hc_2, hF⟩ := zb hF
  refine zcSR (rest := []) (kX1_weight l D ca t (r_kinds p1.toNatClampNeg) (r_figures p1.toNatClampNeg) fuel _ hc_2) ⟨hx, hb, hml, hown, hts⟩ (zcwS hts zm_398 zm_397 zm_394 zm_396 rfl rfl zds_X1_weight ⟨Nat.le_of_ble_eq_true rfl, Nat.le_of_ble_eq_true rfl⟩) hA hK hZ hP hD hS [] rfl rfl rfl hl.1 (Nat.le_of_ble_eq_true rfl) dX5_weightOf_12 rfl ?_
  obtain rfl := Option.some.inj hF
  exact hret _ _ rfl dX5_weightOf_15
theorem zds_X1_spare : yX1_spare.cls ≠ "java/lang/invoke/MethodHandle" ∧ yX1_spare.cls ≠ "java/lang/invoke/VarHandle" ∧ (parseMethodDescriptor yX1_spare.desc).map (fun d => d.parameters.length) = some 2 := by decide +kernel
abbrev roX5_spareOf : Room := { frames := 1, cells := 0, slots := 0, locals := 21 }
set_option maxHeartbeats 4000000 in
set_option maxRecDepth 100000 in
theorem kX5_spareOf (l : Launch) (D : va_G) (ca : Nat → ClassId) (t : Nat → Nat) (ad_r : Nat → Nat) (r_guests : Int32) (r_kinds : Nat → Int32) (r_figures : Nat → Int32) (r_minutes : Nat → Int32) (r_settings : Nat → Int32) (r_hooks : Int32) (r_letters : Nat → Int32) (r_letterCount : Int32) (p1 : Int32) (fuel : Nat) (o : Int32) (hF : fX5_spareOf fuel r_kinds r_figures p1 = some o) : zRi l D (zT ca) t yX5_spareOf (.code yX5_spareOf cX5_spareOf 2 (some .int) :: zW) roX5_spareOf [.ref (ad_r 0), .int p1] (wX5_r ca ad_r r_guests r_kinds r_figures r_minutes r_settings r_hooks r_letters r_letterCount) o := by
  refine zRi_of (cc := cX5_spareOf) (maxL := 2) (by decide) rfl (Nat.le_of_ble_eq_true rfl) ?_
  intro p e s m args below meth c A Q ls ⟨hx, hb, hml, hown, hts, hA, hK, hZ, hS⟩ hret hP hD hl
  have hts := fun w h => hts w (List.mem_cons_of_mem _ h)
  have hown : s.vm.findClass RX5 = some m.cls := hown
  have hl : lv_has ls 2 [(0, .ref (ad_r 0)), (1, .int p1)] := hl
  have hin5 := zin_X5
  unfold fX5_spareOf at hF
  refine lv_aload_n hx hb dX5_spareOf_0 rfl (lv_at hl 0 rfl) ?_
  refine va_get (D := D) (ci := 3) (v := .ref (ad_r 1)) (C := RX5) (T := TX5) (N := 8) hx hb hts hin5 hown hK hP 0 rfl rfl 1 (by decide) (hts _ zm_372) (fun _ h9 => h9) rfl dX5_spareOf_1 ?_
  refine lv_iload_n hx hb dX5_spareOf_4 rfl (lv_at hl 1 rfl) ?_
  obtain ⟨h_1, hF⟩ := zgi hF
  refine va_iald hx hb hK hP 1 0 rfl rfl h_1 dX5_spareOf_5 ?_
  refine lv_aload_n hx hb dX5_spareOf_6 rfl (lv_at hl 0 rfl) ?_
  refine va_get (D := D) (ci := 3) (v := .ref (ad_r 2)) (C := RX5) (T := TX5) (N := 8) hx hb hts hin5 hown hK hP 0 rfl rfl 2 (by decide) (hts _ zm_377) (fun _ h9 => h9) rfl dX5_spareOf_7 ?_
  refine lv_iload_n hx hb dX5_spareOf_10 rfl (lv_at hl 1 rfl) ?_
  refine va_iald hx hb hK hP 2 0 rfl rfl h_1 dX5_spareOf_11 ?_
  obtain ⟨o_2, hc_2, hF⟩ := zb hF
  refine zcSR (rest := []) (kX1_spare l D ca t (r_kinds p1.toNatClampNeg) (r_figures p1.toNatClampNeg) fuel _ hc_2) ⟨hx, hb, hml, hown, hts⟩ (zcwS hts zm_401 zm_400 zm_394 zm_399 rfl rfl zds_X1_spare ⟨Nat.le_of_ble_eq_true rfl, Nat.le_of_ble_eq_true rfl⟩) hA hK hZ hP hD hS [] rfl rfl rfl hl.1 (Nat.le_of_ble_eq_true rfl) dX5_spareOf_12 rfl ?_
  obtain rfl := Option.some.inj hF
  exact hret _ _ rfl dX5_spareOf_15
theorem zdv_X5_weightOf : yX5_weightOf.cls = RX5 ∧ yX5_weightOf.cls ≠ "java/lang/invoke/MethodHandle" ∧ yX5_weightOf.cls ≠ "java/lang/invoke/VarHandle" ∧ (parseMethodDescriptor yX5_weightOf.desc).map (fun d => d.parameters.length) = some 1 := by decide +kernel
abbrev roX5_allWeights : Room := { frames := 2, cells := 0, slots := 0, locals := 43 }
set_option maxHeartbeats 4000000 in
set_option maxRecDepth 100000 in
theorem kX5_allWeights (l : Launch) (D : va_G) (ca : Nat → ClassId) (t : Nat → Nat) (ad_r : Nat → Nat) (r_guests : Int32) (r_kinds : Nat → Int32) (r_figures : Nat → Int32) (r_minutes : Nat → Int32) (r_settings : Nat → Int32) (r_hooks : Int32) (r_letters : Nat → Int32) (r_letterCount : Int32) (fuel : Nat) (o : Int32) (hF : fX5_allWeights fuel r_guests r_kinds r_figures = some o) : zRi l D (zT ca) t yX5_allWeights (.code yX5_allWeights cX5_allWeights 3 (some .int) :: zW) roX5_allWeights [.ref (ad_r 0)] (wX5_r ca ad_r r_guests r_kinds r_figures r_minutes r_settings r_hooks r_letters r_letterCount) o := by
  refine zRi_of (cc := cX5_allWeights) (maxL := 3) (by decide) rfl (Nat.le_of_ble_eq_true rfl) ?_
  intro p e s m args below meth c A Q ls ⟨hx, hb, hml, hown, hts, hA, hK, hZ, hS⟩ hret hP hD hl
  have hts := fun w h => hts w (List.mem_cons_of_mem _ h)
  have hown : s.vm.findClass RX5 = some m.cls := hown
  have hl : lv_has ls 3 [(0, .ref (ad_r 0))] := hl
  have hin5 := zin_X5
  have l4 : ∀ (n4 : Nat) (v1 : Int32) (v2 : Int32), fX5_allWeights_L4 fuel r_guests r_kinds r_figures n4 v1 v2 = some o → ∀ ls : Array Slot, lv_has ls 3 [(0, .ref (ad_r 0)), (1, .int v1), (2, .int v2)] → W p l e roX5_allWeights s m args below meth c s.heap [] 0 0 Q (F0 m 4 ls []) := by
    intro n4
    induction n4 with
    | zero =>
      intro v1 v2 hF
      rw [fX5_allWeights_L4] at hF
      cases hF
    | succ n4 ih4 =>
      intro v1 v2 hF ls hl
      rw [fX5_allWeights_L4] at hF
      refine lv_iload_n hx hb dX5_allWeights_4 rfl (lv_at hl 2 rfl) ?_
      refine lv_aload_n hx hb dX5_allWeights_5 rfl (lv_at hl 0 rfl) ?_
      refine va_get (D := D) (ci := 3) (v := .int r_guests) (C := RX5) (T := TX5) (N := 8) hx hb hts hin5 hown hK hP 0 rfl rfl 0 (by decide) (hts _ zm_371) (fun _ h9 => h9) rfl dX5_allWeights_6 ?_
      refine lv_icmp_ge (tgt := 26) hx hb dX5_allWeights_9 (by decide) (fun c_1 => ?_) (fun c_1 => ?_)
      · have hF := zt c_1 hF
        refine lv_iload_n hx hb dX5_allWeights_26 rfl (lv_at hl 1 rfl) ?_
        obtain rfl := Option.some.inj hF
        exact hret _ _ rfl dX5_allWeights_27
      · have hF := zf c_1 hF
        refine lv_iload_n hx hb dX5_allWeights_12 rfl (lv_at hl 1 rfl) ?_
        refine lv_aload_n hx hb dX5_allWeights_13 rfl (lv_at hl 0 rfl) ?_
        refine lv_iload_n hx hb dX5_allWeights_14 rfl (lv_at hl 2 rfl) ?_
        obtain ⟨o_2, hc_2, hF⟩ := zb hF
        refine zcVR (rest := [.int v1]) (kX5_weightOf l D ca t ad_r r_guests r_kinds r_figures r_minutes r_settings r_hooks r_letters r_letterCount v2 fuel _ hc_2) ⟨hx, hb, hml, hown, hts⟩ (zcwV hts zm_403 zm_404 zm_405 zm_387 zm_402 rfl rfl zdv_X5_weightOf ⟨Nat.le_of_ble_eq_true rfl, Nat.le_of_ble_eq_true rfl⟩) hA hK hZ hP hD hS [0, 1, 2, 3, 4, 5] rfl rfl 3 0 rfl rfl rfl hl.1 (Nat.le_of_ble_eq_true rfl) dX5_allWeights_15 rfl ?_
        refine lv_iadd hx hb dX5_allWeights_18 ?_
        refine z_let hF (fun v1_3 hF => ?_)
        refine lv_istore_n (lv' := [(1, .int v1_3), (0, .ref (ad_r 0)), (2, .int v2)]) hx hb dX5_allWeights_19 rfl hl (by decide) rfl (fun ls hl => ?_)
        refine z_iinc (kv := 1) hx hb 2 dX5_allWeights_20 hl rfl (by decide) (by decide) (fun g => [(2, .int g), (1, .int v1_3), (0, .ref (ad_r 0))]) (fun _ => rfl) hF (fun v2_4 ls hF hl => ?_)
        refine lv_goto (tgt := 4) hx hb dX5_allWeights_23 (by decide) ?_
        exact ih4 v1_3 v2_4 hF ls (lv_sub hl [2, 1, 0] rfl)
  unfold fX5_allWeights at hF
  refine lv_iconst (v := 0) hx hb dX5_allWeights_0 (by decide) ?_
  refine lv_istore_n (lv' := [(1, .int 0), (0, .ref (ad_r 0))]) hx hb dX5_allWeights_1 rfl hl (by decide) rfl (fun ls hl => ?_)
  refine lv_iconst (v := 0) hx hb dX5_allWeights_2 (by decide) ?_
  refine lv_istore_n (lv' := [(2, .int 0), (1, .int 0), (0, .ref (ad_r 0))]) hx hb dX5_allWeights_3 rfl hl (by decide) rfl (fun ls hl => ?_)
  exact l4 fuel 0 0 hF ls (lv_sub hl [2, 1, 0] rfl)
theorem zdv_X7_signAt : yX7_signAt.cls = RX7 ∧ yX7_signAt.cls ≠ "java/lang/invoke/MethodHandle" ∧ yX7_signAt.cls ≠ "java/lang/invoke/VarHandle" ∧ (parseMethodDescriptor yX7_signAt.desc).map (fun d => d.parameters.length) = some 1 := by decide +kernel
abbrev roX5_takeLetters : Room := { frames := 2, cells := 0, slots := 0, locals := 42 }
set_option maxHeartbeats 4000000 in
set_option maxRecDepth 100000 in
theorem kX5_takeLetters (l : Launch) (D : va_G) (ca : Nat → ClassId) (t : Nat → Nat) (ad_s : Nat → Nat) (ad_r : Nat → Nat) (s_holds : Nat → Int32) (s_kind : Nat → Int32) (s_figure : Nat → Int32) (s_sort : Nat → Int32) (s_size : Nat → Int32) (s_el : Nat → Nat → Int32) (r_guests : Int32) (r_kinds : Nat → Int32) (r_figures : Nat → Int32) (r_minutes : Nat → Int32) (r_settings : Nat → Int32) (r_hooks : Int32) (r_letters : Nat → Int32) (r_letterCount : Int32) (si : Nat) (hsi : si < 8) (p2 : Int32) (p3 : Int32) (fuel : Nat) (o : (Nat → Int32) × Int32) (hF : fX5_takeLetters fuel s_size s_el r_letters r_letterCount si p2 p3 = some o) : zMv l D (zT ca) t yX5_takeLetters (.code yX5_takeLetters cX5_takeLetters 5 none :: zW) roX5_takeLetters [.ref (ad_r 0), .ref (ad_s (2 * si)), .int p2, .int p3] (wX5_sr ca ad_s ad_r s_holds s_kind s_figure s_sort s_size s_el r_guests r_kinds r_figures r_minutes r_settings r_hooks r_letters r_letterCount) (wX5_sr ca ad_s ad_r s_holds s_kind s_figure s_sort s_size s_el r_guests r_kinds r_figures r_minutes r_settings r_hooks o.1 o.2) := by
  refine zMv_of (cc := cX5_takeLetters) (maxL := 5) (by decide) rfl (Nat.le_of_ble_eq_true rfl) ?_
  intro p e s m args below meth c A Q ls ⟨hx, hb, hml, hown, hts, hA, hK, hZ, hS⟩ hret hP hD hl
  have hts := fun w h => hts w (List.mem_cons_of_mem _ h)
  have hown : s.vm.findClass RX5 = some m.cls := hown
  have hl : lv_has ls 5 [(0, .ref (ad_r 0)), (1, .ref (ad_s (2 * si))), (2, .int p2), (3, .int p3)] := hl
  have hin5 := zin_X5
  have l13 : ∀ (n13 : Nat) (v4 : Int32) (r_letters : Nat → Int32) (r_letterCount : Int32) (H : Heap) (locs : List Loc), fX5_takeLetters_L13 fuel s_size s_el si p2 n13 v4 r_letters r_letterCount = some o → va_P D vwCl (wX5_sr ca ad_s ad_r s_holds s_kind s_figure s_sort s_size s_el r_guests r_kinds r_figures r_minutes r_settings r_hooks r_letters r_letterCount) H → va_D A (wX5_sr ca ad_s ad_r s_holds s_kind s_figure s_sort s_size s_el r_guests r_kinds r_figures r_minutes r_settings r_hooks r_letters r_letterCount) → va_S A s.heap H locs → ∀ ls : Array Slot, lv_has ls 5 [(0, .ref (ad_r 0)), (1, .ref (ad_s (2 * si))), (2, .int p2), (4, .int v4)] → W p l e roX5_takeLetters s m args below meth c H locs 0 0 Q (F0 m 13 ls []) := by
    intro n13
    induction n13 with
    | zero =>
      intro v4 r_letters r_letterCount H locs hF
      rw [fX5_takeLetters_L13] at hF
      cases hF
    | succ n13 ih13 =>
      intro v4 r_letters r_letterCount H locs hF hP hD hS ls hl
      rw [fX5_takeLetters_L13] at hF
      refine lv_iload hx hb dX5_takeLetters_13 (lv_at hl 3 rfl) ?_
      refine lv_aload_n hx hb dX5_takeLetters_15 rfl (lv_at hl 0 rfl) ?_
      refine va_get (D := D) (ci := 3) (v := .int r_letterCount) (C := RX5) (T := TX5) (N := 8) hx hb hts hin5 hown hK hP 16 rfl rfl 7 (by decide) (hts _ zm_382) (fun _ h9 => h9) rfl dX5_takeLetters_16 ?_
      refine lv_icmp_ge (tgt := 43) hx hb dX5_takeLetters_19 (by decide) (fun c_2 => ?_) (fun c_2 => ?_)
      · have hF := zt c_2 hF
        obtain rfl := Option.some.inj hF
        exact hret _ _ _ _ hP hD hS dX5_takeLetters_43
      · have hF := zf c_2 hF
        refine lv_aload_n hx hb dX5_takeLetters_22 rfl (lv_at hl 0 rfl) ?_
        refine va_get (D := D) (ci := 3) (v := .ref (ad_r 5)) (C := RX5) (T := TX5) (N := 8) hx hb hts hin5 hown hK hP 16 rfl rfl 6 (by decide) (hts _ zm_381) (fun _ h9 => h9) rfl dX5_takeLetters_23 ?_
        refine lv_iload hx hb dX5_takeLetters_26 (lv_at hl 3 rfl) ?_
        refine lv_aload_n hx hb dX5_takeLetters_28 rfl (lv_at hl 1 rfl) ?_
        refine lv_iload_n hx hb dX5_takeLetters_29 rfl (lv_at hl 2 rfl) ?_
        refine lv_iload hx hb dX5_takeLetters_30 (lv_at hl 3 rfl) ?_
        refine lv_iadd hx hb dX5_takeLetters_32 ?_
        obtain ⟨o_3, hc_3, hF⟩ := zb hF
        refine zcVR (rest := [.int v4, .ref (ad_r 5)]) (kX7_signAt l D ca t ad_s s_holds s_kind s_figure s_sort s_size s_el si hsi (p2 + v4) fuel _ hc_3) ⟨hx, hb, hml, hown, hts⟩ (zcwV hts zm_590 zm_591 zm_592 zm_422 zm_589 rfl rfl zdv_X7_signAt ⟨Nat.le_of_ble_eq_true rfl, Nat.le_of_ble_eq_true rfl⟩) hA hK hZ hP hD hS [0, 1, 2, 3, 4, 5, 6, 7, 8, 9, 10, 11, 12, 13, 14, 15] rfl rfl 4 (2 * si) rfl (zsh_at si hsi) rfl hl.1 (Nat.le_of_ble_eq_true rfl) dX5_takeLetters_33 rfl ?_
        obtain ⟨h_4, hF⟩ := zgi hF
        refine z_iast hx hb hK hP hD hS 21 0 rfl rfl h_4 dX5_takeLetters_36 (fun g => (wX5_sr ca ad_s ad_r s_holds s_kind s_figure s_sort s_size s_el r_guests r_kinds r_figures r_minutes r_settings r_hooks g r_letterCount)) (fun _ => rfl) hF (fun r_letters_5 H locs hF hP hD hS => ?_)
        refine z_iinc (kv := 1) hx hb 3 dX5_takeLetters_37 hl rfl (by decide) (by decide) (fun g => [(4, .int g), (0, .ref (ad_r 0)), (1, .ref (ad_s (2 * si))), (2, .int p2)]) (fun _ => rfl) hF (fun v4_6 ls hF hl => ?_)
        refine lv_goto (tgt := 13) hx hb dX5_takeLetters_40 (by decide) ?_
        exact ih13 v4_6 r_letters_5 r_letterCount _ _ hF hP hD hS ls (lv_sub hl [1, 2, 3, 0] rfl)
  unfold fX5_takeLetters at hF
  refine lv_aload_n hx hb dX5_takeLetters_0 rfl (lv_at hl 0 rfl) ?_
  refine lv_iload_n hx hb dX5_takeLetters_1 rfl (lv_at hl 3 rfl) ?_
  refine lv_bipush (v := 6) hx hb dX5_takeLetters_2 (by decide) ?_
  refine va_mmin hx hb (hml.trans hl.1.symm) hown (hts _ zm_588) (hts _ zm_228) (hts _ zm_23) (hts _ zm_229) (Nat.le_of_ble_eq_true rfl) (Nat.le_of_ble_eq_true rfl) (Nat.zero_le _) (Nat.zero_le _) dX5_takeLetters_4 ?_
  refine z_let hF (fun x_1 hF => ?_)
  refine va_put (D := D) (ci := 3) (v := .int x_1) (C := RX5) (T := TX5) (N := 8) hx hb hts hin5 tyX5 tyX5_ok nmX5 hown hK hP hD hS 16 rfl rfl 7 (by decide) (hts _ zm_382) (fun _ h9 => h9) rfl (tyX5_ok 7 (by decide)) rfl rfl (Nat.le_of_ble_eq_true rfl) dX5_takeLetters_7 (fun H locs hP hD hS => ?_)
  have hP : va_P D vwCl (wX5_sr ca ad_s ad_r s_holds s_kind s_figure s_sort s_size s_el r_guests r_kinds r_figures r_minutes r_settings r_hooks r_letters x_1) H := hP
  have hD : va_D A (wX5_sr ca ad_s ad_r s_holds s_kind s_figure s_sort s_size s_el r_guests r_kinds r_figures r_minutes r_settings r_hooks r_letters x_1) := hD
  refine lv_iconst (v := 0) hx hb dX5_takeLetters_10 (by decide) ?_
  refine lv_istore (lv' := [(4, .int 0), (0, .ref (ad_r 0)), (1, .ref (ad_s (2 * si))), (2, .int p2), (3, .int p3)]) hx hb dX5_takeLetters_11 hl (by decide) rfl (fun ls hl => ?_)
  exact l13 fuel 0 r_letters x_1 _ _ hF hP hD hS ls (lv_sub hl [1, 2, 3, 0] rfl)
