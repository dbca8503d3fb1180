abbrev roX7_becomeEmpty : Room := { frames := 0, cells := 0, slots := 0, locals := 0 }
set_option maxHeartbeats 4000000 in
set_option maxRecDepth 100000 in
theorem kX7_becomeEmpty (l : Launch) (D : va_G) (ca : Nat → ClassId) (t : Nat → Nat) (ad_s : Nat → Nat) (s_holds : Nat → Int32) (s_kind : Nat → Int32) (s_figure : Nat → Int32) (s_sort : Nat → Int32) (s_size : Nat → Int32) (s_el : Nat → Nat → Int32) (si : Nat) (hsi : si < 8) (fuel : Nat) (o : (Nat → Int32) × (Nat → Int32)) (hF : fX7_becomeEmpty fuel s_holds s_size si = some o) : zMv l D (zT ca) t yX7_becomeEmpty (.code yX7_becomeEmpty cX7_becomeEmpty 1 none :: zW) roX7_becomeEmpty [.ref (ad_s (2 * si))] (wX7_s ca ad_s s_holds s_kind s_figure s_sort s_size s_el) (wX7_s ca ad_s o.1 s_kind s_figure s_sort o.2 s_el) := by
  refine zMv_of (cc := cX7_becomeEmpty) (maxL := 1) (by decide) rfl (Nat.le_of_ble_eq_true rfl) ?_
  intro p e s m args below meth c A Q ls ⟨hx, hb, hml, hown, hts, hA, hK, hZ, hS⟩ hret hP hD hl
  have hts := fun w h => hts w (List.mem_cons_of_mem _ h)
  have hown : s.vm.findClass RX7 = some m.cls := hown
  have hl : lv_has ls 1 [(0, .ref (ad_s (2 * si)))] := hl
  have hin7 := zin_X7
  unfold fX7_becomeEmpty at hF
  refine lv_aload_n hx hb dX7_becomeEmpty_0 rfl (lv_at hl 0 rfl) ?_
  refine lv_iconst (v := 0) hx hb dX7_becomeEmpty_1 (by decide) ?_
  refine va_put (D := D) (ci := 4) (v := .int 0) (C := RX7) (T := TX7) (N := 6) hx hb hts hin7 tyX7 tyX7_ok nmX7 hown hK hP hD hS (2 * si) (zsh_at si hsi) rfl 0 (by decide) (hts _ zm_412) (fun _ h9 => h9) rfl (tyX7_ok 0 (by decide)) rfl rfl (Nat.le_of_ble_eq_true rfl) dX7_becomeEmpty_2 (fun H locs hP hD hS => ?_)
  have hP : va_P D vwCl (wX7_s ca ad_s (va_up s_holds si 0) s_kind s_figure s_sort s_size s_el) H := va_Pe hP (zsp0 si hsi)
  have hD : va_D A (wX7_s ca ad_s (va_up s_holds si 0) s_kind s_figure s_sort s_size s_el) := va_De hD (zsp0 si hsi)
  obtain ⟨s_holds_1, hx_s_holds_1⟩ : ∃ z, z = (va_up s_holds si 0) := ⟨_, rfl⟩
  rw [← hx_s_holds_1] at hP hD
  have hF := zlet_e hx_s_holds_1 hF
  refine lv_aload_n hx hb dX7_becomeEmpty_5 rfl (lv_at hl 0 rfl) ?_
  refine lv_iconst (v := 0) hx hb dX7_becomeEmpty_6 (by decide) ?_
  refine va_put (D := D) (ci := 4) (v := .int 0) (C := RX7) (T := TX7) (N := 6) hx hb hts hin7 tyX7 tyX7_ok nmX7 hown hK hP hD hS (2 * si) (zsh_at si hsi) rfl 4 (by decide) (hts _ zm_413) (fun _ h9 => h9) rfl (tyX7_ok 4 (by decide)) rfl rfl (Nat.le_of_ble_eq_true rfl) dX7_becomeEmpty_7 (fun H locs hP hD hS => ?_)
  have hP : va_P D vwCl (wX7_s ca ad_s s_holds_1 s_kind s_figure s_sort (va_up s_size si 0) s_el) H := va_Pe hP (zsp4 si hsi)
  have hD : va_D A (wX7_s ca ad_s s_holds_1 s_kind s_figure s_sort (va_up s_size si 0) s_el) := va_De hD (zsp4 si hsi)
  obtain ⟨s_size_2, hx_s_size_2⟩ : ∃ z, z = (va_up s_size si 0) := ⟨_, rfl⟩
  rw [← hx_s_size_2] at hP hD
  have hF := zlet_e hx_s_size_2 hF
  obtain rfl := Option.some.inj hF
  exact hret _ _ _ _ hP hD hS dX7_becomeEmpty_10
abbrev roX7_becomeCoat : Room := { frames := 0, cells := 0, slots := 0, locals := 0 }
set_option maxHeartbeats 4000000 in
set_option maxRecDepth 100000 in
theorem kX7_becomeCoat (l : Launch) (D : va_G) (ca : Nat → ClassId) (t : Nat → Nat) (ad_s : Nat → Nat) (s_holds : Nat → Int32) (s_kind : Nat → Int32) (s_figure : Nat → Int32) (s_sort : Nat → Int32) (s_size : Nat → Int32) (s_el : Nat → Nat → Int32) (si : Nat) (hsi : si < 8) (p1 : Int32) (p2 : Int32) (fuel : Nat) (o : (Nat → Int32) × (Nat → Int32) × (Nat → Int32) × (Nat → Int32)) (hF : fX7_becomeCoat fuel s_holds s_kind s_figure s_size si p1 p2 = some o) : zMv l D (zT ca) t yX7_becomeCoat (.code yX7_becomeCoat cX7_becomeCoat 3 none :: zW) roX7_becomeCoat [.ref (ad_s (2 * si)), .int p1, .int p2] (wX7_s ca ad_s s_holds s_kind s_figure s_sort s_size s_el) (wX7_s ca ad_s o.1 o.2.1 o.2.2.1 s_sort o.2.2.2 s_el) := by
  refine zMv_of (cc := cX7_becomeCoat) (maxL := 3) (by decide) rfl (Nat.le_of_ble_eq_true rfl) ?_
  intro p e s m args below meth c A Q ls ⟨hx, hb, hml, hown, hts, hA, hK, hZ, hS⟩ hret hP hD hl
  have hts := fun w h => hts w (List.mem_cons_of_mem _ h)
  have hown : s.vm.findClass RX7 = some m.cls := hown
  have hl : lv_has ls 3 [(0, .ref (ad_s (2 * si))), (1, .int p1), (2, .int p2)] := hl
  have hin7 := zin_X7
  unfold fX7_becomeCoat at hF
  refine lv_aload_n hx hb dX7_becomeCoat_0 rfl (lv_at hl 0 rfl) ?_
  refine lv_iconst (v := 1) hx hb dX7_becomeCoat_1 (by decide) ?_
  refine va_put (D := D) (ci := 4) (v := .int 1) (C := RX7) (T := TX7) (N := 6) hx hb hts hin7 tyX7 tyX7_ok nmX7 hown hK hP hD hS (2 * si) (zsh_at si hsi) rfl 0 (by decide) (hts _ zm_412) (fun _ h9 => h9) rfl (tyX7_ok 0 (by decide)) rfl rfl (Nat.le_of_ble_eq_true rfl) dX7_becomeCoat_2 (fun H locs hP hD hS => ?_)
  have hP : va_P D vwCl (wX7_s ca ad_s (va_up s_holds si 1) s_kind s_figure s_sort s_size s_el) H := va_Pe hP (zsp0 si hsi)
  have hD : va_D A (wX7_s ca ad_s (va_up s_holds si 1) s_kind s_figure s_sort s_size s_el) := va_De hD (zsp0 si hsi)
  obtain ⟨s_holds_1, hx_s_holds_1⟩ : ∃ z, z = (va_up s_holds si 1) := ⟨_, rfl⟩
  rw [← hx_s_holds_1] at hP hD
  have hF := zlet_e hx_s_holds_1 hF
  refine lv_aload_n hx hb dX7_becomeCoat_5 rfl (lv_at hl 0 rfl) ?_
  refine lv_iconst (v := 0) hx hb dX7_becomeCoat_6 (by decide) ?_
  refine va_put (D := D) (ci := 4) (v := .int 0) (C := RX7) (T := TX7) (N := 6) hx hb hts hin7 tyX7 tyX7_ok nmX7 hown hK hP hD hS (2 * si) (zsh_at si hsi) rfl 4 (by decide) (hts _ zm_413) (fun _ h9 => h9) rfl (tyX7_ok 4 (by decide)) rfl rfl (Nat.le_of_ble_eq_true rfl) dX7_becomeCoat_7 (fun H locs hP hD hS => ?_)
  have hP : va_P D vwCl (wX7_s ca ad_s s_holds_1 s_kind s_figure s_sort (va_up s_size si 0) s_el) H := va_Pe hP (zsp4 si hsi)
  have hD : va_D A (wX7_s ca ad_s s_holds_1 s_kind s_figure s_sort (va_up s_size si 0) s_el) := va_De hD (zsp4 si hsi)
  obtain ⟨s_size_2, hx_s_size_2⟩ : ∃ z, z = (va_up s_size si 0) := ⟨_, rfl⟩
  rw [← hx_s_size_2] at hP hD
  have hF := zlet_e hx_s_size_2 hF
  refine lv_aload_n hx hb dX7_becomeCoat_10 rfl (lv_at hl 0 rfl) ?_
  refine lv_iload_n hx hb dX7_becomeCoat_11 rfl (lv_at hl 1 rfl) ?_
  refine va_put (D := D) (ci := 4) (v := .int p1) (C := RX7) (T := TX7) (N := 6) hx hb hts hin7 tyX7 tyX7_ok nmX7 hown hK hP hD hS (2 * si) (zsh_at si hsi) rfl 1 (by decide) (hts _ zm_414) (fun _ h9 => h9) rfl (tyX7_ok 1 (by decide)) rfl rfl (Nat.le_of_ble_eq_true rfl) dX7_becomeCoat_12 (fun H locs hP hD hS => ?_)
  have hP : va_P D vwCl (wX7_s ca ad_s s_holds_1 (va_up s_kind si p1) s_figure s_sort s_size_2 s_el) H := va_Pe hP (zsp1 si hsi)
  have hD : va_D A (wX7_s ca ad_s s_holds_1 (va_up s_kind si p1) s_figure s_sort s_size_2 s_el) := va_De hD (zsp1 si hsi)
  obtain ⟨s_kind_3, hx_s_kind_3⟩ : ∃ z, z = (va_up s_kind si p1) := ⟨_, rfl⟩
  rw [← hx_s_kind_3] at hP hD
  have hF := zlet_e hx_s_kind_3 hF
  refine lv_aload_n hx hb dX7_becomeCoat_15 rfl (lv_at hl 0 rfl) ?_
  refine lv_iload_n hx hb dX7_becomeCoat_16 rfl (lv_at hl 2 rfl) ?_
  refine va_put (D := D) (ci := 4) (v := .int p2) (C := RX7) (T := TX7) (N := 6) hx hb hts hin7 tyX7 tyX7_ok nmX7 hown hK hP hD hS (2 * si) (zsh_at si hsi) rfl 2 (by decide) (hts _ zm_415) (fun _ h9 => h9) rfl (tyX7_ok 2 (by decide)) rfl rfl (Nat.le_of_ble_eq_true rfl) dX7_becomeCoat_17 (fun H locs hP hD hS => ?_)
  have hP : va_P D vwCl (wX7_s ca ad_s s_holds_1 s_kind_3 (va_up s_figure si p2) s_sort s_size_2 s_el) H := va_Pe hP (zsp2 si hsi)
  have hD : va_D A (wX7_s ca ad_s s_holds_1 s_kind_3 (va_up s_figure si p2) s_sort s_size_2 s_el) := va_De hD (zsp2 si hsi)
  obtain ⟨s_figure_4, hx_s_figure_4⟩ : ∃ z, z = (va_up s_figure si p2) := ⟨_, rfl⟩
  rw [← hx_s_figure_4] at hP hD
  have hF := zlet_e hx_s_figure_4 hF
  obtain rfl := Option.some.inj hF
  exact hret _ _ _ _ hP hD hS dX7_becomeCoat_20
abbrev roX7_becomeRow : Room := { frames := 0, cells := 0, slots := 0, locals := 0 }
set_option maxHeartbeats 4000000 in
set_option maxRecDepth 100000 in
theorem kX7_becomeRow (l : Launch) (D : va_G) (ca : Nat → ClassId) (t : Nat → Nat) (ad_s : Nat → Nat) (s_holds : Nat → Int32) (s_kind : Nat → Int32) (s_figure : Nat → Int32) (s_sort : Nat → Int32) (s_size : Nat → Int32) (s_el : Nat → Nat → Int32) (si : Nat) (hsi : si < 8) (p1 : Int32) (p2 : Int32) (fuel : Nat) (o : (Nat → Int32) × (Nat → Int32) × (Nat → Int32) × (Nat → Nat → Int32)) (hF : fX7_becomeRow fuel s_holds s_sort s_size s_el si p1 p2 = some o) : zMv l D (zT ca) t yX7_becomeRow (.code yX7_becomeRow cX7_becomeRow 4 none :: zW) roX7_becomeRow [.ref (ad_s (2 * si)), .int p1, .int p2] (wX7_s ca ad_s s_holds s_kind s_figure s_sort s_size s_el) (wX7_s ca ad_s o.1 s_kind s_figure o.2.1 o.2.2.1 o.2.2.2) := by
  refine zMv_of (cc := cX7_becomeRow) (maxL := 4) (by decide) rfl (Nat.le_of_ble_eq_true rfl) ?_
  intro p e s m args below meth c A Q ls ⟨hx, hb, hml, hown, hts, hA, hK, hZ, hS⟩ hret hP hD hl
  have hts := fun w h => hts w (List.mem_cons_of_mem _ h)
  have hown : s.vm.findClass RX7 = some m.cls := hown
  have hl : lv_has ls 4 [(0, .ref (ad_s (2 * si))), (1, .int p1), (2, .int p2)] := hl
  have hin7 := zin_X7
  have l17 : ∀ (n17 : Nat) (v3 : Int32) (s_holds : Nat → Int32) (s_sort : Nat → Int32) (s_size : Nat → Int32) (s_el : Nat → Nat → Int32) (H : Heap) (locs : List Loc), fX7_becomeRow_L17 si n17 v3 s_holds s_sort s_size s_el = some o → va_P D vwCl (wX7_s ca ad_s s_holds s_kind s_figure s_sort s_size s_el) H → va_D A (wX7_s ca ad_s s_holds s_kind s_figure s_sort s_size s_el) → va_S A s.heap H locs → ∀ ls : Array Slot, lv_has ls 4 [(0, .ref (ad_s (2 * si))), (3, .int v3)] → W p l e roX7_becomeRow s m args below meth c H locs 0 0 Q (F0 m 17 ls []) := by
    intro n17
    induction n17 with
    | zero =>
      intro v3 s_holds s_sort s_size s_el H locs hF
      rw [fX7_becomeRow_L17] at hF
      cases hF
    | succ n17 ih17 =>
      intro v3 s_holds s_sort s_size s_el H locs hF hP hD hS ls hl
      rw [fX7_becomeRow_L17] at hF
      refine lv_iload_n hx hb dX7_becomeRow_17 rfl (lv_at hl 1 rfl) ?_
      refine lv_bipush (v := 100) hx hb dX7_becomeRow_18 (by decide) ?_
      refine lv_icmp_ge (tgt := 36) hx hb dX7_becomeRow_20 (by decide) (fun c_4 => ?_) (fun c_4 => ?_)
      · have hF := zt c_4 hF
        obtain rfl := Option.some.inj hF
        exact hret _ _ _ _ hP hD hS dX7_becomeRow_36
      · have hF := zf c_4 hF
        refine lv_aload_n hx hb dX7_becomeRow_23 rfl (lv_at hl 0 rfl) ?_
        refine va_get (D := D) (ci := 4) (v := .ref (ad_s (2 * si + 1))) (C := RX7) (T := TX7) (N := 6) hx hb hts hin7 hown hK hP (2 * si) (zsh_at si hsi) rfl 5 (by decide) (hts _ zm_417) (fun _ h9 => h9) rfl dX7_becomeRow_24 ?_
        refine lv_iload_n hx hb dX7_becomeRow_27 rfl (lv_at hl 1 rfl) ?_
        refine lv_iconst (v := 0) hx hb dX7_becomeRow_28 (by decide) ?_
        obtain ⟨h_5, hF⟩ := zgi hF
        refine z_seast hx hb hK hP hD hS si hsi rfl h_5 dX7_becomeRow_29 (fun g => (wX7_s ca ad_s s_holds s_kind s_figure s_sort s_size g)) (fun _ => rfl) hF (fun s_el_6 H locs hF hP hD hS => ?_)
        refine z_iinc (kv := 1) hx hb 1 dX7_becomeRow_30 hl rfl (by decide) (by decide) (fun g => [(3, .int g), (0, .ref (ad_s (2 * si)))]) (fun _ => rfl) hF (fun v3_7 ls hF hl => ?_)
        refine lv_goto (tgt := 17) hx hb dX7_becomeRow_33 (by decide) ?_
        exact ih17 v3_7 s_holds s_sort s_size s_el_6 _ _ hF hP hD hS ls (lv_sub hl [1, 0] rfl)
  unfold fX7_becomeRow at hF
  refine lv_aload_n hx hb dX7_becomeRow_0 rfl (lv_at hl 0 rfl) ?_
  refine lv_iconst (v := 2) hx hb dX7_becomeRow_1 (by decide) ?_
  refine va_put (D := D) (ci := 4) (v := .int 2) (C := RX7) (T := TX7) (N := 6) hx hb hts hin7 tyX7 tyX7_ok nmX7 hown hK hP hD hS (2 * si) (zsh_at si hsi) rfl 0 (by decide) (hts _ zm_412) (fun _ h9 => h9) rfl (tyX7_ok 0 (by decide)) rfl rfl (Nat.le_of_ble_eq_true rfl) dX7_becomeRow_2 (fun H locs hP hD hS => ?_)
  have hP : va_P D vwCl (wX7_s ca ad_s (va_up s_holds si 2) s_kind s_figure s_sort s_size s_el) H := va_Pe hP (zsp0 si hsi)
  have hD : va_D A (wX7_s ca ad_s (va_up s_holds si 2) s_kind s_figure s_sort s_size s_el) := va_De hD (zsp0 si hsi)
  obtain ⟨s_holds_1, hx_s_holds_1⟩ : ∃ z, z = (va_up s_holds si 2) := ⟨_, rfl⟩
  rw [← hx_s_holds_1] at hP hD
  have hF := zlet_e hx_s_holds_1 hF
  refine lv_aload_n hx hb dX7_becomeRow_5 rfl (lv_at hl 0 rfl) ?_
  refine lv_iload_n hx hb dX7_becomeRow_6 rfl (lv_at hl 1 rfl) ?_
  refine va_put (D := D) (ci := 4) (v := .int p1) (C := RX7) (T := TX7) (N := 6) hx hb hts hin7 tyX7 tyX7_ok nmX7 hown hK hP hD hS (2 * si) (zsh_at si hsi) rfl 3 (by decide) (hts _ zm_416) (fun _ h9 => h9) rfl (tyX7_ok 3 (by decide)) rfl rfl (Nat.le_of_ble_eq_true rfl) dX7_becomeRow_7 (fun H locs hP hD hS => ?_)
  have hP : va_P D vwCl (wX7_s ca ad_s s_holds_1 s_kind s_figure (va_up s_sort si p1) s_size s_el) H := va_Pe hP (zsp3 si hsi)
  have hD : va_D A (wX7_s ca ad_s s_holds_1 s_kind s_figure (va_up s_sort si p1) s_size s_el) := va_De hD (zsp3 si hsi)
  obtain ⟨s_sort_2, hx_s_sort_2⟩ : ∃ z, z = (va_up s_sort si p1) := ⟨_, rfl⟩
  rw [← hx_s_sort_2] at hP hD
  have hF := zlet_e hx_s_sort_2 hF
  refine lv_aload_n hx hb dX7_becomeRow_10 rfl (lv_at hl 0 rfl) ?_
  refine lv_iload_n hx hb dX7_becomeRow_11 rfl (lv_at hl 2 rfl) ?_
  refine va_put (D := D) (ci := 4) (v := .int p2) (C := RX7) (T := TX7) (N := 6) hx hb hts hin7 tyX7 tyX7_ok nmX7 hown hK hP hD hS (2 * si) (zsh_at si hsi) rfl 4 (by decide) (hts _ zm_413) (fun _ h9 => h9) rfl (tyX7_ok 4 (by decide)) rfl rfl (Nat.le_of_ble_eq_true rfl) dX7_becomeRow_12 (fun H locs hP hD hS => ?_)
  have hP : va_P D vwCl (wX7_s ca ad_s s_holds_1 s_kind s_figure s_sort_2 (va_up s_size si p2) s_el) H := va_Pe hP (zsp4 si hsi)
  have hD : va_D A (wX7_s ca ad_s s_holds_1 s_kind s_figure s_sort_2 (va_up s_size si p2) s_el) := va_De hD (zsp4 si hsi)
  obtain ⟨s_size_3, hx_s_size_3⟩ : ∃ z, z = (va_up s_size si p2) := ⟨_, rfl⟩
  rw [← hx_s_size_3] at hP hD
  have hF := zlet_e hx_s_size_3 hF
  refine lv_iconst (v := 0) hx hb dX7_becomeRow_15 (by decide) ?_
  refine lv_istore_n (lv' := [(3, .int 0), (0, .ref (ad_s (2 * si))), (1, .int p1), (2, .int p2)]) hx hb dX7_becomeRow_16 rfl hl (by decide) rfl (fun ls hl => ?_)
  exact l17 fuel 0 s_holds_1 s_sort_2 s_size_3 s_el _ _ hF hP hD hS ls (lv_sub hl [1, 0] rfl)
abbrev roX7_hasPlace : Room := { frames := 0, cells := 0, slots := 0, locals := 0 }
set_option maxHeartbeats 4000000 in
set_option maxRecDepth 100000 in
theorem kX7_hasPlace (l : Launch) (D : va_G) (ca : Nat → ClassId) (t : Nat → Nat) (ad_s : Nat → Nat) (s_holds : Nat → Int32) (s_kind : Nat → Int32) (s_figure : Nat → Int32) (s_sort : Nat → Int32) (s_size : Nat → Int32) (s_el : Nat → Nat → Int32) (si : Nat) (hsi : si < 8) (p1 : Int32) (fuel : Nat) (o : Int32) (hF : fX7_hasPlace fuel s_size si p1 = some o) : zRi l D (zT ca) t yX7_hasPlace (.code yX7_hasPlace cX7_hasPlace 2 (some .boolean) :: zW) roX7_hasPlace [.ref (ad_s (2 * si)), .int p1] (wX7_s ca ad_s s_holds s_kind s_figure s_sort s_size s_el) o := by
  refine zRi_of (cc := cX7_hasPlace) (maxL := 2) (by decide) rfl (Nat.le_of_ble_eq_true rfl) ?_
  intro p e s m args below meth c A Q ls ⟨hx, hb, hml, hown, hts, hA, hK, hZ, hS⟩ hret hP hD hl
  have hts := fun w h => hts w (List.mem_cons_of_mem _ h)
  have hown : s.vm.findClass RX7 = some m.cls := hown
  have hl : lv_has ls 2 [(0, .ref (ad_s (2 * si))), (1, .int p1)] := hl
  have hin7 := zin_X7
  unfold fX7_hasPlace at hF
  refine lv_iload_n hx hb dX7_hasPlace_0 rfl (lv_at hl 1 rfl) ?_
  refine lv_if_lt (tgt := 16) hx hb dX7_hasPlace_1 (by decide) (fun c_1 => ?_) (fun c_1 => ?_)
  · have hF := zt c_1 hF
    refine lv_iconst (v := 0) hx hb dX7_hasPlace_16 (by decide) ?_
    obtain rfl := Option.some.inj hF
    exact hret _ _ (zbool (Or.inl rfl)) dX7_hasPlace_17
  · have hF := zf c_1 hF
    refine lv_iload_n hx hb dX7_hasPlace_4 rfl (lv_at hl 1 rfl) ?_
    refine lv_aload_n hx hb dX7_hasPlace_5 rfl (lv_at hl 0 rfl) ?_
    refine va_get (D := D) (ci := 4) (v := .int (s_size si)) (C := RX7) (T := TX7) (N := 6) hx hb hts hin7 hown hK hP (2 * si) (zsh_at si hsi) rfl 4 (by decide) (hts _ zm_413) (fun _ h9 => h9) rfl dX7_hasPlace_6 ?_
    refine lv_icmp_ge (tgt := 16) hx hb dX7_hasPlace_9 (by decide) (fun c_2 => ?_) (fun c_2 => ?_)
    · have hF := zt c_2 hF
      refine lv_iconst (v := 0) hx hb dX7_hasPlace_16 (by decide) ?_
      obtain rfl := Option.some.inj hF
      exact hret _ _ (zbool (Or.inl rfl)) dX7_hasPlace_17
    · have hF := zf c_2 hF
      refine lv_iconst (v := 1) hx hb dX7_hasPlace_12 (by decide) ?_
      refine lv_goto (tgt := 17) hx hb dX7_hasPlace_13 (by decide) ?_
      obtain rfl := Option.some.inj hF
      exact hret _ _ (zbool (Or.inr rfl)) dX7_hasPlace_17
abbrev roX7_hasStretch : Room := { frames := 0, cells := 0, slots := 0, locals := 0 }
set_option maxHeartbeats 4000000 in
set_option maxRecDepth 100000 in
theorem kX7_hasStretch (l : Launch) (D : va_G) (ca : Nat → ClassId) (t : Nat → Nat) (ad_s : Nat → Nat) (s_holds : Nat → Int32) (s_kind : Nat → Int32) (s_figure : Nat → Int32) (s_sort : Nat → Int32) (s_size : Nat → Int32) (s_el : Nat → Nat → Int32) (si : Nat) (hsi : si < 8) (p1 : Int32) (p2 : Int32) (fuel : Nat) (o : Int32) (hF : fX7_hasStretch fuel s_size si p1 p2 = some o) : zRi l D (zT ca) t yX7_hasStretch (.code yX7_hasStretch cX7_hasStretch 3 (some .boolean) :: zW) roX7_hasStretch [.ref (ad_s (2 * si)), .int p1, .int p2] (wX7_s ca ad_s s_holds s_kind s_figure s_sort s_size s_el) o := by
  refine zRi_of (cc := cX7_hasStretch) (maxL := 3) (by decide) rfl (Nat.le_of_ble_eq_true rfl) ?_
  intro p e s m args below meth c A Q ls ⟨hx, hb, hml, hown, hts, hA, hK, hZ, hS⟩ hret hP hD hl
  have hts := fun w h => hts w (List.mem_cons_of_mem _ h)
  have hown : s.vm.findClass RX7 = some m.cls := hown
  have hl : lv_has ls 3 [(0, .ref (ad_s (2 * si))), (1, .int p1), (2, .int p2)] := hl
  have hin7 := zin_X7
  unfold fX7_hasStretch at hF
  refine lv_iload_n hx hb dX7_hasStretch_0 rfl (lv_at hl 1 rfl) ?_
  refine lv_if_lt (tgt := 30) hx hb dX7_hasStretch_1 (by decide) (fun c_1 => ?_) (fun c_1 => ?_)
  · have hF := zt c_1 hF
    refine lv_iconst (v := 0) hx hb dX7_hasStretch_30 (by decide) ?_
    obtain rfl := Option.some.inj hF
    exact hret _ _ (zbool (Or.inl rfl)) dX7_hasStretch_31
  · have hF := zf c_1 hF
    refine lv_iload_n hx hb dX7_hasStretch_4 rfl (lv_at hl 2 rfl) ?_
    refine lv_if_lt (tgt := 30) hx hb dX7_hasStretch_5 (by decide) (fun c_2 => ?_) (fun c_2 => ?_)
    · have hF := zt c_2 hF
      refine lv_iconst (v := 0) hx hb dX7_hasStretch_30 (by decide) ?_
      obtain rfl := Option.some.inj hF
      exact hret _ _ (zbool (Or.inl rfl)) dX7_hasStretch_31
    · have hF := zf c_2 hF
      refine lv_iload_n hx hb dX7_hasStretch_8 rfl (lv_at hl 2 rfl) ?_
      refine lv_aload_n hx hb dX7_hasStretch_9 rfl (lv_at hl 0 rfl) ?_
      refine va_get (D := D) (ci := 4) (v := .int (s_size si)) (C := RX7) (T := TX7) (N := 6) hx hb hts hin7 hown hK hP (2 * si) (zsh_at si hsi) rfl 4 (by decide) (hts _ zm_413) (fun _ h9 => h9) rfl dX7_hasStretch_10 ?_
      refine lv_icmp_gt (tgt := 30) hx hb dX7_hasStretch_13 (by decide) (fun c_3 => ?_) (fun c_3 => ?_)
      · have hF := zt c_3 hF
        refine lv_iconst (v := 0) hx hb dX7_hasStretch_30 (by decide) ?_
        obtain rfl := Option.some.inj hF
        exact hret _ _ (zbool (Or.inl rfl)) dX7_hasStretch_31
      · have hF := zf c_3 hF
        refine lv_iload_n hx hb dX7_hasStretch_16 rfl (lv_at hl 1 rfl) ?_
        refine lv_aload_n hx hb dX7_hasStretch_17 rfl (lv_at hl 0 rfl) ?_
        refine va_get (D := D) (ci := 4) (v := .int (s_size si)) (C := RX7) (T := TX7) (N := 6) hx hb hts hin7 hown hK hP (2 * si) (zsh_at si hsi) rfl 4 (by decide) (hts _ zm_413) (fun _ h9 => h9) rfl dX7_hasStretch_18 ?_
        refine lv_iload_n hx hb dX7_hasStretch_21 rfl (lv_at hl 2 rfl) ?_
        refine lv_isub hx hb dX7_hasStretch_22 ?_
        refine lv_icmp_gt (tgt := 30) hx hb dX7_hasStretch_23 (by decide) (fun c_4 => ?_) (fun c_4 => ?_)
        · have hF := zt c_4 hF
          refine lv_iconst (v := 0) hx hb dX7_hasStretch_30 (by decide) ?_
          obtain rfl := Option.some.inj hF
          exact hret _ _ (zbool (Or.inl rfl)) dX7_hasStretch_31
        · have hF := zf c_4 hF
          refine lv_iconst (v := 1) hx hb dX7_hasStretch_26 (by decide) ?_
          refine lv_goto (tgt := 31) hx hb dX7_hasStretch_27 (by decide) ?_
          obtain rfl := Option.some.inj hF
          exact hret _ _ (zbool (Or.inr rfl)) dX7_hasStretch_31
abbrev roX7_cutToSort : Room := { frames := 0, cells := 0, slots := 0, locals := 0 }
set_option maxHeartbeats 4000000 in
set_option maxRecDepth 100000 in
theorem kX7_cutToSort (l : Launch) (D : va_G) (ca : Nat → ClassId) (t : Nat → Nat) (ad_s : Nat → Nat) (s_holds : Nat → Int32) (s_kind : Nat → Int32) (s_figure : Nat → Int32) (s_sort : Nat → Int32) (s_size : Nat → Int32) (s_el : Nat → Nat → Int32) (si : Nat) (hsi : si < 8) (p1 : Int32) (fuel : Nat) (o : Int32) (hF : fX7_cutToSort fuel s_sort si p1 = some o) : zRi l D (zT ca) t yX7_cutToSort (.code yX7_cutToSort cX7_cutToSort 2 (some .int) :: zW) roX7_cutToSort [.ref (ad_s (2 * si)), .int p1] (wX7_s ca ad_s s_holds s_kind s_figure s_sort s_size s_el) o := by
  refine zRi_of (cc := cX7_cutToSort) (maxL := 2) (by decide) rfl (Nat.le_of_ble_eq_true rfl) ?_
  intro p e s m args below meth c A Q ls ⟨hx, hb, hml, hown, hts, hA, hK, hZ, hS⟩ hret hP hD hl
  have hts := fun w h => hts w (List.mem_cons_of_mem _ h)
  have hown : s.vm.findClass RX7 = some m.cls := hown
  have hl : lv_has ls 2 [(0, .ref (ad_s (2 * si))), (1, .int p1)] := hl
  have hin7 := zin_X7
  unfold fX7_cutToSort at hF
  refine lv_aload_n hx hb dX7_cutToSort_0 rfl (lv_at hl 0 rfl) ?_
  refine va_get (D := D) (ci := 4) (v := .int (s_sort si)) (C := RX7) (T := TX7) (N := 6) hx hb hts hin7 hown hK hP (2 * si) (zsh_at si hsi) rfl 3 (by decide) (hts _ zm_416) (fun _ h9 => h9) rfl dX7_cutToSort_1 ?_
  refine lv_if_ne (tgt := 10) hx hb dX7_cutToSort_4 (by decide) (fun c_1 => ?_) (fun c_1 => ?_)
  · have hF := zf c_1 hF
    refine lv_aload_n hx hb dX7_cutToSort_10 rfl (lv_at hl 0 rfl) ?_
    refine va_get (D := D) (ci := 4) (v := .int (s_sort si)) (C := RX7) (T := TX7) (N := 6) hx hb hts hin7 hown hK hP (2 * si) (zsh_at si hsi) rfl 3 (by decide) (hts _ zm_416) (fun _ h9 => h9) rfl dX7_cutToSort_11 ?_
    refine lv_iconst (v := 1) hx hb dX7_cutToSort_14 (by decide) ?_
    refine lv_icmp_ne (tgt := 23) hx hb dX7_cutToSort_15 (by decide) (fun c_2 => ?_) (fun c_2 => ?_)
    · have hF := zf c_2 hF
      refine lv_iload_n hx hb dX7_cutToSort_23 rfl (lv_at hl 1 rfl) ?_
      obtain rfl := Option.some.inj hF
      exact hret _ _ rfl dX7_cutToSort_24
    · have hF := zt c_2 hF
      refine lv_iload_n hx hb dX7_cutToSort_18 rfl (lv_at hl 1 rfl) ?_
      refine lv_i2s hx hb dX7_cutToSort_19 rfl ?_
      refine lv_goto (tgt := 24) hx hb dX7_cutToSort_20 (by decide) ?_
      obtain rfl := Option.some.inj hF
      exact hret _ _ rfl dX7_cutToSort_24
  · have hF := zt c_1 hF
    refine lv_iload_n hx hb dX7_cutToSort_7 rfl (lv_at hl 1 rfl) ?_
    refine lv_i2b hx hb dX7_cutToSort_8 rfl ?_
    obtain rfl := Option.some.inj hF
    exact hret _ _ rfl dX7_cutToSort_9
theorem zdv_X7_hasPlace : yX7_hasPlace.cls = RX7 ∧ yX7_hasPlace.cls ≠ "java/lang/invoke/MethodHandle" ∧ yX7_hasPlace.cls ≠ "java/lang/invoke/VarHandle" ∧ (parseMethodDescriptor yX7_hasPlace.desc).map (fun d => d.parameters.length) = some 1 := by decide +kernel
abbrev roX7_signAt : Room := { frames := 1, cells := 0, slots := 0, locals := 21 }
set_option maxHeartbeats 4000000 in
set_option maxRecDepth 100000 in
theorem kX7_signAt (l : Launch) (D : va_G) (ca : Nat → ClassId) (t : Nat → Nat) (ad_s : Nat → Nat) (s_holds : Nat → Int32) (s_kind : Nat → Int32) (s_figure : Nat → Int32) (s_sort : Nat → Int32) (s_size : Nat → Int32) (s_el : Nat → Nat → Int32) (si : Nat) (hsi : si < 8) (p1 : Int32) (fuel : Nat) (o : Int32) (hF : fX7_signAt fuel s_size s_el si p1 = some o) : zRi l D (zT ca) t yX7_signAt (.code yX7_signAt cX7_signAt 2 (some .int) :: zW) roX7_signAt [.ref (ad_s (2 * si)), .int p1] (wX7_s ca ad_s s_holds s_kind s_figure s_sort s_size s_el) o := by
  refine zRi_of (cc := cX7_signAt) (maxL := 2) (by decide) rfl (Nat.le_of_ble_eq_true rfl) ?_
  intro p e s m args below meth c A Q ls ⟨hx, hb, hml, hown, hts, hA, hK, hZ, hS⟩ hret hP hD hl
  have hts := fun w h => hts w (List.mem_cons_of_mem _ h)
  have hown : s.vm.findClass RX7 = some m.cls := hown
  have hl : lv_has ls 2 [(0, .ref (ad_s (2 * si))), (1, .int p1)] := hl
  have hin7 := zin_X7
  unfold fX7_signAt at hF
  refine lv_aload_n hx hb dX7_signAt_0 rfl (lv_at hl 0 rfl) ?_
  refine lv_iload_n hx hb dX7_signAt_1 rfl (lv_at hl 1 rfl) ?_
  obtain ⟨o_1, hc_1, hF⟩ := zb hF
  refine zcVR (rest := []) (kX7_hasPlace l D ca t ad_s s_holds s_kind s_figure s_sort s_size s_el si hsi p1 fuel _ hc_1) ⟨hx, hb, hml, hown, hts⟩ (zcwV hts zm_419 zm_420 zm_421 zm_422 zm_418 rfl rfl zdv_X7_hasPlace ⟨Nat.le_of_ble_eq_true rfl, Nat.le_of_ble_eq_true rfl⟩) hA hK hZ hP hD hS [0, 1, 2, 3, 4, 5, 6, 7, 8, 9, 10, 11, 12, 13, 14, 15] rfl rfl 4 (2 * si) rfl (zsh_at si hsi) rfl hl.1 (Nat.le_of_ble_eq_true rfl) dX7_signAt_2 rfl ?_
  refine lv_if_eq (tgt := 17) hx hb dX7_signAt_5 (by decide) (fun c_2 => ?_) (fun c_2 => ?_)
  · have hF := zt c_2 hF
    refine lv_iconst (v := (-1)) hx hb dX7_signAt_17 (by decide) ?_
    obtain rfl := Option.some.inj hF
    exact hret _ _ rfl dX7_signAt_18
  · have hF := zf c_2 hF
    refine lv_aload_n hx hb dX7_signAt_8 rfl (lv_at hl 0 rfl) ?_
    refine va_get (D := D) (ci := 4) (v := .ref (ad_s (2 * si + 1))) (C := RX7) (T := TX7) (N := 6) hx hb hts hin7 hown hK hP (2 * si) (zsh_at si hsi) rfl 5 (by decide) (hts _ zm_417) (fun _ h9 => h9) rfl dX7_signAt_9 ?_
    refine lv_iload_n hx hb dX7_signAt_12 rfl (lv_at hl 1 rfl) ?_
    obtain ⟨h_3, hF⟩ := zgi hF
    refine va_iald hx hb hK hP (2 * si + 1) 0 (zsh_el si hsi) rfl h_3 dX7_signAt_13 ?_
    refine lv_goto (tgt := 18) hx hb dX7_signAt_14 (by decide) ?_
    obtain rfl := Option.some.inj hF
    exact hret _ _ rfl dX7_signAt_18
