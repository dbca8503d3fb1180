abbrev roX0_clear : Room := { frames := 1, cells := 0, slots := 0, locals := 24 }
set_option maxHeartbeats 4000000 in
set_option maxRecDepth 100000 in
theorem kX0_clear (l : Launch) (D : va_G) (ca : Nat → ClassId) (t : Nat → Nat) (ad_b : Nat → Nat) (b_heaps : Int32) (b_piles : Nat → Nat → Int32) (b_heights : Nat → Int32) (b_spots : Nat → Int32) (p1 : Int32) (fuel : Nat) (o : Int32 × (Nat → Int32) × (Nat → Int32)) (hF : fX0_clear fuel b_heaps b_heights b_spots p1 = some o) : zMv l D (zT ca) t yX0_clear (.code yX0_clear cX0_clear 3 none :: zW) roX0_clear [.ref (ad_b 0), .int p1] (wX0_b ca ad_b b_heaps b_piles b_heights b_spots) (wX0_b ca ad_b o.1 b_piles o.2.1 o.2.2) := by
  refine zMv_of (cc := cX0_clear) (maxL := 3) (by decide) rfl (Nat.le_of_ble_eq_true rfl) ?_
  intro p e s m args below meth c A Q ls ⟨hx, hb, hml, hown, hts, hA, hK, hZ, hS⟩ hret hP hD hl
  have hts := fun w h => hts w (List.mem_cons_of_mem _ h)
  have hown : s.vm.findClass RX0 = some m.cls := hown
  have hl : lv_has ls 3 [(0, .ref (ad_b 0)), (1, .int p1)] := hl
  have hin0 := zin_X0
  have l35 : ∀ (n35 : Nat) (v2 : Int32) (b_heaps : Int32) (b_heights : Nat → Int32) (b_spots : Nat → Int32) (H : Heap) (locs : List Loc), fX0_clear_L35 n35 v2 b_heaps b_heights b_spots = some o → va_P D vwCl (wX0_b ca ad_b b_heaps b_piles b_heights b_spots) H → va_D A (wX0_b ca ad_b b_heaps b_piles b_heights b_spots) → va_S A s.heap H locs → ∀ ls : Array Slot, lv_has ls 3 [(0, .ref (ad_b 0)), (2, .int v2)] → W p l e roX0_clear s m args below meth c H locs 0 0 Q (F0 m 35 ls []) := by
    intro n35
    induction n35 with
    | zero =>
      intro v2 b_heaps b_heights b_spots H locs hF
      rw [fX0_clear_L35] at hF
      cases hF
    | succ n35 ih35 =>
      intro v2 b_heaps b_heights b_spots H locs hF hP hD hS ls hl
      rw [fX0_clear_L35] at hF
      refine lv_iload_n hx hb dX0_clear_35 rfl (lv_at hl 1 rfl) ?_
      refine lv_bipush (v := 10) hx hb dX0_clear_36 (by decide) ?_
      refine lv_icmp_ge (tgt := 54) hx hb dX0_clear_38 (by decide) (fun c_7 => ?_) (fun c_7 => ?_)
      · have hF := zt c_7 hF
        obtain rfl := Option.some.inj hF
        exact hret _ _ _ _ hP hD hS dX0_clear_54
      · have hF := zf c_7 hF
        refine lv_aload_n hx hb dX0_clear_41 rfl (lv_at hl 0 rfl) ?_
        refine va_get (D := D) (ci := 0) (v := .ref (ad_b 6)) (C := RX0) (T := TX0) (N := 4) hx hb hts hin0 hown hK hP 0 rfl rfl 3 (by decide) (hts _ zm_306) (fun _ h9 => h9) rfl dX0_clear_42 ?_
        refine lv_iload_n hx hb dX0_clear_45 rfl (lv_at hl 1 rfl) ?_
        refine lv_iconst (v := (-1)) hx hb dX0_clear_46 (by decide) ?_
        obtain ⟨h_8, hF⟩ := zgi hF
        refine z_iast hx hb hK hP hD hS 6 0 rfl rfl h_8 dX0_clear_47 (fun g => (wX0_b ca ad_b b_heaps b_piles b_heights g)) (fun _ => rfl) hF (fun b_spots_9 H locs hF hP hD hS => ?_)
        refine z_iinc (kv := 1) hx hb 1 dX0_clear_48 hl rfl (by decide) (by decide) (fun g => [(2, .int g), (0, .ref (ad_b 0))]) (fun _ => rfl) hF (fun v2_10 ls hF hl => ?_)
        refine lv_goto (tgt := 35) hx hb dX0_clear_51 (by decide) ?_
        exact ih35 v2_10 b_heaps b_heights b_spots_9 _ _ hF hP hD hS ls (lv_sub hl [1, 0] rfl)
  have j33 : ∀ (b_heaps : Int32) (b_heights : Nat → Int32) (b_spots : Nat → Int32) (H : Heap) (locs : List Loc), fX0_clear_J33 fuel b_heaps b_heights b_spots = some o → va_P D vwCl (wX0_b ca ad_b b_heaps b_piles b_heights b_spots) H → va_D A (wX0_b ca ad_b b_heaps b_piles b_heights b_spots) → va_S A s.heap H locs → ∀ ls : Array Slot, lv_has ls 3 [(0, .ref (ad_b 0))] → W p l e roX0_clear s m args below meth c H locs 0 0 Q (F0 m 33 ls []) := by
    intro b_heaps b_heights b_spots H locs hF hP hD hS ls hl
    unfold fX0_clear_J33 at hF
    refine lv_iconst (v := 0) hx hb dX0_clear_33 (by decide) ?_
    refine lv_istore_n (lv' := [(2, .int 0), (0, .ref (ad_b 0))]) hx hb dX0_clear_34 rfl hl (by decide) rfl (fun ls hl => ?_)
    exact l35 fuel 0 b_heaps b_heights b_spots _ _ hF hP hD hS ls (lv_sub hl [1, 0] rfl)
  have l15 : ∀ (n15 : Nat) (v2 : Int32) (b_heaps : Int32) (b_heights : Nat → Int32) (b_spots : Nat → Int32) (H : Heap) (locs : List Loc), fX0_clear_L15 fuel n15 v2 b_heaps b_heights b_spots = some o → va_P D vwCl (wX0_b ca ad_b b_heaps b_piles b_heights b_spots) H → va_D A (wX0_b ca ad_b b_heaps b_piles b_heights b_spots) → va_S A s.heap H locs → ∀ ls : Array Slot, lv_has ls 3 [(0, .ref (ad_b 0)), (2, .int v2)] → W p l e roX0_clear s m args below meth c H locs 0 0 Q (F0 m 15 ls []) := by
    intro n15
    induction n15 with
    | zero =>
      intro v2 b_heaps b_heights b_spots H locs hF
      rw [fX0_clear_L15] at hF
      cases hF
    | succ n15 ih15 =>
      intro v2 b_heaps b_heights b_spots H locs hF hP hD hS ls hl
      rw [fX0_clear_L15] at hF
      refine lv_iload_n hx hb dX0_clear_15 rfl (lv_at hl 1 rfl) ?_
      refine lv_iconst (v := 3) hx hb dX0_clear_16 (by decide) ?_
      refine lv_icmp_ge (tgt := 33) hx hb dX0_clear_17 (by decide) (fun c_3 => ?_) (fun c_3 => ?_)
      · have hF := zt c_3 hF
        exact j33 b_heaps b_heights b_spots _ _ hF hP hD hS ls (lv_sub hl [0] rfl)
      · have hF := zf c_3 hF
        refine lv_aload_n hx hb dX0_clear_20 rfl (lv_at hl 0 rfl) ?_
        refine va_get (D := D) (ci := 0) (v := .ref (ad_b 5)) (C := RX0) (T := TX0) (N := 4) hx hb hts hin0 hown hK hP 0 rfl rfl 2 (by decide) (hts _ zm_305) (fun _ h9 => h9) rfl dX0_clear_21 ?_
        refine lv_iload_n hx hb dX0_clear_24 rfl (lv_at hl 1 rfl) ?_
        refine lv_iconst (v := 0) hx hb dX0_clear_25 (by decide) ?_
        obtain ⟨h_4, hF⟩ := zgi hF
        refine z_iast hx hb hK hP hD hS 5 0 rfl rfl h_4 dX0_clear_26 (fun g => (wX0_b ca ad_b b_heaps b_piles g b_spots)) (fun _ => rfl) hF (fun b_heights_5 H locs hF hP hD hS => ?_)
        refine z_iinc (kv := 1) hx hb 1 dX0_clear_27 hl rfl (by decide) (by decide) (fun g => [(2, .int g), (0, .ref (ad_b 0))]) (fun _ => rfl) hF (fun v2_6 ls hF hl => ?_)
        refine lv_goto (tgt := 15) hx hb dX0_clear_30 (by decide) ?_
        exact ih15 v2_6 b_heaps b_heights_5 b_spots _ _ hF hP hD hS ls (lv_sub hl [1, 0] rfl)
  unfold fX0_clear at hF
  refine lv_aload_n hx hb dX0_clear_0 rfl (lv_at hl 0 rfl) ?_
  refine lv_iconst (v := 1) hx hb dX0_clear_1 (by decide) ?_
  refine lv_iload_n hx hb dX0_clear_2 rfl (lv_at hl 1 rfl) ?_
  refine lv_iconst (v := 3) hx hb dX0_clear_3 (by decide) ?_
  refine va_mmin hx hb (hml.trans hl.1.symm) hown (hts _ zm_302) (hts _ zm_228) (hts _ zm_23) (hts _ zm_229) (Nat.le_of_ble_eq_true rfl) (Nat.le_of_ble_eq_true rfl) (Nat.zero_le _) (Nat.zero_le _) dX0_clear_4 ?_
  refine z_let hF (fun x_1 hF => ?_)
  refine va_mmax hx hb (hml.trans hl.1.symm) hown (hts _ zm_303) (hts _ zm_22) (hts _ zm_23) (hts _ zm_24) (Nat.le_of_ble_eq_true rfl) (Nat.le_of_ble_eq_true rfl) (Nat.zero_le _) (Nat.zero_le _) dX0_clear_7 ?_
  refine z_let hF (fun x_2 hF => ?_)
  refine va_put (D := D) (ci := 0) (v := .int x_2) (C := RX0) (T := TX0) (N := 4) hx hb hts hin0 tyX0 tyX0_ok nmX0 hown hK hP hD hS 0 rfl rfl 0 (by decide) (hts _ zm_304) (fun _ h9 => h9) rfl (tyX0_ok 0 (by decide)) rfl rfl (Nat.le_of_ble_eq_true rfl) dX0_clear_10 (fun H locs hP hD hS => ?_)
  have hP : va_P D vwCl (wX0_b ca ad_b x_2 b_piles b_heights b_spots) H := hP
  have hD : va_D A (wX0_b ca ad_b x_2 b_piles b_heights b_spots) := hD
  refine lv_iconst (v := 0) hx hb dX0_clear_13 (by decide) ?_
  refine lv_istore_n (lv' := [(2, .int 0), (0, .ref (ad_b 0)), (1, .int p1)]) hx hb dX0_clear_14 rfl hl (by decide) rfl (fun ls hl => ?_)
  exact l15 fuel 0 x_2 b_heights b_spots _ _ hF hP hD hS ls (lv_sub hl [1, 0] rfl)
theorem zds_X9_isHeap : yX9_isHeap.cls ≠ "java/lang/invoke/MethodHandle" ∧ yX9_isHeap.cls ≠ "java/lang/invoke/VarHandle" ∧ (parseMethodDescriptor yX9_isHeap.desc).map (fun d => d.parameters.length) = some 1 := by decide +kernel
abbrev roX0_isOnHeap : Room := { frames := 1, cells := 0, slots := 0, locals := 20 }
set_option maxHeartbeats 4000000 in
set_option maxRecDepth 100000 in
theorem kX0_isOnHeap (l : Launch) (D : va_G) (ca : Nat → ClassId) (t : Nat → Nat) (ad_b : Nat → Nat) (b_heaps : Int32) (b_piles : Nat → Nat → Int32) (b_heights : Nat → Int32) (b_spots : Nat → Int32) (p1 : Int32) (fuel : Nat) (o : Int32) (hF : fX0_isOnHeap fuel b_spots p1 = some o) : zRi l D (zT ca) t yX0_isOnHeap (.code yX0_isOnHeap cX0_isOnHeap 2 (some .boolean) :: zW) roX0_isOnHeap [.ref (ad_b 0), .int p1] (wX0_b ca ad_b b_heaps b_piles b_heights b_spots) o := by
  refine zRi_of (cc := cX0_isOnHeap) (maxL := 2) (by decide) rfl (Nat.le_of_ble_eq_true rfl) ?_
  intro p e s m args below meth c A Q ls ⟨hx, hb, hml, hown, hts, hA, hK, hZ, hS⟩ hret hP hD hl
  have hts := fun w h => hts w (List.mem_cons_of_mem _ h)
  have hown : s.vm.findClass RX0 = some m.cls := hown
  have hl : lv_has ls 2 [(0, .ref (ad_b 0)), (1, .int p1)] := hl
  have hin0 := zin_X0
  unfold fX0_isOnHeap at hF
  refine lv_aload_n hx hb dX0_isOnHeap_0 rfl (lv_at hl 0 rfl) ?_
  refine va_get (D := D) (ci := 0) (v := .ref (ad_b 6)) (C := RX0) (T := TX0) (N := 4) hx hb hts hin0 hown hK hP 0 rfl rfl 3 (by decide) (hts _ zm_306) (fun _ h9 => h9) rfl dX0_isOnHeap_1 ?_
  refine lv_iload_n hx hb dX0_isOnHeap_4 rfl (lv_at hl 1 rfl) ?_
  obtain ⟨h_1, hF⟩ := zgi hF
  refine va_iald hx hb hK hP 6 0 rfl rfl h_1 dX0_isOnHeap_5 ?_
  obtain ⟨o_2, hc_2, hF⟩ := zb hF
  refine zcNR (rest := []) (kX9_isHeap l D ca t (b_spots p1.toNatClampNeg) fuel _ hc_2) ⟨hx, hb, hml, hown, hts⟩ ⟨va_cnB 1 hts (zG0 zm_307) rfl rfl rfl hZ.1.1 (hts _ zm_7) zds_X9_isHeap ⟨Nat.le_of_ble_eq_true rfl, Nat.le_of_ble_eq_true rfl⟩, hts _ zm_308, trivial⟩ hA hK hZ hP hD hS [] rfl rfl rfl hl.1 (Nat.le_of_ble_eq_true rfl) dX0_isOnHeap_6 rfl ?_
  obtain ⟨h_3, hF⟩ := zgp hF
  obtain rfl := Option.some.inj hF
  exact hret _ _ (zbool h_3) dX0_isOnHeap_9
abbrev roX0_isFree : Room := { frames := 0, cells := 0, slots := 0, locals := 0 }
set_option maxHeartbeats 4000000 in
set_option maxRecDepth 100000 in
theorem kX0_isFree (l : Launch) (D : va_G) (ca : Nat → ClassId) (t : Nat → Nat) (ad_b : Nat → Nat) (b_heaps : Int32) (b_piles : Nat → Nat → Int32) (b_heights : Nat → Int32) (b_spots : Nat → Int32) (p1 : Int32) (fuel : Nat) (o : Int32) (hF : fX0_isFree fuel b_spots p1 = some o) : zRi l D (zT ca) t yX0_isFree (.code yX0_isFree cX0_isFree 2 (some .boolean) :: zW) roX0_isFree [.ref (ad_b 0), .int p1] (wX0_b ca ad_b b_heaps b_piles b_heights b_spots) o := by
  refine zRi_of (cc := cX0_isFree) (maxL := 2) (by decide) rfl (Nat.le_of_ble_eq_true rfl) ?_
  intro p e s m args below meth c A Q ls ⟨hx, hb, hml, hown, hts, hA, hK, hZ, hS⟩ hret hP hD hl
  have hts := fun w h => hts w (List.mem_cons_of_mem _ h)
  have hown : s.vm.findClass RX0 = some m.cls := hown
  have hl : lv_has ls 2 [(0, .ref (ad_b 0)), (1, .int p1)] := hl
  have hin0 := zin_X0
  unfold fX0_isFree at hF
  refine lv_aload_n hx hb dX0_isFree_0 rfl (lv_at hl 0 rfl) ?_
  refine va_get (D := D) (ci := 0) (v := .ref (ad_b 6)) (C := RX0) (T := TX0) (N := 4) hx hb hts hin0 hown hK hP 0 rfl rfl 3 (by decide) (hts _ zm_306) (fun _ h9 => h9) rfl dX0_isFree_1 ?_
  refine lv_iload_n hx hb dX0_isFree_4 rfl (lv_at hl 1 rfl) ?_
  obtain ⟨h_1, hF⟩ := zgi hF
  refine va_iald hx hb hK hP 6 0 rfl rfl h_1 dX0_isFree_5 ?_
  refine lv_bipush (v := 9) hx hb dX0_isFree_6 (by decide) ?_
  refine lv_icmp_eq (tgt := 22) hx hb dX0_isFree_8 (by decide) (fun c_2 => ?_) (fun c_2 => ?_)
  · have hF := zt c_2 hF
    refine lv_iconst (v := 1) hx hb dX0_isFree_22 (by decide) ?_
    refine lv_goto (tgt := 27) hx hb dX0_isFree_23 (by decide) ?_
    obtain rfl := Option.some.inj hF
    exact hret _ _ (zbool (Or.inr rfl)) dX0_isFree_27
  · have hF := zf c_2 hF
    refine lv_aload_n hx hb dX0_isFree_11 rfl (lv_at hl 0 rfl) ?_
    refine va_get (D := D) (ci := 0) (v := .ref (ad_b 6)) (C := RX0) (T := TX0) (N := 4) hx hb hts hin0 hown hK hP 0 rfl rfl 3 (by decide) (hts _ zm_306) (fun _ h9 => h9) rfl dX0_isFree_12 ?_
    refine lv_iload_n hx hb dX0_isFree_15 rfl (lv_at hl 1 rfl) ?_
    refine va_iald hx hb hK hP 6 0 rfl rfl h_1 dX0_isFree_16 ?_
    refine lv_bipush (v := (-4)) hx hb dX0_isFree_17 (by decide) ?_
    refine lv_icmp_ne (tgt := 26) hx hb dX0_isFree_19 (by decide) (fun c_3 => ?_) (fun c_3 => ?_)
    · have hF := zf c_3 hF
      refine lv_iconst (v := 0) hx hb dX0_isFree_26 (by decide) ?_
      obtain rfl := Option.some.inj hF
      exact hret _ _ (zbool (Or.inl rfl)) dX0_isFree_27
    · have hF := zt c_3 hF
      refine lv_iconst (v := 1) hx hb dX0_isFree_22 (by decide) ?_
      refine lv_goto (tgt := 27) hx hb dX0_isFree_23 (by decide) ?_
      obtain rfl := Option.some.inj hF
      exact hret _ _ (zbool (Or.inr rfl)) dX0_isFree_27
abbrev roX0_lay : Room := { frames := 0, cells := 0, slots := 0, locals := 0 }
set_option maxHeartbeats 4000000 in
set_option maxRecDepth 100000 in
theorem kX0_lay (l : Launch) (D : va_G) (ca : Nat → ClassId) (t : Nat → Nat) (ad_b : Nat → Nat) (b_heaps : Int32) (b_piles : Nat → Nat → Int32) (b_heights : Nat → Int32) (b_spots : Nat → Int32) (p1 : Int32) (p2 : Int32) (fuel : Nat) (o : (Nat → Nat → Int32) × (Nat → Int32) × (Nat → Int32)) (hF : fX0_lay fuel b_piles b_heights b_spots p1 p2 = some o) : zMv l D (zT ca) t yX0_lay (.code yX0_lay cX0_lay 3 none :: zW) roX0_lay [.ref (ad_b 0), .int p1, .int p2] (wX0_b ca ad_b b_heaps b_piles b_heights b_spots) (wX0_b ca ad_b b_heaps o.1 o.2.1 o.2.2) := by
  refine zMv_of (cc := cX0_lay) (maxL := 3) (by decide) rfl (Nat.le_of_ble_eq_true rfl) ?_
  intro p e s m args below meth c A Q ls ⟨hx, hb, hml, hown, hts, hA, hK, hZ, hS⟩ hret hP hD hl
  have hts := fun w h => hts w (List.mem_cons_of_mem _ h)
  have hown : s.vm.findClass RX0 = some m.cls := hown
  have hl : lv_has ls 3 [(0, .ref (ad_b 0)), (1, .int p1), (2, .int p2)] := hl
  have hin0 := zin_X0
  unfold fX0_lay at hF
  refine lv_aload_n hx hb dX0_lay_0 rfl (lv_at hl 0 rfl) ?_
  refine va_get (D := D) (ci := 0) (v := .ref (ad_b 5)) (C := RX0) (T := TX0) (N := 4) hx hb hts hin0 hown hK hP 0 rfl rfl 2 (by decide) (hts _ zm_305) (fun _ h9 => h9) rfl dX0_lay_1 ?_
  refine lv_iload_n hx hb dX0_lay_4 rfl (lv_at hl 1 rfl) ?_
  obtain ⟨h_1, hF⟩ := zgi hF
  refine va_iald hx hb hK hP 5 0 rfl rfl h_1 dX0_lay_5 ?_
  refine lv_bipush (v := 10) hx hb dX0_lay_6 (by decide) ?_
  refine lv_icmp_ge (tgt := 42) hx hb dX0_lay_8 (by decide) (fun c_2 => ?_) (fun c_2 => ?_)
  · have hF := zt c_2 hF
    obtain rfl := Option.some.inj hF
    exact hret _ _ _ _ hP hD hS dX0_lay_42
  · have hF := zf c_2 hF
    refine lv_aload_n hx hb dX0_lay_11 rfl (lv_at hl 0 rfl) ?_
    refine va_get (D := D) (ci := 0) (v := .ref (ad_b 1)) (C := RX0) (T := TX0) (N := 4) hx hb hts hin0 hown hK hP 0 rfl rfl 1 (by decide) (hts _ zm_309) (fun _ h9 => h9) rfl dX0_lay_12 ?_
    refine lv_iload_n hx hb dX0_lay_15 rfl (lv_at hl 1 rfl) ?_
    refine z_aald hx hb hK hP 1 4 rfl rfl rfl h_1 dX0_lay_16 ?_
    refine lv_aload_n hx hb dX0_lay_17 rfl (lv_at hl 0 rfl) ?_
    refine va_get (D := D) (ci := 0) (v := .ref (ad_b 5)) (C := RX0) (T := TX0) (N := 4) hx hb hts hin0 hown hK hP 0 rfl rfl 2 (by decide) (hts _ zm_305) (fun _ h9 => h9) rfl dX0_lay_18 ?_
    refine lv_iload_n hx hb dX0_lay_21 rfl (lv_at hl 1 rfl) ?_
    refine va_iald hx hb hK hP 5 0 rfl rfl h_1 dX0_lay_22 ?_
    refine lv_iload_n hx hb dX0_lay_23 rfl (lv_at hl 2 rfl) ?_
    obtain ⟨h_3, hF⟩ := zgi hF
    refine z_rast hx hb hK hP hD hS 2 0 rfl rfl rfl rfl (zin_lt h_1) h_3 dX0_lay_24 (fun g => (wX0_b ca ad_b b_heaps g b_heights b_spots)) (fun _ => rfl) (fun _ => rfl) (fun _ => rfl) hF (fun b_piles_4 H locs hF hP hD hS => ?_)
    refine lv_aload_n hx hb dX0_lay_25 rfl (lv_at hl 0 rfl) ?_
    refine va_get (D := D) (ci := 0) (v := .ref (ad_b 5)) (C := RX0) (T := TX0) (N := 4) hx hb hts hin0 hown hK hP 0 rfl rfl 2 (by decide) (hts _ zm_305) (fun _ h9 => h9) rfl dX0_lay_26 ?_
    refine lv_iload_n hx hb dX0_lay_29 rfl (lv_at hl 1 rfl) ?_
    refine lv_dup2_11 hx hb dX0_lay_30 rfl rfl ?_
    refine va_iald hx hb hK hP 5 0 rfl rfl h_1 dX0_lay_31 ?_
    refine lv_iconst (v := 1) hx hb dX0_lay_32 (by decide) ?_
    refine lv_iadd hx hb dX0_lay_33 ?_
    refine z_iast hx hb hK hP hD hS 5 0 rfl rfl h_1 dX0_lay_34 (fun g => (wX0_b ca ad_b b_heaps b_piles_4 g b_spots)) (fun _ => rfl) hF (fun b_heights_5 H locs hF hP hD hS => ?_)
    refine lv_aload_n hx hb dX0_lay_35 rfl (lv_at hl 0 rfl) ?_
    refine va_get (D := D) (ci := 0) (v := .ref (ad_b 6)) (C := RX0) (T := TX0) (N := 4) hx hb hts hin0 hown hK hP 0 rfl rfl 3 (by decide) (hts _ zm_306) (fun _ h9 => h9) rfl dX0_lay_36 ?_
    refine lv_iload_n hx hb dX0_lay_39 rfl (lv_at hl 2 rfl) ?_
    refine lv_iload_n hx hb dX0_lay_40 rfl (lv_at hl 1 rfl) ?_
    obtain ⟨h_6, hF⟩ := zgi hF
    refine z_iast hx hb hK hP hD hS 6 0 rfl rfl h_6 dX0_lay_41 (fun g => (wX0_b ca ad_b b_heaps b_piles_4 b_heights_5 g)) (fun _ => rfl) hF (fun b_spots_7 H locs hF hP hD hS => ?_)
    obtain rfl := Option.some.inj hF
    exact hret _ _ _ _ hP hD hS dX0_lay_42
abbrev roX0_coatAt : Room := { frames := 0, cells := 0, slots := 0, locals := 0 }
set_option maxHeartbeats 4000000 in
set_option maxRecDepth 100000 in
theorem kX0_coatAt (l : Launch) (D : va_G) (ca : Nat → ClassId) (t : Nat → Nat) (ad_b : Nat → Nat) (b_heaps : Int32) (b_piles : Nat → Nat → Int32) (b_heights : Nat → Int32) (b_spots : Nat → Int32) (p1 : Int32) (p2 : Int32) (fuel : Nat) (o : Int32) (hF : fX0_coatAt fuel b_piles b_heights p1 p2 = some o) : zRi l D (zT ca) t yX0_coatAt (.code yX0_coatAt cX0_coatAt 3 (some .int) :: zW) roX0_coatAt [.ref (ad_b 0), .int p1, .int p2] (wX0_b ca ad_b b_heaps b_piles b_heights b_spots) o := by
  refine zRi_of (cc := cX0_coatAt) (maxL := 3) (by decide) rfl (Nat.le_of_ble_eq_true rfl) ?_
  intro p e s m args below meth c A Q ls ⟨hx, hb, hml, hown, hts, hA, hK, hZ, hS⟩ hret hP hD hl
  have hts := fun w h => hts w (List.mem_cons_of_mem _ h)
  have hown : s.vm.findClass RX0 = some m.cls := hown
  have hl : lv_has ls 3 [(0, .ref (ad_b 0)), (1, .int p1), (2, .int p2)] := hl
  have hin0 := zin_X0
  unfold fX0_coatAt at hF
  refine lv_iload_n hx hb dX0_coatAt_0 rfl (lv_at hl 2 rfl) ?_
  refine lv_if_lt (tgt := 25) hx hb dX0_coatAt_1 (by decide) (fun c_1 => ?_) (fun c_1 => ?_)
  · have hF := zt c_1 hF
    refine lv_bipush (v := (-4)) hx hb dX0_coatAt_25 (by decide) ?_
    obtain rfl := Option.some.inj hF
    exact hret _ _ rfl dX0_coatAt_27
  · have hF := zf c_1 hF
    refine lv_iload_n hx hb dX0_coatAt_4 rfl (lv_at hl 2 rfl) ?_
    refine lv_aload_n hx hb dX0_coatAt_5 rfl (lv_at hl 0 rfl) ?_
    refine va_get (D := D) (ci := 0) (v := .ref (ad_b 5)) (C := RX0) (T := TX0) (N := 4) hx hb hts hin0 hown hK hP 0 rfl rfl 2 (by decide) (hts _ zm_305) (fun _ h9 => h9) rfl dX0_coatAt_6 ?_
    refine lv_iload_n hx hb dX0_coatAt_9 rfl (lv_at hl 1 rfl) ?_
    obtain ⟨h_2, hF⟩ := zgi hF
    refine va_iald hx hb hK hP 5 0 rfl rfl h_2 dX0_coatAt_10 ?_
    refine lv_icmp_ge (tgt := 25) hx hb dX0_coatAt_11 (by decide) (fun c_3 => ?_) (fun c_3 => ?_)
    · have hF := zt c_3 hF
      refine lv_bipush (v := (-4)) hx hb dX0_coatAt_25 (by decide) ?_
      obtain rfl := Option.some.inj hF
      exact hret _ _ rfl dX0_coatAt_27
    · have hF := zf c_3 hF
      refine lv_aload_n hx hb dX0_coatAt_14 rfl (lv_at hl 0 rfl) ?_
      refine va_get (D := D) (ci := 0) (v := .ref (ad_b 1)) (C := RX0) (T := TX0) (N := 4) hx hb hts hin0 hown hK hP 0 rfl rfl 1 (by decide) (hts _ zm_309) (fun _ h9 => h9) rfl dX0_coatAt_15 ?_
      refine lv_iload_n hx hb dX0_coatAt_18 rfl (lv_at hl 1 rfl) ?_
      refine z_aald hx hb hK hP 1 4 rfl rfl rfl h_2 dX0_coatAt_19 ?_
      refine lv_iload_n hx hb dX0_coatAt_20 rfl (lv_at hl 2 rfl) ?_
      obtain ⟨h_4, hF⟩ := zgi hF
      refine z_rald hx hb hK hP 2 0 rfl rfl rfl rfl (zin_lt h_2) h_4 dX0_coatAt_21 ?_
      refine lv_goto (tgt := 27) hx hb dX0_coatAt_22 (by decide) ?_
      obtain rfl := Option.some.inj hF
      exact hret _ _ rfl dX0_coatAt_27
abbrev roX0_topOf : Room := { frames := 0, cells := 0, slots := 0, locals := 0 }
set_option maxHeartbeats 4000000 in
set_option maxRecDepth 100000 in
theorem kX0_topOf (l : Launch) (D : va_G) (ca : Nat → ClassId) (t : Nat → Nat) (ad_b : Nat → Nat) (b_heaps : Int32) (b_piles : Nat → Nat → Int32) (b_heights : Nat → Int32) (b_spots : Nat → Int32) (p1 : Int32) (fuel : Nat) (o : Int32) (hF : fX0_topOf fuel b_piles b_heights p1 = some o) : zRi l D (zT ca) t yX0_topOf (.code yX0_topOf cX0_topOf 2 (some .int) :: zW) roX0_topOf [.ref (ad_b 0), .int p1] (wX0_b ca ad_b b_heaps b_piles b_heights b_spots) o := by
  refine zRi_of (cc := cX0_topOf) (maxL := 2) (by decide) rfl (Nat.le_of_ble_eq_true rfl) ?_
  intro p e s m args below meth c A Q ls ⟨hx, hb, hml, hown, hts, hA, hK, hZ, hS⟩ hret hP hD hl
  have hts := fun w h => hts w (List.mem_cons_of_mem _ h)
  have hown : s.vm.findClass RX0 = some m.cls := hown
  have hl : lv_has ls 2 [(0, .ref (ad_b 0)), (1, .int p1)] := hl
  have hin0 := zin_X0
  unfold fX0_topOf at hF
  refine lv_aload_n hx hb dX0_topOf_0 rfl (lv_at hl 0 rfl) ?_
  refine va_get (D := D) (ci := 0) (v := .ref (ad_b 5)) (C := RX0) (T := TX0) (N := 4) hx hb hts hin0 hown hK hP 0 rfl rfl 2 (by decide) (hts _ zm_305) (fun _ h9 => h9) rfl dX0_topOf_1 ?_
  refine lv_iload_n hx hb dX0_topOf_4 rfl (lv_at hl 1 rfl) ?_
  obtain ⟨h_1, hF⟩ := zgi hF
  refine va_iald hx hb hK hP 5 0 rfl rfl h_1 dX0_topOf_5 ?_
  refine lv_if_le (tgt := 27) hx hb dX0_topOf_6 (by decide) (fun c_2 => ?_) (fun c_2 => ?_)
  · have hF := zt c_2 hF
    refine lv_bipush (v := (-4)) hx hb dX0_topOf_27 (by decide) ?_
    obtain rfl := Option.some.inj hF
    exact hret _ _ rfl dX0_topOf_29
  · have hF := zf c_2 hF
    refine lv_aload_n hx hb dX0_topOf_9 rfl (lv_at hl 0 rfl) ?_
    refine va_get (D := D) (ci := 0) (v := .ref (ad_b 1)) (C := RX0) (T := TX0) (N := 4) hx hb hts hin0 hown hK hP 0 rfl rfl 1 (by decide) (hts _ zm_309) (fun _ h9 => h9) rfl dX0_topOf_10 ?_
    refine lv_iload_n hx hb dX0_topOf_13 rfl (lv_at hl 1 rfl) ?_
    refine z_aald hx hb hK hP 1 4 rfl rfl rfl h_1 dX0_topOf_14 ?_
    refine lv_aload_n hx hb dX0_topOf_15 rfl (lv_at hl 0 rfl) ?_
    refine va_get (D := D) (ci := 0) (v := .ref (ad_b 5)) (C := RX0) (T := TX0) (N := 4) hx hb hts hin0 hown hK hP 0 rfl rfl 2 (by decide) (hts _ zm_305) (fun _ h9 => h9) rfl dX0_topOf_16 ?_
    refine lv_iload_n hx hb dX0_topOf_19 rfl (lv_at hl 1 rfl) ?_
    refine va_iald hx hb hK hP 5 0 rfl rfl h_1 dX0_topOf_20 ?_
    refine lv_iconst (v := 1) hx hb dX0_topOf_21 (by decide) ?_
    refine lv_isub hx hb dX0_topOf_22 ?_
    obtain ⟨h_3, hF⟩ := zgi hF
    refine z_rald hx hb hK hP 2 0 rfl rfl rfl rfl (zin_lt h_1) h_3 dX0_topOf_23 ?_
    refine lv_goto (tgt := 29) hx hb dX0_topOf_24 (by decide) ?_
    obtain rfl := Option.some.inj hF
    exact hret _ _ rfl dX0_topOf_29
theorem zdv_X0_isOnHeap : yX0_isOnHeap.cls = RX0 ∧ yX0_isOnHeap.cls ≠ "java/lang/invoke/MethodHandle" ∧ yX0_isOnHeap.cls ≠ "java/lang/invoke/VarHandle" ∧ (parseMethodDescriptor yX0_isOnHeap.desc).map (fun d => d.parameters.length) = some 1 := by decide +kernel
abbrev roX0_coatsAbove : Room := { frames := 2, cells := 0, slots := 0, locals := 41 }
set_option maxHeartbeats 4000000 in
set_option maxRecDepth 100000 in
theorem kX0_coatsAbove (l : Launch) (D : va_G) (ca : Nat → ClassId) (t : Nat → Nat) (ad_b : Nat → Nat) (b_heaps : Int32) (b_piles : Nat → Nat → Int32) (b_heights : Nat → Int32) (b_spots : Nat → Int32) (p1 : Int32) (fuel : Nat) (o : Int32) (hF : fX0_coatsAbove fuel b_piles b_heights b_spots p1 = some o) : zRi l D (zT ca) t yX0_coatsAbove (.code yX0_coatsAbove cX0_coatsAbove 5 (some .int) :: zW) roX0_coatsAbove [.ref (ad_b 0), .int p1] (wX0_b ca ad_b b_heaps b_piles b_heights b_spots) o := by
  refine zRi_of (cc := cX0_coatsAbove) (maxL := 5) (by decide) rfl (Nat.le_of_ble_eq_true rfl) ?_
  intro p e s m args below meth c A Q ls ⟨hx, hb, hml, hown, hts, hA, hK, hZ, hS⟩ hret hP hD hl
  have hts := fun w h => hts w (List.mem_cons_of_mem _ h)
  have hown : s.vm.findClass RX0 = some m.cls := hown
  have hl : lv_has ls 5 [(0, .ref (ad_b 0)), (1, .int p1)] := hl
  have hin0 := zin_X0
  have l29 : ∀ (n29 : Nat) (v2 : Int32) (v3 : Int32) (v4 : Int32), fX0_coatsAbove_L29 b_piles p1 n29 v2 v3 v4 = some o → ∀ ls : Array Slot, lv_has ls 5 [(0, .ref (ad_b 0)), (1, .int p1), (2, .int v2), (3, .int v3), (4, .int v4)] → W p l e roX0_coatsAbove s m args below meth c s.heap [] 0 0 Q (F0 m 29 ls []) := by
    intro n29
    induction n29 with
    | zero =>
      intro v2 v3 v4 hF
      rw [fX0_coatsAbove_L29] at hF
      cases hF
    | succ n29 ih29 =>
      intro v2 v3 v4 hF ls hl
      rw [fX0_coatsAbove_L29] at hF
      refine lv_iload hx hb dX0_coatsAbove_29 (lv_at hl 4 rfl) ?_
      refine lv_if_lt (tgt := 56) hx hb dX0_coatsAbove_31 (by decide) (fun c_7 => ?_) (fun c_7 => ?_)
      · have hF := zt c_7 hF
        refine lv_iload_n hx hb dX0_coatsAbove_56 rfl (lv_at hl 3 rfl) ?_
        obtain rfl := Option.some.inj hF
        exact hret _ _ rfl dX0_coatsAbove_57
      · have hF := zf c_7 hF
        refine lv_aload_n hx hb dX0_coatsAbove_34 rfl (lv_at hl 0 rfl) ?_
        refine va_get (D := D) (ci := 0) (v := .ref (ad_b 1)) (C := RX0) (T := TX0) (N := 4) hx hb hts hin0 hown hK hP 0 rfl rfl 1 (by decide) (hts _ zm_309) (fun _ h9 => h9) rfl dX0_coatsAbove_35 ?_
        refine lv_iload_n hx hb dX0_coatsAbove_38 rfl (lv_at hl 2 rfl) ?_
        obtain ⟨h_8, hF⟩ := zgi hF
        refine z_aald hx hb hK hP 1 4 rfl rfl rfl h_8 dX0_coatsAbove_39 ?_
        refine lv_iload hx hb dX0_coatsAbove_40 (lv_at hl 4 rfl) ?_
        obtain ⟨h_9, hF⟩ := zgi hF
        refine z_rald hx hb hK hP 2 0 rfl rfl rfl rfl (zin_lt h_8) h_9 dX0_coatsAbove_42 ?_
        refine lv_iload_n hx hb dX0_coatsAbove_43 rfl (lv_at hl 1 rfl) ?_
        refine lv_icmp_eq (tgt := 56) hx hb dX0_coatsAbove_44 (by decide) (fun c_10 => ?_) (fun c_10 => ?_)
        · have hF := zt c_10 hF
          refine lv_iload_n hx hb dX0_coatsAbove_56 rfl (lv_at hl 3 rfl) ?_
          obtain rfl := Option.some.inj hF
          exact hret _ _ rfl dX0_coatsAbove_57
        · have hF := zf c_10 hF
          refine z_iinc (kv := 1) hx hb 3 dX0_coatsAbove_47 hl rfl (by decide) (by decide) (fun g => [(3, .int g), (0, .ref (ad_b 0)), (1, .int p1), (2, .int v2), (4, .int v4)]) (fun _ => rfl) hF (fun v3_11 ls hF hl => ?_)
          refine z_iinc (kv := (-1)) hx hb 4 dX0_coatsAbove_50 hl rfl (by decide) (by decide) (fun g => [(4, .int g), (3, .int v3_11), (0, .ref (ad_b 0)), (1, .int p1), (2, .int v2)]) (fun _ => rfl) hF (fun v4_12 ls hF hl => ?_)
          refine lv_goto (tgt := 29) hx hb dX0_coatsAbove_53 (by decide) ?_
          exact ih29 v2 v3_11 v4_12 hF ls (lv_sub hl [2, 3, 4, 1, 0] rfl)
  unfold fX0_coatsAbove at hF
  refine lv_aload_n hx hb dX0_coatsAbove_0 rfl (lv_at hl 0 rfl) ?_
  refine lv_iload_n hx hb dX0_coatsAbove_1 rfl (lv_at hl 1 rfl) ?_
  obtain ⟨o_1, hc_1, hF⟩ := zb hF
  refine zcVR (rest := []) (kX0_isOnHeap l D ca t ad_b b_heaps b_piles b_heights b_spots p1 fuel _ hc_1) ⟨hx, hb, hml, hown, hts⟩ (zcwV hts zm_311 zm_312 zm_313 zm_314 zm_310 rfl rfl zdv_X0_isOnHeap ⟨Nat.le_of_ble_eq_true rfl, Nat.le_of_ble_eq_true rfl⟩) hA hK hZ hP hD hS [0, 1, 2, 3, 4, 5, 6] rfl rfl 0 0 rfl rfl rfl hl.1 (Nat.le_of_ble_eq_true rfl) dX0_coatsAbove_2 rfl ?_
  refine lv_if_ne (tgt := 10) hx hb dX0_coatsAbove_5 (by decide) (fun c_2 => ?_) (fun c_2 => ?_)
  · have hF := zf c_2 hF
    refine lv_aload_n hx hb dX0_coatsAbove_10 rfl (lv_at hl 0 rfl) ?_
    refine va_get (D := D) (ci := 0) (v := .ref (ad_b 6)) (C := RX0) (T := TX0) (N := 4) hx hb hts hin0 hown hK hP 0 rfl rfl 3 (by decide) (hts _ zm_306) (fun _ h9 => h9) rfl dX0_coatsAbove_11 ?_
    refine lv_iload_n hx hb dX0_coatsAbove_14 rfl (lv_at hl 1 rfl) ?_
    obtain ⟨h_3, hF⟩ := zgi hF
    refine va_iald hx hb hK hP 6 0 rfl rfl h_3 dX0_coatsAbove_15 ?_
    refine z_let hF (fun v2_4 hF => ?_)
    refine lv_istore_n (lv' := [(2, .int v2_4), (0, .ref (ad_b 0)), (1, .int p1)]) hx hb dX0_coatsAbove_16 rfl hl (by decide) rfl (fun ls hl => ?_)
    refine lv_iconst (v := 0) hx hb dX0_coatsAbove_17 (by decide) ?_
    refine lv_istore_n (lv' := [(3, .int 0), (2, .int v2_4), (0, .ref (ad_b 0)), (1, .int p1)]) hx hb dX0_coatsAbove_18 rfl hl (by decide) rfl (fun ls hl => ?_)
    refine lv_aload_n hx hb dX0_coatsAbove_19 rfl (lv_at hl 2 rfl) ?_
    refine va_get (D := D) (ci := 0) (v := .ref (ad_b 5)) (C := RX0) (T := TX0) (N := 4) hx hb hts hin0 hown hK hP 0 rfl rfl 2 (by decide) (hts _ zm_305) (fun _ h9 => h9) rfl dX0_coatsAbove_20 ?_
    refine lv_iload_n hx hb dX0_coatsAbove_23 rfl (lv_at hl 1 rfl) ?_
    obtain ⟨h_5, hF⟩ := zgi hF
    refine va_iald hx hb hK hP 5 0 rfl rfl h_5 dX0_coatsAbove_24 ?_
    refine lv_iconst (v := 1) hx hb dX0_coatsAbove_25 (by decide) ?_
    refine lv_isub hx hb dX0_coatsAbove_26 ?_
    refine z_let hF (fun v4_6 hF => ?_)
    refine lv_istore (lv' := [(4, .int v4_6), (3, .int 0), (2, .int v2_4), (0, .ref (ad_b 0)), (1, .int p1)]) hx hb dX0_coatsAbove_27 hl (by decide) rfl (fun ls hl => ?_)
    exact l29 fuel v2_4 0 v4_6 hF ls (lv_sub hl [3, 4, 2, 1, 0] rfl)
  · have hF := zt c_2 hF
    refine lv_iconst (v := 0) hx hb dX0_coatsAbove_8 (by decide) ?_
    obtain rfl := Option.some.inj hF
    exact hret _ _ rfl dX0_coatsAbove_9
abbrev roX0_takeOut : Room := { frames := 0, cells := 0, slots := 0, locals := 0 }
set_option maxHeartbeats 4000000 in
set_option maxRecDepth 100000 in
theorem kX0_takeOut (l : Launch) (D : va_G) (ca : Nat → ClassId) (t : Nat → Nat) (ad_b : Nat → Nat) (b_heaps : Int32) (b_piles : Nat → Nat → Int32) (b_heights : Nat → Int32) (b_spots : Nat → Int32) (p1 : Int32) (p2 : Int32) (fuel : Nat) (o : (Nat → Nat → Int32) × (Nat → Int32) × (Nat → Int32)) (hF : fX0_takeOut fuel b_piles b_heights b_spots p1 p2 = some o) : zMv l D (zT ca) t yX0_takeOut (.code yX0_takeOut cX0_takeOut 4 none :: zW) roX0_takeOut [.ref (ad_b 0), .int p1, .int p2] (wX0_b ca ad_b b_heaps b_piles b_heights b_spots) (wX0_b ca ad_b b_heaps o.1 o.2.1 o.2.2) := by
  refine zMv_of (cc := cX0_takeOut) (maxL := 4) (by decide) rfl (Nat.le_of_ble_eq_true rfl) ?_
  intro p e s m args below meth c A Q ls ⟨hx, hb, hml, hown, hts, hA, hK, hZ, hS⟩ hret hP hD hl
  have hts := fun w h => hts w (List.mem_cons_of_mem _ h)
  have hown : s.vm.findClass RX0 = some m.cls := hown
  have hl : lv_has ls 4 [(0, .ref (ad_b 0)), (1, .int p1), (2, .int p2)] := hl
  have hin0 := zin_X0
  have l26 : ∀ (n26 : Nat) (v3 : Int32) (b_piles : Nat → Nat → Int32) (b_heights : Nat → Int32) (b_spots : Nat → Int32) (H : Heap) (locs : List Loc), fX0_takeOut_L26 p1 n26 v3 b_piles b_heights b_spots = some o → va_P D vwCl (wX0_b ca ad_b b_heaps b_piles b_heights b_spots) H → va_D A (wX0_b ca ad_b b_heaps b_piles b_heights b_spots) → va_S A s.heap H locs → ∀ ls : Array Slot, lv_has ls 4 [(0, .ref (ad_b 0)), (1, .int p1), (3, .int v3)] → W p l e roX0_takeOut s m args below meth c H locs 0 0 Q (F0 m 26 ls []) := by
    intro n26
    induction n26 with
    | zero =>
      intro v3 b_piles b_heights b_spots H locs hF
      rw [fX0_takeOut_L26] at hF
      cases hF
    | succ n26 ih26 =>
      intro v3 b_piles b_heights b_spots H locs hF hP hD hS ls hl
      rw [fX0_takeOut_L26] at hF
      refine lv_iload_n hx hb dX0_takeOut_26 rfl (lv_at hl 2 rfl) ?_
      refine lv_aload_n hx hb dX0_takeOut_27 rfl (lv_at hl 0 rfl) ?_
      refine va_get (D := D) (ci := 0) (v := .ref (ad_b 5)) (C := RX0) (T := TX0) (N := 4) hx hb hts hin0 hown hK hP 0 rfl rfl 2 (by decide) (hts _ zm_305) (fun _ h9 => h9) rfl dX0_takeOut_28 ?_
      refine lv_iload_n hx hb dX0_takeOut_31 rfl (lv_at hl 1 rfl) ?_
      obtain ⟨h_6, hF⟩ := zgi hF
      refine va_iald hx hb hK hP 5 0 rfl rfl h_6 dX0_takeOut_32 ?_
      refine lv_icmp_ge (tgt := 60) hx hb dX0_takeOut_33 (by decide) (fun c_7 => ?_) (fun c_7 => ?_)
      · have hF := zt c_7 hF
        obtain rfl := Option.some.inj hF
        exact hret _ _ _ _ hP hD hS dX0_takeOut_60
      · have hF := zf c_7 hF
        refine lv_aload_n hx hb dX0_takeOut_36 rfl (lv_at hl 0 rfl) ?_
        refine va_get (D := D) (ci := 0) (v := .ref (ad_b 1)) (C := RX0) (T := TX0) (N := 4) hx hb hts hin0 hown hK hP 0 rfl rfl 1 (by decide) (hts _ zm_309) (fun _ h9 => h9) rfl dX0_takeOut_37 ?_
        refine lv_iload_n hx hb dX0_takeOut_40 rfl (lv_at hl 1 rfl) ?_
        refine z_aald hx hb hK hP 1 4 rfl rfl rfl h_6 dX0_takeOut_41 ?_
        refine lv_iload_n hx hb dX0_takeOut_42 rfl (lv_at hl 2 rfl) ?_
        refine lv_aload_n hx hb dX0_takeOut_43 rfl (lv_at hl 0 rfl) ?_
        refine va_get (D := D) (ci := 0) (v := .ref (ad_b 1)) (C := RX0) (T := TX0) (N := 4) hx hb hts hin0 hown hK hP 0 rfl rfl 1 (by decide) (hts _ zm_309) (fun _ h9 => h9) rfl dX0_takeOut_44 ?_
        refine lv_iload_n hx hb dX0_takeOut_47 rfl (lv_at hl 1 rfl) ?_
        refine z_aald hx hb hK hP 1 4 rfl rfl rfl h_6 dX0_takeOut_48 ?_
        refine lv_iload_n hx hb dX0_takeOut_49 rfl (lv_at hl 2 rfl) ?_
        refine lv_iconst (v := 1) hx hb dX0_takeOut_50 (by decide) ?_
        refine lv_iadd hx hb dX0_takeOut_51 ?_
        obtain ⟨h_8, hF⟩ := zgi hF
        refine z_rald hx hb hK hP 2 0 rfl rfl rfl rfl (zin_lt h_6) h_8 dX0_takeOut_52 ?_
        obtain ⟨h_9, hF⟩ := zgi hF
        refine z_rast hx hb hK hP hD hS 2 0 rfl rfl rfl rfl (zin_lt h_6) h_9 dX0_takeOut_53 (fun g => (wX0_b ca ad_b b_heaps g b_heights b_spots)) (fun _ => rfl) (fun _ => rfl) (fun _ => rfl) hF (fun b_piles_10 H locs hF hP hD hS => ?_)
        refine z_iinc (kv := 1) hx hb 2 dX0_takeOut_54 hl rfl (by decide) (by decide) (fun g => [(3, .int g), (0, .ref (ad_b 0)), (1, .int p1)]) (fun _ => rfl) hF (fun v3_11 ls hF hl => ?_)
        refine lv_goto (tgt := 26) hx hb dX0_takeOut_57 (by decide) ?_
        exact ih26 v3_11 b_piles_10 b_heights b_spots _ _ hF hP hD hS ls (lv_sub hl [1, 2, 0] rfl)
  unfold fX0_takeOut at hF
  refine lv_aload_n hx hb dX0_takeOut_0 rfl (lv_at hl 0 rfl) ?_
  refine va_get (D := D) (ci := 0) (v := .ref (ad_b 6)) (C := RX0) (T := TX0) (N := 4) hx hb hts hin0 hown hK hP 0 rfl rfl 3 (by decide) (hts _ zm_306) (fun _ h9 => h9) rfl dX0_takeOut_1 ?_
  refine lv_aload_n hx hb dX0_takeOut_4 rfl (lv_at hl 0 rfl) ?_
  refine va_get (D := D) (ci := 0) (v := .ref (ad_b 1)) (C := RX0) (T := TX0) (N := 4) hx hb hts hin0 hown hK hP 0 rfl rfl 1 (by decide) (hts _ zm_309) (fun _ h9 => h9) rfl dX0_takeOut_5 ?_
  refine lv_iload_n hx hb dX0_takeOut_8 rfl (lv_at hl 1 rfl) ?_
  obtain ⟨h_1, hF⟩ := zgi hF
  refine z_aald hx hb hK hP 1 4 rfl rfl rfl h_1 dX0_takeOut_9 ?_
  refine lv_iload_n hx hb dX0_takeOut_10 rfl (lv_at hl 2 rfl) ?_
  obtain ⟨h_2, hF⟩ := zgi hF
  refine z_rald hx hb hK hP 2 0 rfl rfl rfl rfl (zin_lt h_1) h_2 dX0_takeOut_11 ?_
  refine lv_iconst (v := (-1)) hx hb dX0_takeOut_12 (by decide) ?_
  obtain ⟨h_3, hF⟩ := zgi hF
  refine z_iast hx hb hK hP hD hS 6 0 rfl rfl h_3 dX0_takeOut_13 (fun g => (wX0_b ca ad_b b_heaps b_piles b_heights g)) (fun _ => rfl) hF (fun b_spots_4 H locs hF hP hD hS => ?_)
  refine lv_aload_n hx hb dX0_takeOut_14 rfl (lv_at hl 0 rfl) ?_
  refine va_get (D := D) (ci := 0) (v := .ref (ad_b 5)) (C := RX0) (T := TX0) (N := 4) hx hb hts hin0 hown hK hP 0 rfl rfl 2 (by decide) (hts _ zm_305) (fun _ h9 => h9) rfl dX0_takeOut_15 ?_
  refine lv_iload_n hx hb dX0_takeOut_18 rfl (lv_at hl 1 rfl) ?_
  refine lv_dup2_11 hx hb dX0_takeOut_19 rfl rfl ?_
  refine va_iald hx hb hK hP 5 0 rfl rfl h_1 dX0_takeOut_20 ?_
  refine lv_iconst (v := 1) hx hb dX0_takeOut_21 (by decide) ?_
  refine lv_isub hx hb dX0_takeOut_22 ?_
  refine z_iast hx hb hK hP hD hS 5 0 rfl rfl h_1 dX0_takeOut_23 (fun g => (wX0_b ca ad_b b_heaps b_piles g b_spots_4)) (fun _ => rfl) hF (fun b_heights_5 H locs hF hP hD hS => ?_)
  refine lv_iload_n hx hb dX0_takeOut_24 rfl (lv_at hl 2 rfl) ?_
  refine lv_istore_n (lv' := [(3, .int p2), (0, .ref (ad_b 0)), (1, .int p1), (2, .int p2)]) hx hb dX0_takeOut_25 rfl hl (by decide) rfl (fun ls hl => ?_)
  exact l26 fuel p2 b_piles b_heights_5 b_spots_4 _ _ hF hP hD hS ls (lv_sub hl [1, 2, 0] rfl)
abbrev roX0_turnFrom : Room := { frames := 0, cells := 0, slots := 0, locals := 0 }
set_option maxHeartbeats 4000000 in
set_option maxRecDepth 100000 in
theorem kX0_turnFrom (l : Launch) (D : va_G) (ca : Nat → ClassId) (t : Nat → Nat) (ad_b : Nat → Nat) (b_heaps : Int32) (b_piles : Nat → Nat → Int32) (b_heights : Nat → Int32) (b_spots : Nat → Int32) (p1 : Int32) (p2 : Int32) (fuel : Nat) (o : (Nat → Nat → Int32)) (hF : fX0_turnFrom fuel b_piles b_heights p1 p2 = some o) : zMv l D (zT ca) t yX0_turnFrom (.code yX0_turnFrom cX0_turnFrom 6 none :: zW) roX0_turnFrom [.ref (ad_b 0), .int p1, .int p2] (wX0_b ca ad_b b_heaps b_piles b_heights b_spots) (wX0_b ca ad_b b_heaps o b_heights b_spots) := by
  refine zMv_of (cc := cX0_turnFrom) (maxL := 6) (by decide) rfl (Nat.le_of_ble_eq_true rfl) ?_
  intro p e s m args below meth c A Q ls ⟨hx, hb, hml, hown, hts, hA, hK, hZ, hS⟩ hret hP hD hl
  have hts := fun w h => hts w (List.mem_cons_of_mem _ h)
  have hown : s.vm.findClass RX0 = some m.cls := hown
  have hl : lv_has ls 6 [(0, .ref (ad_b 0)), (1, .int p1), (2, .int p2)] := hl
  have hin0 := zin_X0
  have l12 : ∀ (n12 : Nat) (v3 : Int32) (v4 : Int32) (b_piles : Nat → Nat → Int32) (H : Heap) (locs : List Loc), fX0_turnFrom_L12 p1 n12 v3 v4 b_piles = some o → va_P D vwCl (wX0_b ca ad_b b_heaps b_piles b_heights b_spots) H → va_D A (wX0_b ca ad_b b_heaps b_piles b_heights b_spots) → va_S A s.heap H locs → ∀ ls : Array Slot, lv_has ls 6 [(0, .ref (ad_b 0)), (1, .int p1), (3, .int v3), (4, .int v4)] → W p l e roX0_turnFrom s m args below meth c H locs 0 0 Q (F0 m 12 ls []) := by
    intro n12
    induction n12 with
    | zero =>
      intro v3 v4 b_piles H locs hF
      rw [fX0_turnFrom_L12] at hF
      cases hF
    | succ n12 ih12 =>
      intro v3 v4 b_piles H locs hF hP hD hS ls hl
      rw [fX0_turnFrom_L12] at hF
      refine lv_iload hx hb dX0_turnFrom_12 (lv_at hl 3 rfl) ?_
      refine lv_iload_n hx hb dX0_turnFrom_14 rfl (lv_at hl 2 rfl) ?_
      refine lv_icmp_le (tgt := 65) hx hb dX0_turnFrom_15 (by decide) (fun c_3 => ?_) (fun c_3 => ?_)
      · have hF := zt c_3 hF
        obtain rfl := Option.some.inj hF
        exact hret _ _ _ _ hP hD hS dX0_turnFrom_65
      · have hF := zf c_3 hF
        refine lv_aload_n hx hb dX0_turnFrom_18 rfl (lv_at hl 0 rfl) ?_
        refine va_get (D := D) (ci := 0) (v := .ref (ad_b 1)) (C := RX0) (T := TX0) (N := 4) hx hb hts hin0 hown hK hP 0 rfl rfl 1 (by decide) (hts _ zm_309) (fun _ h9 => h9) rfl dX0_turnFrom_19 ?_
        refine lv_iload_n hx hb dX0_turnFrom_22 rfl (lv_at hl 1 rfl) ?_
        obtain ⟨h_4, hF⟩ := zgi hF
        refine z_aald hx hb hK hP 1 4 rfl rfl rfl h_4 dX0_turnFrom_23 ?_
        refine lv_iload_n hx hb dX0_turnFrom_24 rfl (lv_at hl 2 rfl) ?_
        obtain ⟨h_5, hF⟩ := zgi hF
        refine z_rald hx hb hK hP 2 0 rfl rfl rfl rfl (zin_lt h_4) h_5 dX0_turnFrom_25 ?_
        refine z_let hF (fun v5_6 hF => ?_)
        refine lv_istore (lv' := [(5, .int v5_6), (0, .ref (ad_b 0)), (1, .int p1), (3, .int v3), (4, .int v4)]) hx hb dX0_turnFrom_26 hl (by decide) rfl (fun ls hl => ?_)
        refine lv_aload_n hx hb dX0_turnFrom_28 rfl (lv_at hl 1 rfl) ?_
        refine va_get (D := D) (ci := 0) (v := .ref (ad_b 1)) (C := RX0) (T := TX0) (N := 4) hx hb hts hin0 hown hK hP 0 rfl rfl 1 (by decide) (hts _ zm_309) (fun _ h9 => h9) rfl dX0_turnFrom_29 ?_
        refine lv_iload_n hx hb dX0_turnFrom_32 rfl (lv_at hl 2 rfl) ?_
        refine z_aald hx hb hK hP 1 4 rfl rfl rfl h_4 dX0_turnFrom_33 ?_
        refine lv_iload_n hx hb dX0_turnFrom_34 rfl (lv_at hl 3 rfl) ?_
        refine lv_aload_n hx hb dX0_turnFrom_35 rfl (lv_at hl 1 rfl) ?_
        refine va_get (D := D) (ci := 0) (v := .ref (ad_b 1)) (C := RX0) (T := TX0) (N := 4) hx hb hts hin0 hown hK hP 0 rfl rfl 1 (by decide) (hts _ zm_309) (fun _ h9 => h9) rfl dX0_turnFrom_36 ?_
        refine lv_iload_n hx hb dX0_turnFrom_39 rfl (lv_at hl 2 rfl) ?_
        refine z_aald hx hb hK hP 1 4 rfl rfl rfl h_4 dX0_turnFrom_40 ?_
        refine lv_iload hx hb dX0_turnFrom_41 (lv_at hl 4 rfl) ?_
        obtain ⟨h_7, hF⟩ := zgi hF
        refine z_rald hx hb hK hP 2 0 rfl rfl rfl rfl (zin_lt h_4) h_7 dX0_turnFrom_43 ?_
        refine z_rast hx hb hK hP hD hS 2 0 rfl rfl rfl rfl (zin_lt h_4) h_5 dX0_turnFrom_44 (fun g => (wX0_b ca ad_b b_heaps g b_heights b_spots)) (fun _ => rfl) (fun _ => rfl) (fun _ => rfl) hF (fun b_piles_8 H locs hF hP hD hS => ?_)
        refine lv_aload_n hx hb dX0_turnFrom_45 rfl (lv_at hl 1 rfl) ?_
        refine va_get (D := D) (ci := 0) (v := .ref (ad_b 1)) (C := RX0) (T := TX0) (N := 4) hx hb hts hin0 hown hK hP 0 rfl rfl 1 (by decide) (hts _ zm_309) (fun _ h9 => h9) rfl dX0_turnFrom_46 ?_
        refine lv_iload_n hx hb dX0_turnFrom_49 rfl (lv_at hl 2 rfl) ?_
        refine z_aald hx hb hK hP 1 4 rfl rfl rfl h_4 dX0_turnFrom_50 ?_
        refine lv_iload hx hb dX0_turnFrom_51 (lv_at hl 4 rfl) ?_
        refine lv_iload hx hb dX0_turnFrom_53 (lv_at hl 0 rfl) ?_
        refine z_rast hx hb hK hP hD hS 2 0 rfl rfl rfl rfl (zin_lt h_4) h_7 dX0_turnFrom_55 (fun g => (wX0_b ca ad_b b_heaps g b_heights b_spots)) (fun _ => rfl) (fun _ => rfl) (fun _ => rfl) hF (fun b_piles_9 H locs hF hP hD hS => ?_)
        refine z_iinc (kv := 1) hx hb 3 dX0_turnFrom_56 hl rfl (by decide) (by decide) (fun g => [(3, .int g), (5, .int v5_6), (0, .ref (ad_b 0)), (1, .int p1), (4, .int v4)]) (fun _ => rfl) hF (fun v3_10 ls hF hl => ?_)
        refine z_iinc (kv := (-1)) hx hb 4 dX0_turnFrom_59 hl rfl (by decide) (by decide) (fun g => [(4, .int g), (3, .int v3_10), (5, .int v5_6), (0, .ref (ad_b 0)), (1, .int p1)]) (fun _ => rfl) hF (fun v4_11 ls hF hl => ?_)
        refine lv_goto (tgt := 12) hx hb dX0_turnFrom_62 (by decide) ?_
        exact ih12 v3_10 v4_11 b_piles_9 _ _ hF hP hD hS ls (lv_sub hl [3, 4, 1, 0] rfl)
  unfold fX0_turnFrom at hF
  refine lv_iload_n hx hb dX0_turnFrom_0 rfl (lv_at hl 2 rfl) ?_
  refine lv_istore_n (lv' := [(3, .int p2), (0, .ref (ad_b 0)), (1, .int p1), (2, .int p2)]) hx hb dX0_turnFrom_1 rfl hl (by decide) rfl (fun ls hl => ?_)
  refine lv_aload_n hx hb dX0_turnFrom_2 rfl (lv_at hl 1 rfl) ?_
  refine va_get (D := D) (ci := 0) (v := .ref (ad_b 5)) (C := RX0) (T := TX0) (N := 4) hx hb hts hin0 hown hK hP 0 rfl rfl 2 (by decide) (hts _ zm_305) (fun _ h9 => h9) rfl dX0_turnFrom_3 ?_
  refine lv_iload_n hx hb dX0_turnFrom_6 rfl (lv_at hl 2 rfl) ?_
  obtain ⟨h_1, hF⟩ := zgi hF
  refine va_iald hx hb hK hP 5 0 rfl rfl h_1 dX0_turnFrom_7 ?_
  refine lv_iconst (v := 1) hx hb dX0_turnFrom_8 (by decide) ?_
  refine lv_isub hx hb dX0_turnFrom_9 ?_
  refine z_let hF (fun v4_2 hF => ?_)
  refine lv_istore (lv' := [(4, .int v4_2), (3, .int p2), (0, .ref (ad_b 0)), (1, .int p1), (2, .int p2)]) hx hb dX0_turnFrom_10 hl (by decide) rfl (fun ls hl => ?_)
  exact l12 fuel p2 v4_2 b_piles _ _ hF hP hD hS ls (lv_sub hl [2, 3, 1, 0] rfl)
theorem zdv_X0_lay : yX0_lay.cls = RX0 ∧ yX0_lay.cls ≠ "java/lang/invoke/MethodHandle" ∧ yX0_lay.cls ≠ "java/lang/invoke/VarHandle" ∧ (parseMethodDescriptor yX0_lay.desc).map (fun d => d.parameters.length) = some 2 := by decide +kernel
abbrev roX0_moveFrom : Room := { frames := 1, cells := 0, slots := 0, locals := 22 }
set_option maxHeartbeats 4000000 in
set_option maxRecDepth 100000 in
theorem kX0_moveFrom (l : Launch) (D : va_G) (ca : Nat → ClassId) (t : Nat → Nat) (ad_b : Nat → Nat) (b_heaps : Int32) (b_piles : Nat → Nat → Int32) (b_heights : Nat → Int32) (b_spots : Nat → Int32) (p1 : Int32) (p2 : Int32) (fuel : Nat) (o : (Nat → Nat → Int32) × (Nat → Int32) × (Nat → Int32)) (hF : fX0_moveFrom fuel b_heaps b_piles b_heights b_spots p1 p2 = some o) : zMv l D (zT ca) t yX0_moveFrom (.code yX0_moveFrom cX0_moveFrom 5 none :: zW) roX0_moveFrom [.ref (ad_b 0), .int p1, .int p2] (wX0_b ca ad_b b_heaps b_piles b_heights b_spots) (wX0_b ca ad_b b_heaps o.1 o.2.1 o.2.2) := by
  refine zMv_of (cc := cX0_moveFrom) (maxL := 5) (by decide) rfl (Nat.le_of_ble_eq_true rfl) ?_
  intro p e s m args below meth c A Q ls ⟨hx, hb, hml, hown, hts, hA, hK, hZ, hS⟩ hret hP hD hl
  have hts := fun w h => hts w (List.mem_cons_of_mem _ h)
  have hown : s.vm.findClass RX0 = some m.cls := hown
  have hl : lv_has ls 5 [(0, .ref (ad_b 0)), (1, .int p1), (2, .int p2)] := hl
  have hin0 := zin_X0
  have l28 : ∀ (n28 : Nat) (v3 : Int32) (v4 : Int32) (b_piles : Nat → Nat → Int32) (b_heights : Nat → Int32) (b_spots : Nat → Int32) (H : Heap) (locs : List Loc), fX0_moveFrom_L28 fuel p1 p2 n28 v3 v4 b_piles b_heights b_spots = some o → va_P D vwCl (wX0_b ca ad_b b_heaps b_piles b_heights b_spots) H → va_D A (wX0_b ca ad_b b_heaps b_piles b_heights b_spots) → va_S A s.heap H locs → ∀ ls : Array Slot, lv_has ls 5 [(0, .ref (ad_b 0)), (1, .int p1), (2, .int p2), (3, .int v3), (4, .int v4)] → W p l e roX0_moveFrom s m args below meth c H locs 0 0 Q (F0 m 28 ls []) := by
    intro n28
    induction n28 with
    | zero =>
      intro v3 v4 b_piles b_heights b_spots H locs hF
      rw [fX0_moveFrom_L28] at hF
      cases hF
    | succ n28 ih28 =>
      intro v3 v4 b_piles b_heights b_spots H locs hF hP hD hS ls hl
      rw [fX0_moveFrom_L28] at hF
      refine lv_iload hx hb dX0_moveFrom_28 (lv_at hl 4 rfl) ?_
      refine lv_iload_n hx hb dX0_moveFrom_30 rfl (lv_at hl 2 rfl) ?_
      refine lv_icmp_lt (tgt := 62) hx hb dX0_moveFrom_31 (by decide) (fun c_7 => ?_) (fun c_7 => ?_)
      · have hF := zt c_7 hF
        obtain rfl := Option.some.inj hF
        exact hret _ _ _ _ hP hD hS dX0_moveFrom_62
      · have hF := zf c_7 hF
        refine lv_aload_n hx hb dX0_moveFrom_34 rfl (lv_at hl 0 rfl) ?_
        refine va_get (D := D) (ci := 0) (v := .ref (ad_b 5)) (C := RX0) (T := TX0) (N := 4) hx hb hts hin0 hown hK hP 0 rfl rfl 2 (by decide) (hts _ zm_305) (fun _ h9 => h9) rfl dX0_moveFrom_35 ?_
        refine lv_iload_n hx hb dX0_moveFrom_38 rfl (lv_at hl 1 rfl) ?_
        refine lv_iload hx hb dX0_moveFrom_39 (lv_at hl 4 rfl) ?_
        obtain ⟨h_8, hF⟩ := zgi hF
        refine z_iast hx hb hK hP hD hS 5 0 rfl rfl h_8 dX0_moveFrom_41 (fun g => (wX0_b ca ad_b b_heaps b_piles g b_spots)) (fun _ => rfl) hF (fun b_heights_9 H locs hF hP hD hS => ?_)
        refine lv_aload_n hx hb dX0_moveFrom_42 rfl (lv_at hl 0 rfl) ?_
        refine lv_iload_n hx hb dX0_moveFrom_43 rfl (lv_at hl 3 rfl) ?_
        refine lv_aload_n hx hb dX0_moveFrom_44 rfl (lv_at hl 0 rfl) ?_
        refine va_get (D := D) (ci := 0) (v := .ref (ad_b 1)) (C := RX0) (T := TX0) (N := 4) hx hb hts hin0 hown hK hP 0 rfl rfl 1 (by decide) (hts _ zm_309) (fun _ h9 => h9) rfl dX0_moveFrom_45 ?_
        refine lv_iload_n hx hb dX0_moveFrom_48 rfl (lv_at hl 1 rfl) ?_
        refine z_aald hx hb hK hP 1 4 rfl rfl rfl h_8 dX0_moveFrom_49 ?_
        refine lv_iload hx hb dX0_moveFrom_50 (lv_at hl 4 rfl) ?_
        obtain ⟨h_10, hF⟩ := zgi hF
        refine z_rald hx hb hK hP 2 0 rfl rfl rfl rfl (zin_lt h_8) h_10 dX0_moveFrom_52 ?_
        obtain ⟨o_11, hc_11, hF⟩ := zb hF
        refine zcVv (rest := []) (ws' := (wX0_b ca ad_b b_heaps o_11.1 o_11.2.1 o_11.2.2)) (kX0_lay l D ca t ad_b b_heaps b_piles b_heights_9 b_spots v3 ((b_piles (p1.toNatClampNeg) v4.toNatClampNeg)) fuel _ hc_11) ⟨hx, hb, hml, hown, hts⟩ (zcwV hts zm_316 zm_317 zm_318 zm_314 zm_315 rfl rfl zdv_X0_lay ⟨Nat.le_of_ble_eq_true rfl, Nat.le_of_ble_eq_true rfl⟩) hA hK hZ hP hD hS [0, 1, 2, 3, 4, 5, 6] [] [0, 1, 2, 3, 4, 5, 6] rfl rfl rfl rfl rfl rfl rfl 0 0 rfl rfl rfl hl.1 (Nat.le_of_ble_eq_true rfl) dX0_moveFrom_53 rfl (fun H locs hP hD hS => ?_)
        refine z_iinc (kv := (-1)) hx hb 4 dX0_moveFrom_56 hl rfl (by decide) (by decide) (fun g => [(4, .int g), (0, .ref (ad_b 0)), (1, .int p1), (2, .int p2), (3, .int v3)]) (fun _ => rfl) hF (fun v4_12 ls hF hl => ?_)
        refine lv_goto (tgt := 28) hx hb dX0_moveFrom_59 (by decide) ?_
        exact ih28 v3 v4_12 o_11.1 o_11.2.1 o_11.2.2 _ _ hF hP hD hS ls (lv_sub hl [1, 2, 3, 4, 0] rfl)
  unfold fX0_moveFrom at hF
  refine lv_iload_n hx hb dX0_moveFrom_0 rfl (lv_at hl 1 rfl) ?_
  refine lv_iconst (v := 1) hx hb dX0_moveFrom_1 (by decide) ?_
  refine lv_iadd hx hb dX0_moveFrom_2 ?_
  refine lv_aload_n hx hb dX0_moveFrom_3 rfl (lv_at hl 0 rfl) ?_
  refine va_get (D := D) (ci := 0) (v := .int b_heaps) (C := RX0) (T := TX0) (N := 4) hx hb hts hin0 hown hK hP 0 rfl rfl 0 (by decide) (hts _ zm_304) (fun _ h9 => h9) rfl dX0_moveFrom_4 ?_
  refine lv_icmp_ge (tgt := 16) hx hb dX0_moveFrom_7 (by decide) (fun c_1 => ?_) (fun c_1 => ?_)
  · have hF := zt c_1 hF
    refine lv_iconst (v := 0) hx hb dX0_moveFrom_16 (by decide) ?_
    refine lv_istore_n (lv' := [(3, .int 0), (0, .ref (ad_b 0)), (1, .int p1), (2, .int p2)]) hx hb dX0_moveFrom_17 rfl hl (by decide) rfl (fun ls hl => ?_)
    refine lv_aload_n hx hb dX0_moveFrom_18 rfl (lv_at hl 1 rfl) ?_
    refine va_get (D := D) (ci := 0) (v := .ref (ad_b 5)) (C := RX0) (T := TX0) (N := 4) hx hb hts hin0 hown hK hP 0 rfl rfl 2 (by decide) (hts _ zm_305) (fun _ h9 => h9) rfl dX0_moveFrom_19 ?_
    refine lv_iload_n hx hb dX0_moveFrom_22 rfl (lv_at hl 2 rfl) ?_
    obtain ⟨h_2, hF⟩ := zgi hF
    refine va_iald hx hb hK hP 5 0 rfl rfl h_2 dX0_moveFrom_23 ?_
    refine lv_iconst (v := 1) hx hb dX0_moveFrom_24 (by decide) ?_
    refine lv_isub hx hb dX0_moveFrom_25 ?_
    refine z_let hF (fun v4_3 hF => ?_)
    refine lv_istore (lv' := [(4, .int v4_3), (3, .int 0), (0, .ref (ad_b 0)), (1, .int p1), (2, .int p2)]) hx hb dX0_moveFrom_26 hl (by decide) rfl (fun ls hl => ?_)
    exact l28 fuel 0 v4_3 b_piles b_heights b_spots _ _ hF hP hD hS ls (lv_sub hl [2, 3, 4, 1, 0] rfl)
  · have hF := zf c_1 hF
    refine lv_iload_n hx hb dX0_moveFrom_10 rfl (lv_at hl 1 rfl) ?_
    refine lv_iconst (v := 1) hx hb dX0_moveFrom_11 (by decide) ?_
    refine lv_iadd hx hb dX0_moveFrom_12 ?_
    refine lv_goto (tgt := 17) hx hb dX0_moveFrom_13 (by decide) ?_
    refine z_let hF (fun v3_4 hF => ?_)
    refine lv_istore_n (lv' := [(3, .int v3_4), (0, .ref (ad_b 0)), (1, .int p1), (2, .int p2)]) hx hb dX0_moveFrom_17 rfl hl (by decide) rfl (fun ls hl => ?_)
    refine lv_aload_n hx hb dX0_moveFrom_18 rfl (lv_at hl 1 rfl) ?_
    refine va_get (D := D) (ci := 0) (v := .ref (ad_b 5)) (C := RX0) (T := TX0) (N := 4) hx hb hts hin0 hown hK hP 0 rfl rfl 2 (by decide) (hts _ zm_305) (fun _ h9 => h9) rfl dX0_moveFrom_19 ?_
    refine lv_iload_n hx hb dX0_moveFrom_22 rfl (lv_at hl 2 rfl) ?_
    obtain ⟨h_5, hF⟩ := zgi hF
    refine va_iald hx hb hK hP 5 0 rfl rfl h_5 dX0_moveFrom_23 ?_
    refine lv_iconst (v := 1) hx hb dX0_moveFrom_24 (by decide) ?_
    refine lv_isub hx hb dX0_moveFrom_25 ?_
    refine z_let hF (fun v4_6 hF => ?_)
    refine lv_istore (lv' := [(4, .int v4_6), (3, .int v3_4), (0, .ref (ad_b 0)), (1, .int p1), (2, .int p2)]) hx hb dX0_moveFrom_26 hl (by decide) rfl (fun ls hl => ?_)
    exact l28 fuel v3_4 v4_6 b_piles b_heights b_spots _ _ hF hP hD hS ls (lv_sub hl [2, 3, 4, 1, 0] rfl)
theorem zdv_X0_isFree : yX0_isFree.cls = RX0 ∧ yX0_isFree.cls ≠ "java/lang/invoke/MethodHandle" ∧ yX0_isFree.cls ≠ "java/lang/invoke/VarHandle" ∧ (parseMethodDescriptor yX0_isFree.desc).map (fun d => d.parameters.length) = some 1 := by decide +kernel
theorem zdv_X0_takeOut : yX0_takeOut.cls = RX0 ∧ yX0_takeOut.cls ≠ "java/lang/invoke/MethodHandle" ∧ yX0_takeOut.cls ≠ "java/lang/invoke/VarHandle" ∧ (parseMethodDescriptor yX0_takeOut.desc).map (fun d => d.parameters.length) = some 2 := by decide +kernel
theorem zdv_X0_topOf : yX0_topOf.cls = RX0 ∧ yX0_topOf.cls ≠ "java/lang/invoke/MethodHandle" ∧ yX0_topOf.cls ≠ "java/lang/invoke/VarHandle" ∧ (parseMethodDescriptor yX0_topOf.desc).map (fun d => d.parameters.length) = some 1 := by decide +kernel
abbrev roX0_giveIfFree : Room := { frames := 2, cells := 0, slots := 0, locals := 41 }
set_option maxHeartbeats 4000000 in
set_option maxRecDepth 100000 in
theorem kX0_giveIfFree (l : Launch) (D : va_G) (ca : Nat → ClassId) (t : Nat → Nat) (ad_b : Nat → Nat) (b_heaps : Int32) (b_piles : Nat → Nat → Int32) (b_heights : Nat → Int32) (b_spots : Nat → Int32) (p1 : Int32) (fuel : Nat) (o : Int32 × (Nat → Nat → Int32) × (Nat → Int32) × (Nat → Int32)) (hF : fX0_giveIfFree fuel b_piles b_heights b_spots p1 = some o) : zMi l D (zT ca) t yX0_giveIfFree (.code yX0_giveIfFree cX0_giveIfFree 2 (some .boolean) :: zW) roX0_giveIfFree [.ref (ad_b 0), .int p1] (wX0_b ca ad_b b_heaps b_piles b_heights b_spots) (wX0_b ca ad_b b_heaps o.2.1 o.2.2.1 o.2.2.2) o.1 := by
  refine zMi_of (cc := cX0_giveIfFree) (maxL := 2) (by decide) rfl (Nat.le_of_ble_eq_true rfl) ?_
  intro p e s m args below meth c A Q ls ⟨hx, hb, hml, hown, hts, hA, hK, hZ, hS⟩ hret hP hD hl
  have hts := fun w h => hts w (List.mem_cons_of_mem _ h)
  have hown : s.vm.findClass RX0 = some m.cls := hown
  have hl : lv_has ls 2 [(0, .ref (ad_b 0)), (1, .int p1)] := hl
  have hin0 := zin_X0
  unfold fX0_giveIfFree at hF
  refine lv_aload_n hx hb dX0_giveIfFree_0 rfl (lv_at hl 0 rfl) ?_
  refine lv_iload_n hx hb dX0_giveIfFree_1 rfl (lv_at hl 1 rfl) ?_
  obtain ⟨o_1, hc_1, hF⟩ := zb hF
  refine zcVR (rest := []) (kX0_isFree l D ca t ad_b b_heaps b_piles b_heights b_spots p1 fuel _ hc_1) ⟨hx, hb, hml, hown, hts⟩ (zcwV hts zm_320 zm_321 zm_322 zm_314 zm_319 rfl rfl zdv_X0_isFree ⟨Nat.le_of_ble_eq_true rfl, Nat.le_of_ble_eq_true rfl⟩) hA hK hZ hP hD hS [0, 1, 2, 3, 4, 5, 6] rfl rfl 0 0 rfl rfl rfl hl.1 (Nat.le_of_ble_eq_true rfl) dX0_giveIfFree_2 rfl ?_
  refine lv_if_eq (tgt := 17) hx hb dX0_giveIfFree_5 (by decide) (fun c_2 => ?_) (fun c_2 => ?_)
  · have hF := zt c_2 hF
    refine lv_aload_n hx hb dX0_giveIfFree_17 rfl (lv_at hl 0 rfl) ?_
    refine lv_iload_n hx hb dX0_giveIfFree_18 rfl (lv_at hl 1 rfl) ?_
    obtain ⟨o_3, hc_3, hF⟩ := zb hF
    refine zcVR (rest := []) (kX0_isOnHeap l D ca t ad_b b_heaps b_piles b_heights b_spots p1 fuel _ hc_3) ⟨hx, hb, hml, hown, hts⟩ (zcwV hts zm_311 zm_312 zm_313 zm_314 zm_310 rfl rfl zdv_X0_isOnHeap ⟨Nat.le_of_ble_eq_true rfl, Nat.le_of_ble_eq_true rfl⟩) hA hK hZ hP hD hS [0, 1, 2, 3, 4, 5, 6] rfl rfl 0 0 rfl rfl rfl hl.1 (Nat.le_of_ble_eq_true rfl) dX0_giveIfFree_19 rfl ?_
    refine lv_if_eq (tgt := 39) hx hb dX0_giveIfFree_22 (by decide) (fun c_4 => ?_) (fun c_4 => ?_)
    · have hF := zt c_4 hF
      refine lv_iconst (v := 0) hx hb dX0_giveIfFree_39 (by decide) ?_
      obtain rfl := Option.some.inj hF
      exact hret _ _ _ _ hP hD hS (zbool (Or.inl rfl)) dX0_giveIfFree_40
    · have hF := zf c_4 hF
      refine lv_aload_n hx hb dX0_giveIfFree_25 rfl (lv_at hl 0 rfl) ?_
      refine lv_aload_n hx hb dX0_giveIfFree_26 rfl (lv_at hl 0 rfl) ?_
      refine va_get (D := D) (ci := 0) (v := .ref (ad_b 6)) (C := RX0) (T := TX0) (N := 4) hx hb hts hin0 hown hK hP 0 rfl rfl 3 (by decide) (hts _ zm_306) (fun _ h9 => h9) rfl dX0_giveIfFree_27 ?_
      refine lv_iload_n hx hb dX0_giveIfFree_30 rfl (lv_at hl 1 rfl) ?_
      obtain ⟨h_5, hF⟩ := zgi hF
      refine va_iald hx hb hK hP 6 0 rfl rfl h_5 dX0_giveIfFree_31 ?_
      obtain ⟨o_6, hc_6, hF⟩ := zb hF
      refine zcVR (rest := []) (kX0_topOf l D ca t ad_b b_heaps b_piles b_heights b_spots (b_spots p1.toNatClampNeg) fuel _ hc_6) ⟨hx, hb, hml, hown, hts⟩ (zcwV hts zm_324 zm_325 zm_326 zm_314 zm_323 rfl rfl zdv_X0_topOf ⟨Nat.le_of_ble_eq_true rfl, Nat.le_of_ble_eq_true rfl⟩) hA hK hZ hP hD hS [0, 1, 2, 3, 4, 5, 6] rfl rfl 0 0 rfl rfl rfl hl.1 (Nat.le_of_ble_eq_true rfl) dX0_giveIfFree_32 rfl ?_
      refine lv_iload_n hx hb dX0_giveIfFree_35 rfl (lv_at hl 1 rfl) ?_
      refine lv_icmp_eq (tgt := 41) hx hb dX0_giveIfFree_36 (by decide) (fun c_7 => ?_) (fun c_7 => ?_)
      · have hF := zt c_7 hF
        refine lv_aload_n hx hb dX0_giveIfFree_41 rfl (lv_at hl 0 rfl) ?_
        refine lv_aload_n hx hb dX0_giveIfFree_42 rfl (lv_at hl 0 rfl) ?_
        refine va_get (D := D) (ci := 0) (v := .ref (ad_b 6)) (C := RX0) (T := TX0) (N := 4) hx hb hts hin0 hown hK hP 0 rfl rfl 3 (by decide) (hts _ zm_306) (fun _ h9 => h9) rfl dX0_giveIfFree_43 ?_
        refine lv_iload_n hx hb dX0_giveIfFree_46 rfl (lv_at hl 1 rfl) ?_
        refine va_iald hx hb hK hP 6 0 rfl rfl h_5 dX0_giveIfFree_47 ?_
        refine lv_aload_n hx hb dX0_giveIfFree_48 rfl (lv_at hl 0 rfl) ?_
        refine va_get (D := D) (ci := 0) (v := .ref (ad_b 5)) (C := RX0) (T := TX0) (N := 4) hx hb hts hin0 hown hK hP 0 rfl rfl 2 (by decide) (hts _ zm_305) (fun _ h9 => h9) rfl dX0_giveIfFree_49 ?_
        refine lv_aload_n hx hb dX0_giveIfFree_52 rfl (lv_at hl 0 rfl) ?_
        refine va_get (D := D) (ci := 0) (v := .ref (ad_b 6)) (C := RX0) (T := TX0) (N := 4) hx hb hts hin0 hown hK hP 0 rfl rfl 3 (by decide) (hts _ zm_306) (fun _ h9 => h9) rfl dX0_giveIfFree_53 ?_
        refine lv_iload_n hx hb dX0_giveIfFree_56 rfl (lv_at hl 1 rfl) ?_
        refine va_iald hx hb hK hP 6 0 rfl rfl h_5 dX0_giveIfFree_57 ?_
        obtain ⟨h_8, hF⟩ := zgi hF
        refine va_iald hx hb hK hP 5 0 rfl rfl h_8 dX0_giveIfFree_58 ?_
        refine lv_iconst (v := 1) hx hb dX0_giveIfFree_59 (by decide) ?_
        refine lv_isub hx hb dX0_giveIfFree_60 ?_
        refine z_let hF (fun x_9 hF => ?_)
        obtain ⟨o_10, hc_10, hF⟩ := zb hF
        refine zcVv (rest := []) (ws' := (wX0_b ca ad_b b_heaps o_10.1 o_10.2.1 o_10.2.2)) (kX0_takeOut l D ca t ad_b b_heaps b_piles b_heights b_spots (b_spots p1.toNatClampNeg) x_9 fuel _ hc_10) ⟨hx, hb, hml, hown, hts⟩ (zcwV hts zm_328 zm_329 zm_330 zm_314 zm_327 rfl rfl zdv_X0_takeOut ⟨Nat.le_of_ble_eq_true rfl, Nat.le_of_ble_eq_true rfl⟩) hA hK hZ hP hD hS [0, 1, 2, 3, 4, 5, 6] [] [0, 1, 2, 3, 4, 5, 6] rfl rfl rfl rfl rfl rfl rfl 0 0 rfl rfl rfl hl.1 (Nat.le_of_ble_eq_true rfl) dX0_giveIfFree_61 rfl (fun H locs hP hD hS => ?_)
        refine lv_iconst (v := 1) hx hb dX0_giveIfFree_64 (by decide) ?_
        obtain rfl := Option.some.inj hF
        exact hret _ _ _ _ hP hD hS (zbool (Or.inr rfl)) dX0_giveIfFree_65
      · have hF := zf c_7 hF
        refine lv_iconst (v := 0) hx hb dX0_giveIfFree_39 (by decide) ?_
        obtain rfl := Option.some.inj hF
        exact hret _ _ _ _ hP hD hS (zbool (Or.inl rfl)) dX0_giveIfFree_40
  · have hF := zf c_2 hF
    refine lv_aload_n hx hb dX0_giveIfFree_8 rfl (lv_at hl 0 rfl) ?_
    refine va_get (D := D) (ci := 0) (v := .ref (ad_b 6)) (C := RX0) (T := TX0) (N := 4) hx hb hts hin0 hown hK hP 0 rfl rfl 3 (by decide) (hts _ zm_306) (fun _ h9 => h9) rfl dX0_giveIfFree_9 ?_
    refine lv_iload_n hx hb dX0_giveIfFree_12 rfl (lv_at hl 1 rfl) ?_
    refine lv_iconst (v := (-1)) hx hb dX0_giveIfFree_13 (by decide) ?_
    obtain ⟨h_11, hF⟩ := zgi hF
    refine z_iast hx hb hK hP hD hS 6 0 rfl rfl h_11 dX0_giveIfFree_14 (fun g => (wX0_b ca ad_b b_heaps b_piles b_heights g)) (fun _ => rfl) hF (fun b_spots_12 H locs hF hP hD hS => ?_)
    refine lv_iconst (v := 1) hx hb dX0_giveIfFree_15 (by decide) ?_
    obtain rfl := Option.some.inj hF
    exact hret _ _ _ _ hP hD hS (zbool (Or.inr rfl)) dX0_giveIfFree_16
