abbrev roX8_findNothing : Room := { frames := 0, cells := 0, slots := 0, locals := 0 }
set_option maxHeartbeats 4000000 in
set_option maxRecDepth 100000 in
theorem kX8_findNothing (l : Launch) (D : va_G) (ca : Nat → ClassId) (t : Nat → Nat) (ad_q : Nat → Nat) (ad_t : Nat → Nat) (ad_n : Nat → Nat) (q_row : Nat → Int32) (q_firstsLifts : Nat → Int32) (q_othersLifts : Nat → Int32) (q_seed : Int32) (q_found : Int32) (q_foundLifts : Int32) (q_mostLifts : Int32) (q_sumOfLifts : Int32) (q_sumOfMissers : Int32) (fuel : Nat) (o : Int32 × Int32) (hF : fX8_findNothing fuel q_found q_foundLifts = some o) : zMv l D (zT ca) t yX8_findNothing (.code yX8_findNothing cX8_findNothing 1 none :: zW) roX8_findNothing [.ref (ad_q 0)] (wX8_q ca ad_q ad_t ad_n q_row q_firstsLifts q_othersLifts q_seed q_found q_foundLifts q_mostLifts q_sumOfLifts q_sumOfMissers) (wX8_q ca ad_q ad_t ad_n q_row q_firstsLifts q_othersLifts q_seed o.1 o.2 q_mostLifts q_sumOfLifts q_sumOfMissers) := by
  refine zMv_of (cc := cX8_findNothing) (maxL := 1) (by decide) rfl (Nat.le_of_ble_eq_true rfl) ?_
  intro p e s m args below meth c A Q ls ⟨hx, hb, hml, hown, hts, hA, hK, hZ, hS⟩ hret hP hD hl
  have hts := fun w h => hts w (List.mem_cons_of_mem _ h)
  have hown : s.vm.findClass RX8 = some m.cls := hown
  have hl : lv_has ls 1 [(0, .ref (ad_q 0))] := hl
  have hin8 := zin_X8
  unfold fX8_findNothing at hF
  refine lv_aload_n hx hb dX8_findNothing_0 rfl (lv_at hl 0 rfl) ?_
  refine lv_bipush (v := (-4)) hx hb dX8_findNothing_1 (by decide) ?_
  refine va_put (D := D) (ci := 5) (v := .int (-4)) (C := RX8) (T := TX8) (N := 11) hx hb hts hin8 tyX8 tyX8_ok nmX8 hown hK hP hD hS 0 rfl rfl 6 (by decide) (hts _ zm_423) (fun _ h9 => h9) rfl (tyX8_ok 6 (by decide)) rfl rfl (Nat.le_of_ble_eq_true rfl) dX8_findNothing_3 (fun H locs hP hD hS => ?_)
  have hP : va_P D vwCl (wX8_q ca ad_q ad_t ad_n q_row q_firstsLifts q_othersLifts q_seed (-4) q_foundLifts q_mostLifts q_sumOfLifts q_sumOfMissers) H := hP
  have hD : va_D A (wX8_q ca ad_q ad_t ad_n q_row q_firstsLifts q_othersLifts q_seed (-4) q_foundLifts q_mostLifts q_sumOfLifts q_sumOfMissers) := hD
  refine lv_aload_n hx hb dX8_findNothing_6 rfl (lv_at hl 0 rfl) ?_
  refine lv_bipush (v := (-4)) hx hb dX8_findNothing_7 (by decide) ?_
  refine va_put (D := D) (ci := 5) (v := .int (-4)) (C := RX8) (T := TX8) (N := 11) hx hb hts hin8 tyX8 tyX8_ok nmX8 hown hK hP hD hS 0 rfl rfl 7 (by decide) (hts _ zm_424) (fun _ h9 => h9) rfl (tyX8_ok 7 (by decide)) rfl rfl (Nat.le_of_ble_eq_true rfl) dX8_findNothing_9 (fun H locs hP hD hS => ?_)
  have hP : va_P D vwCl (wX8_q ca ad_q ad_t ad_n q_row q_firstsLifts q_othersLifts q_seed (-4) (-4) q_mostLifts q_sumOfLifts q_sumOfMissers) H := hP
  have hD : va_D A (wX8_q ca ad_q ad_t ad_n q_row q_firstsLifts q_othersLifts q_seed (-4) (-4) q_mostLifts q_sumOfLifts q_sumOfMissers) := hD
  obtain rfl := Option.some.inj hF
  exact hret _ _ _ _ hP hD hS dX8_findNothing_12
abbrev roX8_findIfFewer : Room := { frames := 0, cells := 0, slots := 0, locals := 0 }
set_option maxHeartbeats 4000000 in
set_option maxRecDepth 100000 in
theorem kX8_findIfFewer (l : Launch) (D : va_G) (ca : Nat → ClassId) (t : Nat → Nat) (ad_q : Nat → Nat) (ad_t : Nat → Nat) (ad_n : Nat → Nat) (q_row : Nat → Int32) (q_firstsLifts : Nat → Int32) (q_othersLifts : Nat → Int32) (q_seed : Int32) (q_found : Int32) (q_foundLifts : Int32) (q_mostLifts : Int32) (q_sumOfLifts : Int32) (q_sumOfMissers : Int32) (p1 : Int32) (p2 : Int32) (fuel : Nat) (o : Int32 × Int32) (hF : fX8_findIfFewer fuel q_found q_foundLifts p1 p2 = some o) : zMv l D (zT ca) t yX8_findIfFewer (.code yX8_findIfFewer cX8_findIfFewer 3 none :: zW) roX8_findIfFewer [.ref (ad_q 0), .int p1, .int p2] (wX8_q ca ad_q ad_t ad_n q_row q_firstsLifts q_othersLifts q_seed q_found q_foundLifts q_mostLifts q_sumOfLifts q_sumOfMissers) (wX8_q ca ad_q ad_t ad_n q_row q_firstsLifts q_othersLifts q_seed o.1 o.2 q_mostLifts q_sumOfLifts q_sumOfMissers) := by
  refine zMv_of (cc := cX8_findIfFewer) (maxL := 3) (by decide) rfl (Nat.le_of_ble_eq_true rfl) ?_
  intro p e s m args below meth c A Q ls ⟨hx, hb, hml, hown, hts, hA, hK, hZ, hS⟩ hret hP hD hl
  have hts := fun w h => hts w (List.mem_cons_of_mem _ h)
  have hown : s.vm.findClass RX8 = some m.cls := hown
  have hl : lv_has ls 3 [(0, .ref (ad_q 0)), (1, .int p1), (2, .int p2)] := hl
  have hin8 := zin_X8
  have j17 : ∀ (q_found : Int32) (q_foundLifts : Int32) (H : Heap) (locs : List Loc), fX8_findIfFewer_J17 p1 p2 q_found q_foundLifts = some o → va_P D vwCl (wX8_q ca ad_q ad_t ad_n q_row q_firstsLifts q_othersLifts q_seed q_found q_foundLifts q_mostLifts q_sumOfLifts q_sumOfMissers) H → va_D A (wX8_q ca ad_q ad_t ad_n q_row q_firstsLifts q_othersLifts q_seed q_found q_foundLifts q_mostLifts q_sumOfLifts q_sumOfMissers) → va_S A s.heap H locs → ∀ ls : Array Slot, lv_has ls 3 [(0, .ref (ad_q 0)), (1, .int p1), (2, .int p2)] → W p l e roX8_findIfFewer s m args below meth c H locs 0 0 Q (F0 m 17 ls []) := by
    intro q_found q_foundLifts H locs hF hP hD hS ls hl
    unfold fX8_findIfFewer_J17 at hF
    refine lv_aload_n hx hb dX8_findIfFewer_17 rfl (lv_at hl 0 rfl) ?_
    refine lv_iload_n hx hb dX8_findIfFewer_18 rfl (lv_at hl 1 rfl) ?_
    refine va_put (D := D) (ci := 5) (v := .int p1) (C := RX8) (T := TX8) (N := 11) hx hb hts hin8 tyX8 tyX8_ok nmX8 hown hK hP hD hS 0 rfl rfl 6 (by decide) (hts _ zm_423) (fun _ h9 => h9) rfl (tyX8_ok 6 (by decide)) rfl rfl (Nat.le_of_ble_eq_true rfl) dX8_findIfFewer_19 (fun H locs hP hD hS => ?_)
    have hP : va_P D vwCl (wX8_q ca ad_q ad_t ad_n q_row q_firstsLifts q_othersLifts q_seed p1 q_foundLifts q_mostLifts q_sumOfLifts q_sumOfMissers) H := hP
    have hD : va_D A (wX8_q ca ad_q ad_t ad_n q_row q_firstsLifts q_othersLifts q_seed p1 q_foundLifts q_mostLifts q_sumOfLifts q_sumOfMissers) := hD
    refine lv_aload_n hx hb dX8_findIfFewer_22 rfl (lv_at hl 0 rfl) ?_
    refine lv_iload_n hx hb dX8_findIfFewer_23 rfl (lv_at hl 2 rfl) ?_
    refine va_put (D := D) (ci := 5) (v := .int p2) (C := RX8) (T := TX8) (N := 11) hx hb hts hin8 tyX8 tyX8_ok nmX8 hown hK hP hD hS 0 rfl rfl 7 (by decide) (hts _ zm_424) (fun _ h9 => h9) rfl (tyX8_ok 7 (by decide)) rfl rfl (Nat.le_of_ble_eq_true rfl) dX8_findIfFewer_24 (fun H locs hP hD hS => ?_)
    have hP : va_P D vwCl (wX8_q ca ad_q ad_t ad_n q_row q_firstsLifts q_othersLifts q_seed p1 p2 q_mostLifts q_sumOfLifts q_sumOfMissers) H := hP
    have hD : va_D A (wX8_q ca ad_q ad_t ad_n q_row q_firstsLifts q_othersLifts q_seed p1 p2 q_mostLifts q_sumOfLifts q_sumOfMissers) := hD
    obtain rfl := Option.some.inj hF
    exact hret _ _ _ _ hP hD hS dX8_findIfFewer_27
  unfold fX8_findIfFewer at hF
  refine lv_aload_n hx hb dX8_findIfFewer_0 rfl (lv_at hl 0 rfl) ?_
  refine va_get (D := D) (ci := 5) (v := .int q_foundLifts) (C := RX8) (T := TX8) (N := 11) hx hb hts hin8 hown hK hP 0 rfl rfl 7 (by decide) (hts _ zm_424) (fun _ h9 => h9) rfl dX8_findIfFewer_1 ?_
  refine lv_bipush (v := (-4)) hx hb dX8_findIfFewer_4 (by decide) ?_
  refine lv_icmp_eq (tgt := 17) hx hb dX8_findIfFewer_6 (by decide) (fun c_1 => ?_) (fun c_1 => ?_)
  · have hF := zt c_1 hF
    exact j17 q_found q_foundLifts _ _ hF hP hD hS ls (lv_sub hl [0, 1, 2] rfl)
  · have hF := zf c_1 hF
    refine lv_iload_n hx hb dX8_findIfFewer_9 rfl (lv_at hl 2 rfl) ?_
    refine lv_aload_n hx hb dX8_findIfFewer_10 rfl (lv_at hl 0 rfl) ?_
    refine va_get (D := D) (ci := 5) (v := .int q_foundLifts) (C := RX8) (T := TX8) (N := 11) hx hb hts hin8 hown hK hP 0 rfl rfl 7 (by decide) (hts _ zm_424) (fun _ h9 => h9) rfl dX8_findIfFewer_11 ?_
    refine lv_icmp_ge (tgt := 27) hx hb dX8_findIfFewer_14 (by decide) (fun c_2 => ?_) (fun c_2 => ?_)
    · have hF := zt c_2 hF
      obtain rfl := Option.some.inj hF
      exact hret _ _ _ _ hP hD hS dX8_findIfFewer_27
    · have hF := zf c_2 hF
      exact j17 q_found q_foundLifts _ _ hF hP hD hS ls (lv_sub hl [0, 1, 2] rfl)
abbrev roX8_nextLaying : Room := { frames := 0, cells := 0, slots := 0, locals := 0 }
set_option maxHeartbeats 4000000 in
set_option maxRecDepth 100000 in
theorem kX8_nextLaying (l : Launch) (D : va_G) (ca : Nat → ClassId) (t : Nat → Nat) (ad_q : Nat → Nat) (ad_t : Nat → Nat) (ad_n : Nat → Nat) (ad_r : Nat → Nat) (q_row : Nat → Int32) (q_firstsLifts : Nat → Int32) (q_othersLifts : Nat → Int32) (q_seed : Int32) (q_found : Int32) (q_foundLifts : Int32) (q_mostLifts : Int32) (q_sumOfLifts : Int32) (q_sumOfMissers : Int32) (r_guests : Int32) (r_kinds : Nat → Int32) (r_figures : Nat → Int32) (r_minutes : Nat → Int32) (r_settings : Nat → Int32) (r_hooks : Int32) (r_letters : Nat → Int32) (r_letterCount : Int32) (fuel : Nat) (o : (Nat → Int32)) (hF : fX8_nextLaying fuel q_row r_guests r_settings = some o) : zMv l D (zT ca) t yX8_nextLaying (.code yX8_nextLaying cX8_nextLaying 3 none :: zW) roX8_nextLaying [.ref (ad_q 0), .ref (ad_r 0)] (wX8_qr ca ad_q ad_t ad_n ad_r q_row q_firstsLifts q_othersLifts q_seed q_found q_foundLifts q_mostLifts q_sumOfLifts q_sumOfMissers r_guests r_kinds r_figures r_minutes r_settings r_hooks r_letters r_letterCount) (wX8_qr ca ad_q ad_t ad_n ad_r o q_firstsLifts q_othersLifts q_seed q_found q_foundLifts q_mostLifts q_sumOfLifts q_sumOfMissers r_guests r_kinds r_figures r_minutes r_settings r_hooks r_letters r_letterCount) := by
  refine zMv_of (cc := cX8_nextLaying) (maxL := 3) (by decide) rfl (Nat.le_of_ble_eq_true rfl) ?_
  intro p e s m args below meth c A Q ls ⟨hx, hb, hml, hown, hts, hA, hK, hZ, hS⟩ hret hP hD hl
  have hts := fun w h => hts w (List.mem_cons_of_mem _ h)
  have hown : s.vm.findClass RX8 = some m.cls := hown
  have hl : lv_has ls 3 [(0, .ref (ad_q 0)), (1, .ref (ad_r 0))] := hl
  have hin5 := zin_X5
  have hin8 := zin_X8
  have l7 : ∀ (n7 : Nat) (v2 : Int32) (q_row : Nat → Int32) (H : Heap) (locs : List Loc), fX8_nextLaying_L7 r_settings n7 v2 q_row = some o → va_P D vwCl (wX8_qr ca ad_q ad_t ad_n ad_r q_row q_firstsLifts q_othersLifts q_seed q_found q_foundLifts q_mostLifts q_sumOfLifts q_sumOfMissers r_guests r_kinds r_figures r_minutes r_settings r_hooks r_letters r_letterCount) H → va_D A (wX8_qr ca ad_q ad_t ad_n ad_r q_row q_firstsLifts q_othersLifts q_seed q_found q_foundLifts q_mostLifts q_sumOfLifts q_sumOfMissers r_guests r_kinds r_figures r_minutes r_settings r_hooks r_letters r_letterCount) → va_S A s.heap H locs → ∀ ls : Array Slot, lv_has ls 3 [(0, .ref (ad_q 0)), (1, .ref (ad_r 0)), (2, .int v2)] → W p l e roX8_nextLaying s m args below meth c H locs 0 0 Q (F0 m 7 ls []) := by
    intro n7
    induction n7 with
    | zero =>
      intro v2 q_row H locs hF
      rw [fX8_nextLaying_L7] at hF
      cases hF
    | succ n7 ih7 =>
      have j58 : ∀ (v2 : Int32) (q_row : Nat → Int32) (H : Heap) (locs : List Loc), fX8_nextLaying_J58 (fX8_nextLaying_L7 r_settings n7) v2 q_row = some o → va_P D vwCl (wX8_qr ca ad_q ad_t ad_n ad_r q_row q_firstsLifts q_othersLifts q_seed q_found q_foundLifts q_mostLifts q_sumOfLifts q_sumOfMissers r_guests r_kinds r_figures r_minutes r_settings r_hooks r_letters r_letterCount) H → va_D A (wX8_qr ca ad_q ad_t ad_n ad_r q_row q_firstsLifts q_othersLifts q_seed q_found q_foundLifts q_mostLifts q_sumOfLifts q_sumOfMissers r_guests r_kinds r_figures r_minutes r_settings r_hooks r_letters r_letterCount) → va_S A s.heap H locs → ∀ ls : Array Slot, lv_has ls 3 [(0, .ref (ad_q 0)), (1, .ref (ad_r 0)), (2, .int v2)] → W p l e roX8_nextLaying s m args below meth c H locs 0 0 Q (F0 m 58 ls []) := by
        intro v2 q_row H locs hF hP hD hS ls hl
        unfold fX8_nextLaying_J58 at hF
        refine z_iinc (kv := (-1)) hx hb 2 dX8_nextLaying_58 hl rfl (by decide) (by decide) (fun g => [(2, .int g), (0, .ref (ad_q 0)), (1, .ref (ad_r 0))]) (fun _ => rfl) hF (fun v2_8 ls hF hl => ?_)
        refine lv_goto (tgt := 7) hx hb dX8_nextLaying_61 (by decide) ?_
        exact ih7 v2_8 q_row _ _ hF hP hD hS ls (lv_sub hl [1, 2, 0] rfl)
      intro v2 q_row H locs hF hP hD hS ls hl
      rw [fX8_nextLaying_L7] at hF
      refine lv_iload_n hx hb dX8_nextLaying_7 rfl (lv_at hl 2 rfl) ?_
      refine lv_if_lt (tgt := 64) hx hb dX8_nextLaying_8 (by decide) (fun c_2 => ?_) (fun c_2 => ?_)
      · have hF := zt c_2 hF
        obtain rfl := Option.some.inj hF
        exact hret _ _ _ _ hP hD hS dX8_nextLaying_64
      · have hF := zf c_2 hF
        refine lv_aload_n hx hb dX8_nextLaying_11 rfl (lv_at hl 0 rfl) ?_
        refine va_get (D := D) (ci := 5) (v := .ref (ad_q 1)) (C := RX8) (T := TX8) (N := 11) hx hb hts hin8 hown hK hP 0 rfl rfl 2 (by decide) (hts _ zm_426) (fun _ h9 => h9) rfl dX8_nextLaying_12 ?_
        refine lv_iload_n hx hb dX8_nextLaying_15 rfl (lv_at hl 2 rfl) ?_
        obtain ⟨h_3, hF⟩ := zgi hF
        refine va_iald hx hb hK hP 1 0 rfl rfl h_3 dX8_nextLaying_16 ?_
        refine lv_bipush (v := 9) hx hb dX8_nextLaying_17 (by decide) ?_
        refine lv_icmp_ne (tgt := 25) hx hb dX8_nextLaying_19 (by decide) (fun c_4 => ?_) (fun c_4 => ?_)
        · have hF := zf c_4 hF
          refine lv_aload_n hx hb dX8_nextLaying_25 rfl (lv_at hl 0 rfl) ?_
          refine va_get (D := D) (ci := 5) (v := .ref (ad_q 1)) (C := RX8) (T := TX8) (N := 11) hx hb hts hin8 hown hK hP 0 rfl rfl 2 (by decide) (hts _ zm_426) (fun _ h9 => h9) rfl dX8_nextLaying_26 ?_
          refine lv_iload_n hx hb dX8_nextLaying_29 rfl (lv_at hl 2 rfl) ?_
          refine lv_dup2_11 hx hb dX8_nextLaying_30 rfl rfl ?_
          refine va_iald hx hb hK hP 1 0 rfl rfl h_3 dX8_nextLaying_31 ?_
          refine lv_iconst (v := 1) hx hb dX8_nextLaying_32 (by decide) ?_
          refine lv_iadd hx hb dX8_nextLaying_33 ?_
          refine z_iast hx hb hK hP hD hS 1 0 rfl rfl h_3 dX8_nextLaying_34 (fun g => (wX8_qr ca ad_q ad_t ad_n ad_r g q_firstsLifts q_othersLifts q_seed q_found q_foundLifts q_mostLifts q_sumOfLifts q_sumOfMissers r_guests r_kinds r_figures r_minutes r_settings r_hooks r_letters r_letterCount)) (fun _ => rfl) hF (fun q_row_5 H locs hF hP hD hS => ?_)
          refine lv_aload_n hx hb dX8_nextLaying_35 rfl (lv_at hl 0 rfl) ?_
          refine va_get (D := D) (ci := 5) (v := .ref (ad_q 1)) (C := RX8) (T := TX8) (N := 11) hx hb hts hin8 hown hK hP 0 rfl rfl 2 (by decide) (hts _ zm_426) (fun _ h9 => h9) rfl dX8_nextLaying_36 ?_
          refine lv_iload_n hx hb dX8_nextLaying_39 rfl (lv_at hl 2 rfl) ?_
          refine va_iald hx hb hK hP 1 0 rfl rfl h_3 dX8_nextLaying_40 ?_
          refine lv_aload_n hx hb dX8_nextLaying_41 rfl (lv_at hl 1 rfl) ?_
          refine va_get (D := D) (ci := 3) (v := .ref (ad_r 4)) (C := RX5) (T := TX5) (N := 8) hx hb hts hin5 hown hK hP 4 rfl rfl 4 (by decide) (hts _ zm_427) (fun _ h9 => h9) rfl dX8_nextLaying_42 ?_
          refine lv_iconst (v := 0) hx hb dX8_nextLaying_45 (by decide) ?_
          refine z_ialdK 0 hx hb hK hP 8 0 rfl rfl (zin_ok (by decide)) (by decide) dX8_nextLaying_46 ?_
          refine lv_icmp_ge (tgt := 51) hx hb dX8_nextLaying_47 (by decide) (fun c_6 => ?_) (fun c_6 => ?_)
          · have hF := zt c_6 hF
            refine lv_aload_n hx hb dX8_nextLaying_51 rfl (lv_at hl 0 rfl) ?_
            refine va_get (D := D) (ci := 5) (v := .ref (ad_q 1)) (C := RX8) (T := TX8) (N := 11) hx hb hts hin8 hown hK hP 0 rfl rfl 2 (by decide) (hts _ zm_426) (fun _ h9 => h9) rfl dX8_nextLaying_52 ?_
            refine lv_iload_n hx hb dX8_nextLaying_55 rfl (lv_at hl 2 rfl) ?_
            refine lv_iconst (v := 0) hx hb dX8_nextLaying_56 (by decide) ?_
            refine z_iast hx hb hK hP hD hS 1 0 rfl rfl h_3 dX8_nextLaying_57 (fun g => (wX8_qr ca ad_q ad_t ad_n ad_r g q_firstsLifts q_othersLifts q_seed q_found q_foundLifts q_mostLifts q_sumOfLifts q_sumOfMissers r_guests r_kinds r_figures r_minutes r_settings r_hooks r_letters r_letterCount)) (fun _ => rfl) hF (fun q_row_7 H locs hF hP hD hS => ?_)
            exact j58 v2 q_row_7 _ _ hF hP hD hS ls (lv_sub hl [0, 1, 2] rfl)
          · have hF := zf c_6 hF
            obtain rfl := Option.some.inj hF
            exact hret _ _ _ _ hP hD hS dX8_nextLaying_50
        · have hF := zt c_4 hF
          refine lv_goto (tgt := 58) hx hb dX8_nextLaying_22 (by decide) ?_
          exact j58 v2 q_row _ _ hF hP hD hS ls (lv_sub hl [0, 1, 2] rfl)
  unfold fX8_nextLaying at hF
  refine lv_aload_n hx hb dX8_nextLaying_0 rfl (lv_at hl 1 rfl) ?_
  refine va_get (D := D) (ci := 3) (v := .int r_guests) (C := RX5) (T := TX5) (N := 8) hx hb hts hin5 hown hK hP 4 rfl rfl 0 (by decide) (hts _ zm_425) (fun _ h9 => h9) rfl dX8_nextLaying_1 ?_
  refine lv_iconst (v := 1) hx hb dX8_nextLaying_4 (by decide) ?_
  refine lv_isub hx hb dX8_nextLaying_5 ?_
  refine z_let hF (fun v2_1 hF => ?_)
  refine lv_istore_n (lv' := [(2, .int v2_1), (0, .ref (ad_q 0)), (1, .ref (ad_r 0))]) hx hb dX8_nextLaying_6 rfl hl (by decide) rfl (fun ls hl => ?_)
  exact l7 fuel v2_1 q_row _ _ hF hP hD hS ls (lv_sub hl [1, 2, 0] rfl)
abbrev roX8_goJustBehind : Room := { frames := 0, cells := 0, slots := 0, locals := 0 }
set_option maxHeartbeats 4000000 in
set_option maxRecDepth 100000 in
theorem kX8_goJustBehind (l : Launch) (D : va_G) (ca : Nat → ClassId) (t : Nat → Nat) (ad_q : Nat → Nat) (ad_t : Nat → Nat) (ad_n : Nat → Nat) (ad_y : Nat → Nat) (ad_b : Nat → Nat) (q_row : Nat → Int32) (q_firstsLifts : Nat → Int32) (q_othersLifts : Nat → Int32) (q_seed : Int32) (q_found : Int32) (q_foundLifts : Int32) (q_mostLifts : Int32) (q_sumOfLifts : Int32) (q_sumOfMissers : Int32) (n_room : Nat) (n_order : Nat → Int32) (n_weights : Nat → Int32) (n_black : Nat → Int32) (n_lifts : Nat → Int32) (n_begins : Nat → Int32) (n_ends : Nat → Int32) (n_has : Nat → Int32) (n_lifted : Nat → Int32) (n_allLifts : Int32) (n_doneAt : Int32) (p1 : Int32) (p2 : Int32) (p3 : Int32) (fuel : Nat) (o : (Nat → Int32)) (hF : fX8_goJustBehind fuel n_order p1 p2 p3 = some o) : zMv l D (zT ca) t yX8_goJustBehind (.code yX8_goJustBehind cX8_goJustBehind 5 none :: zW) roX8_goJustBehind [.ref (ad_q 0), .int p1, .int p2, .int p3] (wX8_qn ca ad_q ad_t ad_n ad_y ad_b q_row q_firstsLifts q_othersLifts q_seed q_found q_foundLifts q_mostLifts q_sumOfLifts q_sumOfMissers n_room n_order n_weights n_black n_lifts n_begins n_ends n_has n_lifted n_allLifts n_doneAt) (wX8_qn ca ad_q ad_t ad_n ad_y ad_b q_row q_firstsLifts q_othersLifts q_seed q_found q_foundLifts q_mostLifts q_sumOfLifts q_sumOfMissers n_room o n_weights n_black n_lifts n_begins n_ends n_has n_lifted n_allLifts n_doneAt) := by
  refine zMv_of (cc := cX8_goJustBehind) (maxL := 5) (by decide) rfl (Nat.le_of_ble_eq_true rfl) ?_
  intro p e s m args below meth c A Q ls ⟨hx, hb, hml, hown, hts, hA, hK, hZ, hS⟩ hret hP hD hl
  have hts := fun w h => hts w (List.mem_cons_of_mem _ h)
  have hown : s.vm.findClass RX8 = some m.cls := hown
  have hl : lv_has ls 5 [(0, .ref (ad_q 0)), (1, .int p1), (2, .int p2), (3, .int p3)] := hl
  have hin3 := zin_X3
  have hin8 := zin_X8
  have j39 : ∀ (n_order : Nat → Int32) (H : Heap) (locs : List Loc), fX8_goJustBehind_J39 p1 p3 n_order = some o → va_P D vwCl (wX8_qn ca ad_q ad_t ad_n ad_y ad_b q_row q_firstsLifts q_othersLifts q_seed q_found q_foundLifts q_mostLifts q_sumOfLifts q_sumOfMissers n_room n_order n_weights n_black n_lifts n_begins n_ends n_has n_lifted n_allLifts n_doneAt) H → va_D A (wX8_qn ca ad_q ad_t ad_n ad_y ad_b q_row q_firstsLifts q_othersLifts q_seed q_found q_foundLifts q_mostLifts q_sumOfLifts q_sumOfMissers n_room n_order n_weights n_black n_lifts n_begins n_ends n_has n_lifted n_allLifts n_doneAt) → va_S A s.heap H locs → ∀ ls : Array Slot, lv_has ls 5 [(0, .ref (ad_q 0)), (1, .int p1), (3, .int p3)] → W p l e roX8_goJustBehind s m args below meth c H locs 0 0 Q (F0 m 39 ls []) := by
    intro n_order H locs hF hP hD hS ls hl
    unfold fX8_goJustBehind_J39 at hF
    refine lv_aload_n hx hb dX8_goJustBehind_39 rfl (lv_at hl 0 rfl) ?_
    refine va_get (D := D) (ci := 5) (v := .ref (ad_n 0)) (C := RX8) (T := TX8) (N := 11) hx hb hts hin8 hown hK hP 0 rfl rfl 1 (by decide) (hts _ zm_428) (fun _ h9 => h9) rfl dX8_goJustBehind_40 ?_
    refine va_get (D := D) (ci := 2) (v := .ref (ad_n 1)) (C := RX3) (T := TX3) (N := 15) hx hb hts hin3 hown hK hP 4 rfl rfl 5 (by decide) (hts _ zm_429) (fun _ h9 => h9) rfl dX8_goJustBehind_43 ?_
    refine lv_iload_n hx hb dX8_goJustBehind_46 rfl (lv_at hl 2 rfl) ?_
    refine lv_iconst (v := 1) hx hb dX8_goJustBehind_47 (by decide) ?_
    refine lv_iadd hx hb dX8_goJustBehind_48 ?_
    refine lv_iload_n hx hb dX8_goJustBehind_49 rfl (lv_at hl 1 rfl) ?_
    obtain ⟨h_6, hF⟩ := zgi hF
    refine z_iast hx hb hK hP hD hS 5 0 rfl rfl h_6 dX8_goJustBehind_50 (fun g => (wX8_qn ca ad_q ad_t ad_n ad_y ad_b q_row q_firstsLifts q_othersLifts q_seed q_found q_foundLifts q_mostLifts q_sumOfLifts q_sumOfMissers n_room g n_weights n_black n_lifts n_begins n_ends n_has n_lifted n_allLifts n_doneAt)) (fun _ => rfl) hF (fun n_order_7 H locs hF hP hD hS => ?_)
    obtain rfl := Option.some.inj hF
    exact hret _ _ _ _ hP hD hS dX8_goJustBehind_51
  have l3 : ∀ (n3 : Nat) (v4 : Int32) (n_order : Nat → Int32) (H : Heap) (locs : List Loc), fX8_goJustBehind_L3 p1 p3 n3 v4 n_order = some o → va_P D vwCl (wX8_qn ca ad_q ad_t ad_n ad_y ad_b q_row q_firstsLifts q_othersLifts q_seed q_found q_foundLifts q_mostLifts q_sumOfLifts q_sumOfMissers n_room n_order n_weights n_black n_lifts n_begins n_ends n_has n_lifted n_allLifts n_doneAt) H → va_D A (wX8_qn ca ad_q ad_t ad_n ad_y ad_b q_row q_firstsLifts q_othersLifts q_seed q_found q_foundLifts q_mostLifts q_sumOfLifts q_sumOfMissers n_room n_order n_weights n_black n_lifts n_begins n_ends n_has n_lifted n_allLifts n_doneAt) → va_S A s.heap H locs → ∀ ls : Array Slot, lv_has ls 5 [(0, .ref (ad_q 0)), (1, .int p1), (3, .int p3), (4, .int v4)] → W p l e roX8_goJustBehind s m args below meth c H locs 0 0 Q (F0 m 3 ls []) := by
    intro n3
    induction n3 with
    | zero =>
      intro v4 n_order H locs hF
      rw [fX8_goJustBehind_L3] at hF
      cases hF
    | succ n3 ih3 =>
      intro v4 n_order H locs hF hP hD hS ls hl
      rw [fX8_goJustBehind_L3] at hF
      refine lv_iload hx hb dX8_goJustBehind_3 (lv_at hl 3 rfl) ?_
      refine lv_iload_n hx hb dX8_goJustBehind_5 rfl (lv_at hl 2 rfl) ?_
      refine lv_iconst (v := 1) hx hb dX8_goJustBehind_6 (by decide) ?_
      refine lv_iadd hx hb dX8_goJustBehind_7 ?_
      refine lv_icmp_le (tgt := 39) hx hb dX8_goJustBehind_8 (by decide) (fun c_1 => ?_) (fun c_1 => ?_)
      · have hF := zt c_1 hF
        exact j39 n_order _ _ hF hP hD hS ls (lv_sub hl [0, 1, 2] rfl)
      · have hF := zf c_1 hF
        refine lv_aload_n hx hb dX8_goJustBehind_11 rfl (lv_at hl 0 rfl) ?_
        refine va_get (D := D) (ci := 5) (v := .ref (ad_n 0)) (C := RX8) (T := TX8) (N := 11) hx hb hts hin8 hown hK hP 0 rfl rfl 1 (by decide) (hts _ zm_428) (fun _ h9 => h9) rfl dX8_goJustBehind_12 ?_
        refine va_get (D := D) (ci := 2) (v := .ref (ad_n 1)) (C := RX3) (T := TX3) (N := 15) hx hb hts hin3 hown hK hP 4 rfl rfl 5 (by decide) (hts _ zm_429) (fun _ h9 => h9) rfl dX8_goJustBehind_15 ?_
        refine lv_iload hx hb dX8_goJustBehind_18 (lv_at hl 3 rfl) ?_
        refine lv_aload_n hx hb dX8_goJustBehind_20 rfl (lv_at hl 0 rfl) ?_
        refine va_get (D := D) (ci := 5) (v := .ref (ad_n 0)) (C := RX8) (T := TX8) (N := 11) hx hb hts hin8 hown hK hP 0 rfl rfl 1 (by decide) (hts _ zm_428) (fun _ h9 => h9) rfl dX8_goJustBehind_21 ?_
        refine va_get (D := D) (ci := 2) (v := .ref (ad_n 1)) (C := RX3) (T := TX3) (N := 15) hx hb hts hin3 hown hK hP 4 rfl rfl 5 (by decide) (hts _ zm_429) (fun _ h9 => h9) rfl dX8_goJustBehind_24 ?_
        refine lv_iload hx hb dX8_goJustBehind_27 (lv_at hl 3 rfl) ?_
        refine lv_iconst (v := 1) hx hb dX8_goJustBehind_29 (by decide) ?_
        refine lv_isub hx hb dX8_goJustBehind_30 ?_
        obtain ⟨h_2, hF⟩ := zgi hF
        refine va_iald hx hb hK hP 5 0 rfl rfl h_2 dX8_goJustBehind_31 ?_
        obtain ⟨h_3, hF⟩ := zgi hF
        refine z_iast hx hb hK hP hD hS 5 0 rfl rfl h_3 dX8_goJustBehind_32 (fun g => (wX8_qn ca ad_q ad_t ad_n ad_y ad_b q_row q_firstsLifts q_othersLifts q_seed q_found q_foundLifts q_mostLifts q_sumOfLifts q_sumOfMissers n_room g n_weights n_black n_lifts n_begins n_ends n_has n_lifted n_allLifts n_doneAt)) (fun _ => rfl) hF (fun n_order_4 H locs hF hP hD hS => ?_)
        refine z_iinc (kv := (-1)) hx hb 3 dX8_goJustBehind_33 hl rfl (by decide) (by decide) (fun g => [(4, .int g), (0, .ref (ad_q 0)), (1, .int p1), (3, .int p3)]) (fun _ => rfl) hF (fun v4_5 ls hF hl => ?_)
        refine lv_goto (tgt := 3) hx hb dX8_goJustBehind_36 (by decide) ?_
        exact ih3 v4_5 n_order_4 _ _ hF hP hD hS ls (lv_sub hl [1, 2, 3, 0] rfl)
  unfold fX8_goJustBehind at hF
  refine lv_iload_n hx hb dX8_goJustBehind_0 rfl (lv_at hl 2 rfl) ?_
  refine lv_istore (lv' := [(4, .int p2), (0, .ref (ad_q 0)), (1, .int p1), (2, .int p2), (3, .int p3)]) hx hb dX8_goJustBehind_1 hl (by decide) rfl (fun ls hl => ?_)
  exact l3 fuel p2 n_order _ _ hF hP hD hS ls (lv_sub hl [1, 2, 4, 0] rfl)
abbrev roX8_rests : Room := { frames := 0, cells := 0, slots := 0, locals := 0 }
set_option maxHeartbeats 4000000 in
set_option maxRecDepth 100000 in
theorem kX8_rests (l : Launch) (D : va_G) (ca : Nat → ClassId) (t : Nat → Nat) (ad_q : Nat → Nat) (ad_t : Nat → Nat) (ad_n : Nat → Nat) (q_row : Nat → Int32) (q_firstsLifts : Nat → Int32) (q_othersLifts : Nat → Int32) (q_seed : Int32) (q_found : Int32) (q_foundLifts : Int32) (q_mostLifts : Int32) (q_sumOfLifts : Int32) (q_sumOfMissers : Int32) (p1 : Int32) (fuel : Nat) (o : Int32) (hF : fX8_rests fuel q_firstsLifts q_othersLifts p1 = some o) : zRi l D (zT ca) t yX8_rests (.code yX8_rests cX8_rests 5 (some .boolean) :: zW) roX8_rests [.ref (ad_q 0), .int p1] (wX8_q ca ad_q ad_t ad_n q_row q_firstsLifts q_othersLifts q_seed q_found q_foundLifts q_mostLifts q_sumOfLifts q_sumOfMissers) o := by
  refine zRi_of (cc := cX8_rests) (maxL := 5) (by decide) rfl (Nat.le_of_ble_eq_true rfl) ?_
  intro p e s m args below meth c A Q ls ⟨hx, hb, hml, hown, hts, hA, hK, hZ, hS⟩ hret hP hD hl
  have hts := fun w h => hts w (List.mem_cons_of_mem _ h)
  have hown : s.vm.findClass RX8 = some m.cls := hown
  have hl : lv_has ls 5 [(0, .ref (ad_q 0)), (1, .int p1)] := hl
  have hin8 := zin_X8
  have l11 : ∀ (n11 : Nat) (v2 : Int32) (v3 : Int32) (v4 : Int32), fX8_rests_L11 q_firstsLifts q_othersLifts p1 n11 v2 v3 v4 = some o → ∀ ls : Array Slot, lv_has ls 5 [(0, .ref (ad_q 0)), (1, .int p1), (2, .int v2), (3, .int v3), (4, .int v4)] → W p l e roX8_rests s m args below meth c s.heap [] 0 0 Q (F0 m 11 ls []) := by
    intro n11
    induction n11 with
    | zero =>
      intro v2 v3 v4 hF
      rw [fX8_rests_L11] at hF
      cases hF
    | succ n11 ih11 =>
      intro v2 v3 v4 hF ls hl
      rw [fX8_rests_L11] at hF
      refine lv_iload hx hb dX8_rests_11 (lv_at hl 4 rfl) ?_
      refine lv_iconst (v := 3) hx hb dX8_rests_13 (by decide) ?_
      refine lv_icmp_ge (tgt := 65) hx hb dX8_rests_14 (by decide) (fun c_3 => ?_) (fun c_3 => ?_)
      · have hF := zt c_3 hF
        refine lv_iconst (v := 1) hx hb dX8_rests_65 (by decide) ?_
        obtain rfl := Option.some.inj hF
        exact hret _ _ (zbool (Or.inr rfl)) dX8_rests_66
      · have hF := zf c_3 hF
        refine lv_aload_n hx hb dX8_rests_17 rfl (lv_at hl 0 rfl) ?_
        refine va_get (D := D) (ci := 5) (v := .ref (ad_q 2)) (C := RX8) (T := TX8) (N := 11) hx hb hts hin8 hown hK hP 0 rfl rfl 3 (by decide) (hts _ zm_430) (fun _ h9 => h9) rfl dX8_rests_18 ?_
        refine lv_iload hx hb dX8_rests_21 (lv_at hl 4 rfl) ?_
        refine lv_iconst (v := 3) hx hb dX8_rests_23 (by decide) ?_
        refine lv_imul hx hb dX8_rests_24 ?_
        refine lv_iload_n hx hb dX8_rests_25 rfl (lv_at hl 3 rfl) ?_
        refine lv_iadd hx hb dX8_rests_26 ?_
        obtain ⟨h_4, hF⟩ := zgi hF
        refine va_iald hx hb hK hP 2 0 rfl rfl h_4 dX8_rests_27 ?_
        refine lv_aload_n hx hb dX8_rests_28 rfl (lv_at hl 0 rfl) ?_
        refine va_get (D := D) (ci := 5) (v := .ref (ad_q 2)) (C := RX8) (T := TX8) (N := 11) hx hb hts hin8 hown hK hP 0 rfl rfl 3 (by decide) (hts _ zm_430) (fun _ h9 => h9) rfl dX8_rests_29 ?_
        refine lv_iload_n hx hb dX8_rests_32 rfl (lv_at hl 1 rfl) ?_
        obtain ⟨h_5, hF⟩ := zgi hF
        refine va_iald hx hb hK hP 2 0 rfl rfl h_5 dX8_rests_33 ?_
        refine lv_icmp_lt (tgt := 57) hx hb dX8_rests_34 (by decide) (fun c_6 => ?_) (fun c_6 => ?_)
        · have hF := zt c_6 hF
          refine lv_iconst (v := 0) hx hb dX8_rests_57 (by decide) ?_
          obtain rfl := Option.some.inj hF
          exact hret _ _ (zbool (Or.inl rfl)) dX8_rests_58
        · have hF := zf c_6 hF
          refine lv_aload_n hx hb dX8_rests_37 rfl (lv_at hl 0 rfl) ?_
          refine va_get (D := D) (ci := 5) (v := .ref (ad_q 3)) (C := RX8) (T := TX8) (N := 11) hx hb hts hin8 hown hK hP 0 rfl rfl 4 (by decide) (hts _ zm_431) (fun _ h9 => h9) rfl dX8_rests_38 ?_
          refine lv_iload_n hx hb dX8_rests_41 rfl (lv_at hl 2 rfl) ?_
          refine lv_iconst (v := 3) hx hb dX8_rests_42 (by decide) ?_
          refine lv_imul hx hb dX8_rests_43 ?_
          refine lv_iload hx hb dX8_rests_44 (lv_at hl 4 rfl) ?_
          refine lv_iadd hx hb dX8_rests_46 ?_
          obtain ⟨h_7, hF⟩ := zgi hF
          refine va_iald hx hb hK hP 3 0 rfl rfl h_7 dX8_rests_47 ?_
          refine lv_aload_n hx hb dX8_rests_48 rfl (lv_at hl 0 rfl) ?_
          refine va_get (D := D) (ci := 5) (v := .ref (ad_q 3)) (C := RX8) (T := TX8) (N := 11) hx hb hts hin8 hown hK hP 0 rfl rfl 4 (by decide) (hts _ zm_431) (fun _ h9 => h9) rfl dX8_rests_49 ?_
          refine lv_iload_n hx hb dX8_rests_52 rfl (lv_at hl 1 rfl) ?_
          refine va_iald hx hb hK hP 3 0 rfl rfl h_5 dX8_rests_53 ?_
          refine lv_icmp_ge (tgt := 59) hx hb dX8_rests_54 (by decide) (fun c_8 => ?_) (fun c_8 => ?_)
          · have hF := zt c_8 hF
            refine z_iinc (kv := 1) hx hb 4 dX8_rests_59 hl rfl (by decide) (by decide) (fun g => [(4, .int g), (0, .ref (ad_q 0)), (1, .int p1), (2, .int v2), (3, .int v3)]) (fun _ => rfl) hF (fun v4_9 ls hF hl => ?_)
            refine lv_goto (tgt := 11) hx hb dX8_rests_62 (by decide) ?_
            exact ih11 v2 v3 v4_9 hF ls (lv_sub hl [1, 2, 3, 4, 0] rfl)
          · have hF := zf c_8 hF
            refine lv_iconst (v := 0) hx hb dX8_rests_57 (by decide) ?_
            obtain rfl := Option.some.inj hF
            exact hret _ _ (zbool (Or.inl rfl)) dX8_rests_58
  unfold fX8_rests at hF
  refine lv_iload_n hx hb dX8_rests_0 rfl (lv_at hl 1 rfl) ?_
  refine lv_iconst (v := 3) hx hb dX8_rests_1 (by decide) ?_
  refine lv_idiv hx hb dX8_rests_2 (by decide) ?_
  refine z_let hF (fun v2_1 hF => ?_)
  refine lv_istore_n (lv' := [(2, .int v2_1), (0, .ref (ad_q 0)), (1, .int p1)]) hx hb dX8_rests_3 rfl hl (by decide) rfl (fun ls hl => ?_)
  refine lv_iload_n hx hb dX8_rests_4 rfl (lv_at hl 2 rfl) ?_
  refine lv_iconst (v := 3) hx hb dX8_rests_5 (by decide) ?_
  refine lv_irem hx hb dX8_rests_6 (by decide) ?_
  refine z_let hF (fun v3_2 hF => ?_)
  refine lv_istore_n (lv' := [(3, .int v3_2), (2, .int v2_1), (0, .ref (ad_q 0)), (1, .int p1)]) hx hb dX8_rests_7 rfl hl (by decide) rfl (fun ls hl => ?_)
  refine lv_iconst (v := 0) hx hb dX8_rests_8 (by decide) ?_
  refine lv_istore (lv' := [(4, .int 0), (3, .int v3_2), (2, .int v2_1), (0, .ref (ad_q 0)), (1, .int p1)]) hx hb dX8_rests_9 hl (by decide) rfl (fun ls hl => ?_)
  exact l11 fuel v2_1 v3_2 0 hF ls (lv_sub hl [3, 4, 2, 1, 0] rfl)
theorem zdv_X0_coatAt : yX0_coatAt.cls = RX0 ∧ yX0_coatAt.cls ≠ "java/lang/invoke/MethodHandle" ∧ yX0_coatAt.cls ≠ "java/lang/invoke/VarHandle" ∧ (parseMethodDescriptor yX0_coatAt.desc).map (fun d => d.parameters.length) = some 2 := by decide +kernel
abbrev roX8_isHeapZero : Room := { frames := 1, cells := 0, slots := 0, locals := 22 }
set_option maxHeartbeats 4000000 in
set_option maxRecDepth 100000 in
theorem kX8_isHeapZero (l : Launch) (D : va_G) (ca : Nat → ClassId) (t : Nat → Nat) (ad_s : Nat → Nat) (ad_q : Nat → Nat) (ad_t : Nat → Nat) (ad_n : Nat → Nat) (ad_y : Nat → Nat) (ad_b : Nat → Nat) (s_holds : Nat → Int32) (s_kind : Nat → Int32) (s_figure : Nat → Int32) (s_sort : Nat → Int32) (s_size : Nat → Int32) (s_el : Nat → Nat → Int32) (q_row : Nat → Int32) (q_firstsLifts : Nat → Int32) (q_othersLifts : Nat → Int32) (q_seed : Int32) (q_found : Int32) (q_foundLifts : Int32) (q_mostLifts : Int32) (q_sumOfLifts : Int32) (q_sumOfMissers : Int32) (n_room : Nat) (n_order : Nat → Int32) (n_weights : Nat → Int32) (n_black : Nat → Int32) (n_lifts : Nat → Int32) (n_begins : Nat → Int32) (n_ends : Nat → Int32) (n_has : Nat → Int32) (n_lifted : Nat → Int32) (n_allLifts : Int32) (n_doneAt : Int32) (b_heaps : Int32) (b_piles : Nat → Nat → Int32) (b_heights : Nat → Int32) (b_spots : Nat → Int32) (si : Nat) (hsi : si < 8) (fuel : Nat) (o : Int32) (hF : fX8_isHeapZero fuel s_size s_el b_piles b_heights si = some o) : zRi l D (zT ca) t yX8_isHeapZero (.code yX8_isHeapZero cX8_isHeapZero 3 (some .boolean) :: zW) roX8_isHeapZero [.ref (ad_q 0), .ref (ad_s (2 * si))] (wX8_sqnb ca ad_s ad_q ad_t ad_n ad_y ad_b s_holds s_kind s_figure s_sort s_size s_el q_row q_firstsLifts q_othersLifts q_seed q_found q_foundLifts q_mostLifts q_sumOfLifts q_sumOfMissers n_room n_order n_weights n_black n_lifts n_begins n_ends n_has n_lifted n_allLifts n_doneAt b_heaps b_piles b_heights b_spots) o := by
  refine zRi_of (cc := cX8_isHeapZero) (maxL := 3) (by decide) rfl (Nat.le_of_ble_eq_true rfl) ?_
  intro p e s m args below meth c A Q ls ⟨hx, hb, hml, hown, hts, hA, hK, hZ, hS⟩ hret hP hD hl
  have hts := fun w h => hts w (List.mem_cons_of_mem _ h)
  have hown : s.vm.findClass RX8 = some m.cls := hown
  have hl : lv_has ls 3 [(0, .ref (ad_q 0)), (1, .ref (ad_s (2 * si)))] := hl
  have hin0 := zin_X0
  have hin3 := zin_X3
  have hin7 := zin_X7
  have hin8 := zin_X8
  have l23 : ∀ (n23 : Nat) (v2 : Int32), fX8_isHeapZero_L23 fuel s_size s_el b_piles b_heights si n23 v2 = some o → ∀ ls : Array Slot, lv_has ls 3 [(0, .ref (ad_q 0)), (1, .ref (ad_s (2 * si))), (2, .int v2)] → W p l e roX8_isHeapZero s m args below meth c s.heap [] 0 0 Q (F0 m 23 ls []) := by
    intro n23
    induction n23 with
    | zero =>
      intro v2 hF
      rw [fX8_isHeapZero_L23] at hF
      cases hF
    | succ n23 ih23 =>
      intro v2 hF ls hl
      rw [fX8_isHeapZero_L23] at hF
      refine lv_iload_n hx hb dX8_isHeapZero_23 rfl (lv_at hl 2 rfl) ?_
      refine lv_aload_n hx hb dX8_isHeapZero_24 rfl (lv_at hl 1 rfl) ?_
      refine va_get (D := D) (ci := 4) (v := .int (s_size si)) (C := RX7) (T := TX7) (N := 6) hx hb hts hin7 hown hK hP (2 * si) (zsh_at si hsi) rfl 4 (by decide) (hts _ zm_432) (fun _ h9 => h9) rfl dX8_isHeapZero_25 ?_
      refine lv_icmp_ge (tgt := 60) hx hb dX8_isHeapZero_28 (by decide) (fun c_2 => ?_) (fun c_2 => ?_)
      · have hF := zt c_2 hF
        refine lv_iconst (v := 1) hx hb dX8_isHeapZero_60 (by decide) ?_
        obtain rfl := Option.some.inj hF
        exact hret _ _ (zbool (Or.inr rfl)) dX8_isHeapZero_61
      · have hF := zf c_2 hF
        refine lv_aload_n hx hb dX8_isHeapZero_31 rfl (lv_at hl 1 rfl) ?_
        refine va_get (D := D) (ci := 4) (v := .ref (ad_s (2 * si + 1))) (C := RX7) (T := TX7) (N := 6) hx hb hts hin7 hown hK hP (2 * si) (zsh_at si hsi) rfl 5 (by decide) (hts _ zm_435) (fun _ h9 => h9) rfl dX8_isHeapZero_32 ?_
        refine lv_iload_n hx hb dX8_isHeapZero_35 rfl (lv_at hl 2 rfl) ?_
        obtain ⟨h_3, hF⟩ := zgi hF
        refine va_iald hx hb hK hP (2 * si + 1) 0 (zsh_el si hsi) rfl h_3 dX8_isHeapZero_36 ?_
        refine lv_aload_n hx hb dX8_isHeapZero_37 rfl (lv_at hl 0 rfl) ?_
        refine va_get (D := D) (ci := 5) (v := .ref (ad_n 0)) (C := RX8) (T := TX8) (N := 11) hx hb hts hin8 hown hK hP 16 rfl rfl 1 (by decide) (hts _ zm_428) (fun _ h9 => h9) rfl dX8_isHeapZero_38 ?_
        refine va_get (D := D) (ci := 2) (v := .ref (ad_b 0)) (C := RX3) (T := TX3) (N := 15) hx hb hts hin3 hown hK hP 20 rfl rfl 2 (by decide) (hts _ zm_433) (fun _ h9 => h9) rfl dX8_isHeapZero_41 ?_
        refine lv_iconst (v := 0) hx hb dX8_isHeapZero_44 (by decide) ?_
        refine lv_iload_n hx hb dX8_isHeapZero_45 rfl (lv_at hl 2 rfl) ?_
        obtain ⟨o_4, hc_4, hF⟩ := zb hF
        refine zcVR (rest := [.int (s_el si v2.toNatClampNeg)]) (kX0_coatAt l D ca t ad_b b_heaps b_piles b_heights b_spots 0 v2 fuel _ hc_4) ⟨hx, hb, hml, hown, hts⟩ (zcwV hts zm_437 zm_438 zm_439 zm_314 zm_436 rfl rfl zdv_X0_coatAt ⟨Nat.le_of_ble_eq_true rfl, Nat.le_of_ble_eq_true rfl⟩) hA hK hZ hP hD hS [29, 30, 31, 32, 33, 34, 35] rfl rfl 0 29 rfl rfl rfl hl.1 (Nat.le_of_ble_eq_true rfl) dX8_isHeapZero_46 rfl ?_
        refine lv_icmp_eq (tgt := 54) hx hb dX8_isHeapZero_49 (by decide) (fun c_5 => ?_) (fun c_5 => ?_)
        · have hF := zt c_5 hF
          refine z_iinc (kv := 1) hx hb 2 dX8_isHeapZero_54 hl rfl (by decide) (by decide) (fun g => [(2, .int g), (0, .ref (ad_q 0)), (1, .ref (ad_s (2 * si)))]) (fun _ => rfl) hF (fun v2_6 ls hF hl => ?_)
          refine lv_goto (tgt := 23) hx hb dX8_isHeapZero_57 (by decide) ?_
          exact ih23 v2_6 hF ls (lv_sub hl [1, 2, 0] rfl)
        · have hF := zf c_5 hF
          refine lv_iconst (v := 0) hx hb dX8_isHeapZero_52 (by decide) ?_
          obtain rfl := Option.some.inj hF
          exact hret _ _ (zbool (Or.inl rfl)) dX8_isHeapZero_53
  unfold fX8_isHeapZero at hF
  refine lv_aload_n hx hb dX8_isHeapZero_0 rfl (lv_at hl 1 rfl) ?_
  refine va_get (D := D) (ci := 4) (v := .int (s_size si)) (C := RX7) (T := TX7) (N := 6) hx hb hts hin7 hown hK hP (2 * si) (zsh_at si hsi) rfl 4 (by decide) (hts _ zm_432) (fun _ h9 => h9) rfl dX8_isHeapZero_1 ?_
  refine lv_aload_n hx hb dX8_isHeapZero_4 rfl (lv_at hl 0 rfl) ?_
  refine va_get (D := D) (ci := 5) (v := .ref (ad_n 0)) (C := RX8) (T := TX8) (N := 11) hx hb hts hin8 hown hK hP 16 rfl rfl 1 (by decide) (hts _ zm_428) (fun _ h9 => h9) rfl dX8_isHeapZero_5 ?_
  refine va_get (D := D) (ci := 2) (v := .ref (ad_b 0)) (C := RX3) (T := TX3) (N := 15) hx hb hts hin3 hown hK hP 20 rfl rfl 2 (by decide) (hts _ zm_433) (fun _ h9 => h9) rfl dX8_isHeapZero_8 ?_
  refine va_get (D := D) (ci := 0) (v := .ref (ad_b 5)) (C := RX0) (T := TX0) (N := 4) hx hb hts hin0 hown hK hP 29 rfl rfl 2 (by decide) (hts _ zm_434) (fun _ h9 => h9) rfl dX8_isHeapZero_11 ?_
  refine lv_iconst (v := 0) hx hb dX8_isHeapZero_14 (by decide) ?_
  refine z_ialdK 0 hx hb hK hP 34 0 rfl rfl (zin_ok (by decide)) (by decide) dX8_isHeapZero_15 ?_
  refine lv_icmp_eq (tgt := 21) hx hb dX8_isHeapZero_16 (by decide) (fun c_1 => ?_) (fun c_1 => ?_)
  · have hF := zt c_1 hF
    refine lv_iconst (v := 0) hx hb dX8_isHeapZero_21 (by decide) ?_
    refine lv_istore_n (lv' := [(2, .int 0), (0, .ref (ad_q 0)), (1, .ref (ad_s (2 * si)))]) hx hb dX8_isHeapZero_22 rfl hl (by decide) rfl (fun ls hl => ?_)
    exact l23 fuel 0 hF ls (lv_sub hl [1, 2, 0] rfl)
  · have hF := zf c_1 hF
    refine lv_iconst (v := 0) hx hb dX8_isHeapZero_19 (by decide) ?_
    obtain rfl := Option.some.inj hF
    exact hret _ _ (zbool (Or.inl rfl)) dX8_isHeapZero_20
abbrev roX8_draw : Room := { frames := 0, cells := 0, slots := 0, locals := 0 }
set_option maxHeartbeats 4000000 in
set_option maxRecDepth 100000 in
theorem kX8_draw (l : Launch) (D : va_G) (ca : Nat → ClassId) (t : Nat → Nat) (ad_q : Nat → Nat) (ad_t : Nat → Nat) (ad_n : Nat → Nat) (q_row : Nat → Int32) (q_firstsLifts : Nat → Int32) (q_othersLifts : Nat → Int32) (q_seed : Int32) (q_found : Int32) (q_foundLifts : Int32) (q_mostLifts : Int32) (q_sumOfLifts : Int32) (q_sumOfMissers : Int32) (p1 : Int32) (fuel : Nat) (o : Int32 × Int32) (hF : fX8_draw fuel q_seed p1 = some o) : zMi l D (zT ca) t yX8_draw (.code yX8_draw cX8_draw 2 (some .int) :: zW) roX8_draw [.ref (ad_q 0), .int p1] (wX8_q ca ad_q ad_t ad_n q_row q_firstsLifts q_othersLifts q_seed q_found q_foundLifts q_mostLifts q_sumOfLifts q_sumOfMissers) (wX8_q ca ad_q ad_t ad_n q_row q_firstsLifts q_othersLifts o.2 q_found q_foundLifts q_mostLifts q_sumOfLifts q_sumOfMissers) o.1 := by
  refine zMi_of (cc := cX8_draw) (maxL := 2) (by decide) rfl (Nat.le_of_ble_eq_true rfl) ?_
  intro p e s m args below meth c A Q ls ⟨hx, hb, hml, hown, hts, hA, hK, hZ, hS⟩ hret hP hD hl
  have hts := fun w h => hts w (List.mem_cons_of_mem _ h)
  have hown : s.vm.findClass RX8 = some m.cls := hown
  have hl : lv_has ls 2 [(0, .ref (ad_q 0)), (1, .int p1)] := hl
  have hin8 := zin_X8
  unfold fX8_draw at hF
  refine lv_aload_n hx hb dX8_draw_0 rfl (lv_at hl 0 rfl) ?_
  refine lv_aload_n hx hb dX8_draw_1 rfl (lv_at hl 0 rfl) ?_
  refine va_get (D := D) (ci := 5) (v := .int q_seed) (C := RX8) (T := TX8) (N := 11) hx hb hts hin8 hown hK hP 0 rfl rfl 5 (by decide) (hts _ zm_440) (fun _ h9 => h9) rfl dX8_draw_2 ?_
  refine lv_ldc hx hb hown (hts _ zm_441) dX8_draw_5 ?_
  refine lv_imul hx hb dX8_draw_7 ?_
  refine lv_sipush (v := 12345) hx hb dX8_draw_8 (by decide) ?_
  refine lv_iadd hx hb dX8_draw_11 ?_
  refine z_let hF (fun seed_1 hF => ?_)
  refine va_put (D := D) (ci := 5) (v := .int seed_1) (C := RX8) (T := TX8) (N := 11) hx hb hts hin8 tyX8 tyX8_ok nmX8 hown hK hP hD hS 0 rfl rfl 5 (by decide) (hts _ zm_440) (fun _ h9 => h9) rfl (tyX8_ok 5 (by decide)) rfl rfl (Nat.le_of_ble_eq_true rfl) dX8_draw_12 (fun H locs hP hD hS => ?_)
  have hP : va_P D vwCl (wX8_q ca ad_q ad_t ad_n q_row q_firstsLifts q_othersLifts seed_1 q_found q_foundLifts q_mostLifts q_sumOfLifts q_sumOfMissers) H := hP
  have hD : va_D A (wX8_q ca ad_q ad_t ad_n q_row q_firstsLifts q_othersLifts seed_1 q_found q_foundLifts q_mostLifts q_sumOfLifts q_sumOfMissers) := hD
  refine lv_iload_n hx hb dX8_draw_15 rfl (lv_at hl 1 rfl) ?_
  refine lv_iconst (v := 1) hx hb dX8_draw_16 (by decide) ?_
  refine lv_icmp_ge (tgt := 24) hx hb dX8_draw_17 (by decide) (fun c_2 => ?_) (fun c_2 => ?_)
  · have hF := zt c_2 hF
    refine lv_aload_n hx hb dX8_draw_24 rfl (lv_at hl 0 rfl) ?_
    refine va_get (D := D) (ci := 5) (v := .int seed_1) (C := RX8) (T := TX8) (N := 11) hx hb hts hin8 hown hK hP 0 rfl rfl 5 (by decide) (hts _ zm_440) (fun _ h9 => h9) rfl dX8_draw_25 ?_
    refine lv_ldc hx hb hown (hts _ zm_442) dX8_draw_28 ?_
    refine lv_iand hx hb dX8_draw_30 ?_
    refine lv_ldc hx hb hown (hts _ zm_443) dX8_draw_31 ?_
    refine lv_idiv hx hb dX8_draw_33 (by decide) ?_
    refine lv_iload_n hx hb dX8_draw_34 rfl (lv_at hl 1 rfl) ?_
    obtain ⟨h_3, hF⟩ := zgd hF
    refine lv_irem hx hb dX8_draw_35 h_3 ?_
    refine z_let hF (fun x_4 hF => ?_)
    obtain rfl := Option.some.inj hF
    exact hret _ _ _ _ hP hD hS rfl dX8_draw_36
  · have hF := zf c_2 hF
    refine lv_iconst (v := 0) hx hb dX8_draw_20 (by decide) ?_
    refine lv_goto (tgt := 36) hx hb dX8_draw_21 (by decide) ?_
    obtain rfl := Option.some.inj hF
    exact hret _ _ _ _ hP hD hS rfl dX8_draw_36
abbrev roX8_chainLengths : Room := { frames := 4, cells := 0, slots := 0, locals := 89 }
set_option maxHeartbeats 4000000 in
set_option maxRecDepth 100000 in
theorem kX8_chainLengths (l : Launch) (D : va_G) (ca : Nat → ClassId) (t : Nat → Nat) (ad_q : Nat → Nat) (ad_t : Nat → Nat) (ad_n : Nat → Nat) (ad_y : Nat → Nat) (ad_b : Nat → Nat) (ad_r : Nat → Nat) (q_row : Nat → Int32) (q_firstsLifts : Nat → Int32) (q_othersLifts : Nat → Int32) (q_seed : Int32) (q_found : Int32) (q_foundLifts : Int32) (q_mostLifts : Int32) (q_sumOfLifts : Int32) (q_sumOfMissers : Int32) (n_room : Nat) (n_order : Nat → Int32) (n_weights : Nat → Int32) (n_black : Nat → Int32) (n_lifts : Nat → Int32) (n_begins : Nat → Int32) (n_ends : Nat → Int32) (n_has : Nat → Int32) (n_lifted : Nat → Int32) (n_allLifts : Int32) (n_doneAt : Int32) (y_going : Nat → Int32) (y_coming : Nat → Int32) (y_holds : Int32) (y_latest : Int32) (r_guests : Int32) (r_kinds : Nat → Int32) (r_figures : Nat → Int32) (r_minutes : Nat → Int32) (r_settings : Nat → Int32) (r_hooks : Int32) (r_letters : Nat → Int32) (r_letterCount : Int32) (fuel : Nat) (o : (Nat → Int32) × (Nat → Int32) × (Nat → Int32) × (Nat → Int32) × (Nat → Int32) × (Nat → Int32)) (hF : fX8_chainLengths fuel q_row n_order n_weights n_black y_going y_coming r_guests r_kinds r_figures r_minutes = some o) : zMv l D (zT ca) t yX8_chainLengths (.code yX8_chainLengths cX8_chainLengths 4 none :: zW) roX8_chainLengths [.ref (ad_q 0), .ref (ad_r 0)] (wX8_qnyr ca ad_q ad_t ad_n ad_y ad_b ad_r q_row q_firstsLifts q_othersLifts q_seed q_found q_foundLifts q_mostLifts q_sumOfLifts q_sumOfMissers n_room n_order n_weights n_black n_lifts n_begins n_ends n_has n_lifted n_allLifts n_doneAt y_going y_coming y_holds y_latest r_guests r_kinds r_figures r_minutes r_settings r_hooks r_letters r_letterCount) (wX8_qnyr ca ad_q ad_t ad_n ad_y ad_b ad_r o.1 q_firstsLifts q_othersLifts q_seed q_found q_foundLifts q_mostLifts q_sumOfLifts q_sumOfMissers (ad_r 0) o.2.1 o.2.2.1 o.2.2.2.1 n_lifts n_begins n_ends n_has n_lifted n_allLifts n_doneAt o.2.2.2.2.1 o.2.2.2.2.2 y_holds y_latest r_guests r_kinds r_figures r_minutes r_settings r_hooks r_letters r_letterCount) := by
  refine zMv_of (cc := cX8_chainLengths) (maxL := 4) (by decide) rfl (Nat.le_of_ble_eq_true rfl) ?_
  intro p e s m args below meth c A Q ls ⟨hx, hb, hml, hown, hts, hA, hK, hZ, hS⟩ hret hP hD hl
  have hts := fun w h => hts w (List.mem_cons_of_mem _ h)
  have hown : s.vm.findClass RX8 = some m.cls := hown
  have hl : lv_has ls 4 [(0, .ref (ad_q 0)), (1, .ref (ad_r 0))] := hl
  have hin3 := zin_X3
  have hin5 := zin_X5
  have hin8 := zin_X8
  have l15 : ∀ (n15 : Nat) (v2 : Int32) (q_row : Nat → Int32) (n_order : Nat → Int32) (n_weights : Nat → Int32) (n_black : Nat → Int32) (y_going : Nat → Int32) (y_coming : Nat → Int32) (H : Heap) (locs : List Loc), fX8_chainLengths_L15 fuel r_guests n15 v2 q_row n_order n_weights n_black y_going y_coming = some o → va_P D vwCl (wX8_qnyr ca ad_q ad_t ad_n ad_y ad_b ad_r q_row q_firstsLifts q_othersLifts q_seed q_found q_foundLifts q_mostLifts q_sumOfLifts q_sumOfMissers (ad_r 0) n_order n_weights n_black n_lifts n_begins n_ends n_has n_lifted n_allLifts n_doneAt y_going y_coming y_holds y_latest r_guests r_kinds r_figures r_minutes r_settings r_hooks r_letters r_letterCount) H → va_D A (wX8_qnyr ca ad_q ad_t ad_n ad_y ad_b ad_r q_row q_firstsLifts q_othersLifts q_seed q_found q_foundLifts q_mostLifts q_sumOfLifts q_sumOfMissers (ad_r 0) n_order n_weights n_black n_lifts n_begins n_ends n_has n_lifted n_allLifts n_doneAt y_going y_coming y_holds y_latest r_guests r_kinds r_figures r_minutes r_settings r_hooks r_letters r_letterCount) → va_S A s.heap H locs → ∀ ls : Array Slot, lv_has ls 4 [(0, .ref (ad_q 0)), (1, .ref (ad_r 0)), (2, .int v2)] → W p l e roX8_chainLengths s m args below meth c H locs 0 0 Q (F0 m 15 ls []) := by
    intro n15
    induction n15 with
    | zero =>
      intro v2 q_row n_order n_weights n_black y_going y_coming H locs hF
      rw [fX8_chainLengths_L15] at hF
      cases hF
    | succ n15 ih15 =>
      have j88 : ∀ (v2 : Int32) (q_row : Nat → Int32) (n_order : Nat → Int32) (n_weights : Nat → Int32) (n_black : Nat → Int32) (y_going : Nat → Int32) (y_coming : Nat → Int32) (H : Heap) (locs : List Loc), fX8_chainLengths_J88 (fX8_chainLengths_L15 fuel r_guests n15) v2 q_row n_order n_weights n_black y_going y_coming = some o → va_P D vwCl (wX8_qnyr ca ad_q ad_t ad_n ad_y ad_b ad_r q_row q_firstsLifts q_othersLifts q_seed q_found q_foundLifts q_mostLifts q_sumOfLifts q_sumOfMissers (ad_r 0) n_order n_weights n_black n_lifts n_begins n_ends n_has n_lifted n_allLifts n_doneAt y_going y_coming y_holds y_latest r_guests r_kinds r_figures r_minutes r_settings r_hooks r_letters r_letterCount) H → va_D A (wX8_qnyr ca ad_q ad_t ad_n ad_y ad_b ad_r q_row q_firstsLifts q_othersLifts q_seed q_found q_foundLifts q_mostLifts q_sumOfLifts q_sumOfMissers (ad_r 0) n_order n_weights n_black n_lifts n_begins n_ends n_has n_lifted n_allLifts n_doneAt y_going y_coming y_holds y_latest r_guests r_kinds r_figures r_minutes r_settings r_hooks r_letters r_letterCount) → va_S A s.heap H locs → ∀ ls : Array Slot, lv_has ls 4 [(0, .ref (ad_q 0)), (1, .ref (ad_r 0)), (2, .int v2)] → W p l e roX8_chainLengths s m args below meth c H locs 0 0 Q (F0 m 88 ls []) := by
        intro v2 q_row n_order n_weights n_black y_going y_coming H locs hF hP hD hS ls hl
        unfold fX8_chainLengths_J88 at hF
        refine z_iinc (kv := (-1)) hx hb 2 dX8_chainLengths_88 hl rfl (by decide) (by decide) (fun g => [(2, .int g), (0, .ref (ad_q 0)), (1, .ref (ad_r 0))]) (fun _ => rfl) hF (fun v2_13 ls hF hl => ?_)
        refine lv_goto (tgt := 15) hx hb dX8_chainLengths_91 (by decide) ?_
        exact ih15 v2_13 q_row n_order n_weights n_black y_going y_coming _ _ hF hP hD hS ls (lv_sub hl [1, 2, 0] rfl)
      have l30 : ∀ (n30 : Nat) (v2 : Int32) (v3 : Int32) (q_row : Nat → Int32) (n_order : Nat → Int32) (n_weights : Nat → Int32) (n_black : Nat → Int32) (y_going : Nat → Int32) (y_coming : Nat → Int32) (H : Heap) (locs : List Loc), fX8_chainLengths_L30 r_guests (fX8_chainLengths_L15 fuel r_guests n15) n30 v2 v3 q_row n_order n_weights n_black y_going y_coming = some o → va_P D vwCl (wX8_qnyr ca ad_q ad_t ad_n ad_y ad_b ad_r q_row q_firstsLifts q_othersLifts q_seed q_found q_foundLifts q_mostLifts q_sumOfLifts q_sumOfMissers (ad_r 0) n_order n_weights n_black n_lifts n_begins n_ends n_has n_lifted n_allLifts n_doneAt y_going y_coming y_holds y_latest r_guests r_kinds r_figures r_minutes r_settings r_hooks r_letters r_letterCount) H → va_D A (wX8_qnyr ca ad_q ad_t ad_n ad_y ad_b ad_r q_row q_firstsLifts q_othersLifts q_seed q_found q_foundLifts q_mostLifts q_sumOfLifts q_sumOfMissers (ad_r 0) n_order n_weights n_black n_lifts n_begins n_ends n_has n_lifted n_allLifts n_doneAt y_going y_coming y_holds y_latest r_guests r_kinds r_figures r_minutes r_settings r_hooks r_letters r_letterCount) → va_S A s.heap H locs → ∀ ls : Array Slot, lv_has ls 4 [(0, .ref (ad_q 0)), (1, .ref (ad_r 0)), (2, .int v2), (3, .int v3)] → W p l e roX8_chainLengths s m args below meth c H locs 0 0 Q (F0 m 30 ls []) := by
        intro n30
        induction n30 with
        | zero =>
          intro v2 v3 q_row n_order n_weights n_black y_going y_coming H locs hF
          rw [fX8_chainLengths_L30] at hF
          cases hF
        | succ n30 ih30 =>
          have j82 : ∀ (v2 : Int32) (v3 : Int32) (q_row : Nat → Int32) (n_order : Nat → Int32) (n_weights : Nat → Int32) (n_black : Nat → Int32) (y_going : Nat → Int32) (y_coming : Nat → Int32) (H : Heap) (locs : List Loc), fX8_chainLengths_J82 (fX8_chainLengths_L15 fuel r_guests n15) (fX8_chainLengths_L30 r_guests (fX8_chainLengths_L15 fuel r_guests n15) n30) v2 v3 q_row n_order n_weights n_black y_going y_coming = some o → va_P D vwCl (wX8_qnyr ca ad_q ad_t ad_n ad_y ad_b ad_r q_row q_firstsLifts q_othersLifts q_seed q_found q_foundLifts q_mostLifts q_sumOfLifts q_sumOfMissers (ad_r 0) n_order n_weights n_black n_lifts n_begins n_ends n_has n_lifted n_allLifts n_doneAt y_going y_coming y_holds y_latest r_guests r_kinds r_figures r_minutes r_settings r_hooks r_letters r_letterCount) H → va_D A (wX8_qnyr ca ad_q ad_t ad_n ad_y ad_b ad_r q_row q_firstsLifts q_othersLifts q_seed q_found q_foundLifts q_mostLifts q_sumOfLifts q_sumOfMissers (ad_r 0) n_order n_weights n_black n_lifts n_begins n_ends n_has n_lifted n_allLifts n_doneAt y_going y_coming y_holds y_latest r_guests r_kinds r_figures r_minutes r_settings r_hooks r_letters r_letterCount) → va_S A s.heap H locs → ∀ ls : Array Slot, lv_has ls 4 [(0, .ref (ad_q 0)), (1, .ref (ad_r 0)), (2, .int v2), (3, .int v3)] → W p l e roX8_chainLengths s m args below meth c H locs 0 0 Q (F0 m 82 ls []) := by
            intro v2 v3 q_row n_order n_weights n_black y_going y_coming H locs hF hP hD hS ls hl
            unfold fX8_chainLengths_J82 at hF
            refine z_iinc (kv := 1) hx hb 3 dX8_chainLengths_82 hl rfl (by decide) (by decide) (fun g => [(3, .int g), (0, .ref (ad_q 0)), (1, .ref (ad_r 0)), (2, .int v2)]) (fun _ => rfl) hF (fun v3_14 ls hF hl => ?_)
            refine lv_goto (tgt := 30) hx hb dX8_chainLengths_85 (by decide) ?_
            exact ih30 v2 v3_14 q_row n_order n_weights n_black y_going y_coming _ _ hF hP hD hS ls (lv_sub hl [1, 2, 3, 0] rfl)
          intro v2 v3 q_row n_order n_weights n_black y_going y_coming H locs hF hP hD hS ls hl
          rw [fX8_chainLengths_L30] at hF
          refine lv_iload_n hx hb dX8_chainLengths_30 rfl (lv_at hl 3 rfl) ?_
          refine lv_aload_n hx hb dX8_chainLengths_31 rfl (lv_at hl 1 rfl) ?_
          refine va_get (D := D) (ci := 3) (v := .int r_guests) (C := RX5) (T := TX5) (N := 8) hx hb hts hin5 hown hK hP 16 rfl rfl 0 (by decide) (hts _ zm_425) (fun _ h9 => h9) rfl dX8_chainLengths_32 ?_
          refine lv_icmp_ge (tgt := 88) hx hb dX8_chainLengths_35 (by decide) (fun c_7 => ?_) (fun c_7 => ?_)
          · have hF := zt c_7 hF
            exact j88 v2 q_row n_order n_weights n_black y_going y_coming _ _ hF hP hD hS ls (lv_sub hl [0, 1, 2] rfl)
          · have hF := zf c_7 hF
            refine lv_aload_n hx hb dX8_chainLengths_38 rfl (lv_at hl 0 rfl) ?_
            refine va_get (D := D) (ci := 5) (v := .ref (ad_n 0)) (C := RX8) (T := TX8) (N := 11) hx hb hts hin8 hown hK hP 0 rfl rfl 1 (by decide) (hts _ zm_428) (fun _ h9 => h9) rfl dX8_chainLengths_39 ?_
            refine va_get (D := D) (ci := 2) (v := .ref (ad_y 1)) (C := RX3) (T := TX3) (N := 15) hx hb hts hin3 hown hK hP 4 rfl rfl 3 (by decide) (hts _ zm_606) (fun _ h9 => h9) rfl dX8_chainLengths_42 ?_
            refine lv_iload_n hx hb dX8_chainLengths_45 rfl (lv_at hl 3 rfl) ?_
            obtain ⟨h_8, hF⟩ := zgi hF
            refine va_iald hx hb hK hP 14 0 rfl rfl h_8 dX8_chainLengths_46 ?_
            refine lv_aload_n hx hb dX8_chainLengths_47 rfl (lv_at hl 0 rfl) ?_
            refine va_get (D := D) (ci := 5) (v := .ref (ad_n 0)) (C := RX8) (T := TX8) (N := 11) hx hb hts hin8 hown hK hP 0 rfl rfl 1 (by decide) (hts _ zm_428) (fun _ h9 => h9) rfl dX8_chainLengths_48 ?_
            refine va_get (D := D) (ci := 2) (v := .ref (ad_y 1)) (C := RX3) (T := TX3) (N := 15) hx hb hts hin3 hown hK hP 4 rfl rfl 3 (by decide) (hts _ zm_606) (fun _ h9 => h9) rfl dX8_chainLengths_51 ?_
            refine lv_iload_n hx hb dX8_chainLengths_54 rfl (lv_at hl 2 rfl) ?_
            obtain ⟨h_9, hF⟩ := zgi hF
            refine va_iald hx hb hK hP 14 0 rfl rfl h_9 dX8_chainLengths_55 ?_
            refine lv_icmp_lt (tgt := 82) hx hb dX8_chainLengths_56 (by decide) (fun c_10 => ?_) (fun c_10 => ?_)
            · have hF := zt c_10 hF
              exact j82 v2 v3 q_row n_order n_weights n_black y_going y_coming _ _ hF hP hD hS ls (lv_sub hl [0, 1, 2, 3] rfl)
            · have hF := zf c_10 hF
              refine lv_aload_n hx hb dX8_chainLengths_59 rfl (lv_at hl 0 rfl) ?_
              refine va_get (D := D) (ci := 5) (v := .ref (ad_q 1)) (C := RX8) (T := TX8) (N := 11) hx hb hts hin8 hown hK hP 0 rfl rfl 2 (by decide) (hts _ zm_426) (fun _ h9 => h9) rfl dX8_chainLengths_60 ?_
              refine lv_iload_n hx hb dX8_chainLengths_63 rfl (lv_at hl 2 rfl) ?_
              refine lv_aload_n hx hb dX8_chainLengths_64 rfl (lv_at hl 0 rfl) ?_
              refine va_get (D := D) (ci := 5) (v := .ref (ad_q 1)) (C := RX8) (T := TX8) (N := 11) hx hb hts hin8 hown hK hP 0 rfl rfl 2 (by decide) (hts _ zm_426) (fun _ h9 => h9) rfl dX8_chainLengths_65 ?_
              refine lv_iload_n hx hb dX8_chainLengths_68 rfl (lv_at hl 2 rfl) ?_
              refine va_iald hx hb hK hP 1 0 rfl rfl h_9 dX8_chainLengths_69 ?_
              refine lv_aload_n hx hb dX8_chainLengths_70 rfl (lv_at hl 0 rfl) ?_
              refine va_get (D := D) (ci := 5) (v := .ref (ad_q 1)) (C := RX8) (T := TX8) (N := 11) hx hb hts hin8 hown hK hP 0 rfl rfl 2 (by decide) (hts _ zm_426) (fun _ h9 => h9) rfl dX8_chainLengths_71 ?_
              refine lv_iload_n hx hb dX8_chainLengths_74 rfl (lv_at hl 3 rfl) ?_
              refine va_iald hx hb hK hP 1 0 rfl rfl h_8 dX8_chainLengths_75 ?_
              refine lv_iconst (v := 1) hx hb dX8_chainLengths_76 (by decide) ?_
              refine lv_iadd hx hb dX8_chainLengths_77 ?_
              refine va_mmax hx hb (hml.trans hl.1.symm) hown (hts _ zm_607) (hts _ zm_22) (hts _ zm_23) (hts _ zm_24) (Nat.le_of_ble_eq_true rfl) (Nat.le_of_ble_eq_true rfl) (Nat.zero_le _) (Nat.zero_le _) dX8_chainLengths_78 ?_
              refine z_let hF (fun x_11 hF => ?_)
              refine z_iast hx hb hK hP hD hS 1 0 rfl rfl h_9 dX8_chainLengths_81 (fun g => (wX8_qnyr ca ad_q ad_t ad_n ad_y ad_b ad_r g q_firstsLifts q_othersLifts q_seed q_found q_foundLifts q_mostLifts q_sumOfLifts q_sumOfMissers (ad_r 0) n_order n_weights n_black n_lifts n_begins n_ends n_has n_lifted n_allLifts n_doneAt y_going y_coming y_holds y_latest r_guests r_kinds r_figures r_minutes r_settings r_hooks r_letters r_letterCount)) (fun _ => rfl) hF (fun q_row_12 H locs hF hP hD hS => ?_)
              exact j82 v2 v3 q_row_12 n_order n_weights n_black y_going y_coming _ _ hF hP hD hS ls (lv_sub hl [0, 1, 2, 3] rfl)
      intro v2 q_row n_order n_weights n_black y_going y_coming H locs hF hP hD hS ls hl
      rw [fX8_chainLengths_L15] at hF
      refine lv_iload_n hx hb dX8_chainLengths_15 rfl (lv_at hl 2 rfl) ?_
      refine lv_if_lt (tgt := 94) hx hb dX8_chainLengths_16 (by decide) (fun c_3 => ?_) (fun c_3 => ?_)
      · have hF := zt c_3 hF
        obtain rfl := Option.some.inj hF
        exact hret _ _ _ _ hP hD hS dX8_chainLengths_94
      · have hF := zf c_3 hF
        refine lv_aload_n hx hb dX8_chainLengths_19 rfl (lv_at hl 0 rfl) ?_
        refine va_get (D := D) (ci := 5) (v := .ref (ad_q 1)) (C := RX8) (T := TX8) (N := 11) hx hb hts hin8 hown hK hP 0 rfl rfl 2 (by decide) (hts _ zm_426) (fun _ h9 => h9) rfl dX8_chainLengths_20 ?_
        refine lv_iload_n hx hb dX8_chainLengths_23 rfl (lv_at hl 2 rfl) ?_
        refine lv_iconst (v := 1) hx hb dX8_chainLengths_24 (by decide) ?_
        obtain ⟨h_4, hF⟩ := zgi hF
        refine z_iast hx hb hK hP hD hS 1 0 rfl rfl h_4 dX8_chainLengths_25 (fun g => (wX8_qnyr ca ad_q ad_t ad_n ad_y ad_b ad_r g q_firstsLifts q_othersLifts q_seed q_found q_foundLifts q_mostLifts q_sumOfLifts q_sumOfMissers (ad_r 0) n_order n_weights n_black n_lifts n_begins n_ends n_has n_lifted n_allLifts n_doneAt y_going y_coming y_holds y_latest r_guests r_kinds r_figures r_minutes r_settings r_hooks r_letters r_letterCount)) (fun _ => rfl) hF (fun q_row_5 H locs hF hP hD hS => ?_)
        refine lv_iload_n hx hb dX8_chainLengths_26 rfl (lv_at hl 2 rfl) ?_
        refine lv_iconst (v := 1) hx hb dX8_chainLengths_27 (by decide) ?_
        refine lv_iadd hx hb dX8_chainLengths_28 ?_
        refine z_let hF (fun v3_6 hF => ?_)
        refine lv_istore_n (lv' := [(3, .int v3_6), (0, .ref (ad_q 0)), (1, .ref (ad_r 0)), (2, .int v2)]) hx hb dX8_chainLengths_29 rfl hl (by decide) rfl (fun ls hl => ?_)
        exact l30 fuel v2 v3_6 q_row_5 n_order n_weights n_black y_going y_coming _ _ hF hP hD hS ls (lv_sub hl [1, 2, 3, 0] rfl)
  unfold fX8_chainLengths at hF
  refine lv_aload_n hx hb dX8_chainLengths_0 rfl (lv_at hl 0 rfl) ?_
  refine va_get (D := D) (ci := 5) (v := .ref (ad_n 0)) (C := RX8) (T := TX8) (N := 11) hx hb hts hin8 hown hK hP 0 rfl rfl 1 (by decide) (hts _ zm_428) (fun _ h9 => h9) rfl dX8_chainLengths_1 ?_
  refine lv_aload_n hx hb dX8_chainLengths_4 rfl (lv_at hl 1 rfl) ?_
  obtain ⟨o_1, hc_1, hF⟩ := zb hF
  refine zcVv (rest := []) (ws' := (wX8_qnyr ca ad_q ad_t ad_n ad_y ad_b ad_r q_row q_firstsLifts q_othersLifts q_seed q_found q_foundLifts q_mostLifts q_sumOfLifts q_sumOfMissers (ad_r 0) o_1.1 o_1.2.1 o_1.2.2.1 n_lifts n_begins n_ends n_has n_lifted n_allLifts n_doneAt o_1.2.2.2.1 o_1.2.2.2.2 y_holds y_latest r_guests r_kinds r_figures r_minutes r_settings r_hooks r_letters r_letterCount)) (kX3_begin l D ca t ad_n ad_y ad_b ad_r n_room n_order n_weights n_black n_lifts n_begins n_ends n_has n_lifted n_allLifts n_doneAt y_going y_coming y_holds y_latest r_guests r_kinds r_figures r_minutes r_settings r_hooks r_letters r_letterCount fuel _ hc_1) ⟨hx, hb, hml, hown, hts⟩ (zcwV hts zm_603 zm_604 zm_605 zm_568 zm_602 rfl rfl zdv_X3_begin ⟨Nat.le_of_ble_eq_true rfl, Nat.le_of_ble_eq_true rfl⟩) hA hK hZ hP hD hS [4, 5, 6, 7, 8, 9, 10, 11, 12, 13, 14, 15, 16, 17, 18, 19, 20, 21] [0, 1, 2, 3] [0, 1, 2, 3, 4, 5, 6, 7, 8, 9, 10, 11, 12, 13, 14, 15, 16, 17, 18, 19, 20, 21] rfl rfl rfl rfl rfl rfl rfl 2 4 rfl rfl rfl hl.1 (Nat.le_of_ble_eq_true rfl) dX8_chainLengths_5 rfl (fun H locs hP hD hS => ?_)
  refine lv_aload_n hx hb dX8_chainLengths_8 rfl (lv_at hl 1 rfl) ?_
  refine va_get (D := D) (ci := 3) (v := .int r_guests) (C := RX5) (T := TX5) (N := 8) hx hb hts hin5 hown hK hP 16 rfl rfl 0 (by decide) (hts _ zm_425) (fun _ h9 => h9) rfl dX8_chainLengths_9 ?_
  refine lv_iconst (v := 1) hx hb dX8_chainLengths_12 (by decide) ?_
  refine lv_isub hx hb dX8_chainLengths_13 ?_
  refine z_let hF (fun v2_2 hF => ?_)
  refine lv_istore_n (lv' := [(2, .int v2_2), (0, .ref (ad_q 0)), (1, .ref (ad_r 0))]) hx hb dX8_chainLengths_14 rfl hl (by decide) rfl (fun ls hl => ?_)
  exact l15 fuel v2_2 q_row o_1.1 o_1.2.1 o_1.2.2.1 o_1.2.2.2.1 o_1.2.2.2.2 _ _ hF hP hD hS ls (lv_sub hl [1, 2, 0] rfl)
theorem zdv_X8_chainLengths : yX8_chainLengths.cls = RX8 ∧ yX8_chainLengths.cls ≠ "java/lang/invoke/MethodHandle" ∧ yX8_chainLengths.cls ≠ "java/lang/invoke/VarHandle" ∧ (parseMethodDescriptor yX8_chainLengths.desc).map (fun d => d.parameters.length) = some 1 := by decide +kernel
abbrev roX8_fewestHeaps : Room := { frames := 5, cells := 0, slots := 0, locals := 112 }
set_option maxHeartbeats 4000000 in
set_option maxRecDepth 100000 in
theorem kX8_fewestHeaps (l : Launch) (D : va_G) (ca : Nat → ClassId) (t : Nat → Nat) (ad_q : Nat → Nat) (ad_t : Nat → Nat) (ad_n : Nat → Nat) (ad_y : Nat → Nat) (ad_b : Nat → Nat) (ad_r : Nat → Nat) (q_row : Nat → Int32) (q_firstsLifts : Nat → Int32) (q_othersLifts : Nat → Int32) (q_seed : Int32) (q_found : Int32) (q_foundLifts : Int32) (q_mostLifts : Int32) (q_sumOfLifts : Int32) (q_sumOfMissers : Int32) (n_room : Nat) (n_order : Nat → Int32) (n_weights : Nat → Int32) (n_black : Nat → Int32) (n_lifts : Nat → Int32) (n_begins : Nat → Int32) (n_ends : Nat → Int32) (n_has : Nat → Int32) (n_lifted : Nat → Int32) (n_allLifts : Int32) (n_doneAt : Int32) (y_going : Nat → Int32) (y_coming : Nat → Int32) (y_holds : Int32) (y_latest : Int32) (r_guests : Int32) (r_kinds : Nat → Int32) (r_figures : Nat → Int32) (r_minutes : Nat → Int32) (r_settings : Nat → Int32) (r_hooks : Int32) (r_letters : Nat → Int32) (r_letterCount : Int32) (fuel : Nat) (o : Int32 × (Nat → Int32) × (Nat → Int32) × (Nat → Int32) × (Nat → Int32) × (Nat → Int32) × (Nat → Int32)) (hF : fX8_fewestHeaps fuel q_row n_order n_weights n_black y_going y_coming r_guests r_kinds r_figures r_minutes = some o) : zMi l D (zT ca) t yX8_fewestHeaps (.code yX8_fewestHeaps cX8_fewestHeaps 4 (some .int) :: zW) roX8_fewestHeaps [.ref (ad_q 0), .ref (ad_r 0)] (wX8_qnyr ca ad_q ad_t ad_n ad_y ad_b ad_r q_row q_firstsLifts q_othersLifts q_seed q_found q_foundLifts q_mostLifts q_sumOfLifts q_sumOfMissers n_room n_order n_weights n_black n_lifts n_begins n_ends n_has n_lifted n_allLifts n_doneAt y_going y_coming y_holds y_latest r_guests r_kinds r_figures r_minutes r_settings r_hooks r_letters r_letterCount) (wX8_qnyr ca ad_q ad_t ad_n ad_y ad_b ad_r o.2.1 q_firstsLifts q_othersLifts q_seed q_found q_foundLifts q_mostLifts q_sumOfLifts q_sumOfMissers (ad_r 0) o.2.2.1 o.2.2.2.1 o.2.2.2.2.1 n_lifts n_begins n_ends n_has n_lifted n_allLifts n_doneAt o.2.2.2.2.2.1 o.2.2.2.2.2.2 y_holds y_latest r_guests r_kinds r_figures r_minutes r_settings r_hooks r_letters r_letterCount) o.1 := by
  refine zMi_of (cc := cX8_fewestHeaps) (maxL := 4) (by decide) rfl (Nat.le_of_ble_eq_true rfl) ?_
  intro p e s m args below meth c A Q ls ⟨hx, hb, hml, hown, hts, hA, hK, hZ, hS⟩ hret hP hD hl
  have hts := fun w h => hts w (List.mem_cons_of_mem _ h)
  have hown : s.vm.findClass RX8 = some m.cls := hown
  have hl : lv_has ls 4 [(0, .ref (ad_q 0)), (1, .ref (ad_r 0))] := hl
  have hin5 := zin_X5
  have hin8 := zin_X8
  have l9 : ∀ (n9 : Nat) (v2 : Int32) (v3 : Int32) (q_row : Nat → Int32) (n_order : Nat → Int32) (n_weights : Nat → Int32) (n_black : Nat → Int32) (y_going : Nat → Int32) (y_coming : Nat → Int32) (H : Heap) (locs : List Loc), fX8_fewestHeaps_L9 r_guests n9 v2 v3 q_row n_order n_weights n_black y_going y_coming = some o → va_P D vwCl (wX8_qnyr ca ad_q ad_t ad_n ad_y ad_b ad_r q_row q_firstsLifts q_othersLifts q_seed q_found q_foundLifts q_mostLifts q_sumOfLifts q_sumOfMissers (ad_r 0) n_order n_weights n_black n_lifts n_begins n_ends n_has n_lifted n_allLifts n_doneAt y_going y_coming y_holds y_latest r_guests r_kinds r_figures r_minutes r_settings r_hooks r_letters r_letterCount) H → va_D A (wX8_qnyr ca ad_q ad_t ad_n ad_y ad_b ad_r q_row q_firstsLifts q_othersLifts q_seed q_found q_foundLifts q_mostLifts q_sumOfLifts q_sumOfMissers (ad_r 0) n_order n_weights n_black n_lifts n_begins n_ends n_has n_lifted n_allLifts n_doneAt y_going y_coming y_holds y_latest r_guests r_kinds r_figures r_minutes r_settings r_hooks r_letters r_letterCount) → va_S A s.heap H locs → ∀ ls : Array Slot, lv_has ls 4 [(0, .ref (ad_q 0)), (1, .ref (ad_r 0)), (2, .int v2), (3, .int v3)] → W p l e roX8_fewestHeaps s m args below meth c H locs 0 0 Q (F0 m 9 ls []) := by
    intro n9
    induction n9 with
    | zero =>
      intro v2 v3 q_row n_order n_weights n_black y_going y_coming H locs hF
      rw [fX8_fewestHeaps_L9] at hF
      cases hF
    | succ n9 ih9 =>
      intro v2 v3 q_row n_order n_weights n_black y_going y_coming H locs hF hP hD hS ls hl
      rw [fX8_fewestHeaps_L9] at hF
      refine lv_iload_n hx hb dX8_fewestHeaps_9 rfl (lv_at hl 3 rfl) ?_
      refine lv_aload_n hx hb dX8_fewestHeaps_10 rfl (lv_at hl 1 rfl) ?_
      refine va_get (D := D) (ci := 3) (v := .int r_guests) (C := RX5) (T := TX5) (N := 8) hx hb hts hin5 hown hK hP 16 rfl rfl 0 (by decide) (hts _ zm_425) (fun _ h9 => h9) rfl dX8_fewestHeaps_11 ?_
      refine lv_icmp_ge (tgt := 34) hx hb dX8_fewestHeaps_14 (by decide) (fun c_2 => ?_) (fun c_2 => ?_)
      · have hF := zt c_2 hF
        refine lv_iload_n hx hb dX8_fewestHeaps_34 rfl (lv_at hl 2 rfl) ?_
        obtain rfl := Option.some.inj hF
        exact hret _ _ _ _ hP hD hS rfl dX8_fewestHeaps_35
      · have hF := zf c_2 hF
        refine lv_iload_n hx hb dX8_fewestHeaps_17 rfl (lv_at hl 2 rfl) ?_
        refine lv_aload_n hx hb dX8_fewestHeaps_18 rfl (lv_at hl 0 rfl) ?_
        refine va_get (D := D) (ci := 5) (v := .ref (ad_q 1)) (C := RX8) (T := TX8) (N := 11) hx hb hts hin8 hown hK hP 0 rfl rfl 2 (by decide) (hts _ zm_426) (fun _ h9 => h9) rfl dX8_fewestHeaps_19 ?_
        refine lv_iload_n hx hb dX8_fewestHeaps_22 rfl (lv_at hl 3 rfl) ?_
        obtain ⟨h_3, hF⟩ := zgi hF
        refine va_iald hx hb hK hP 1 0 rfl rfl h_3 dX8_fewestHeaps_23 ?_
        refine va_mmax hx hb (hml.trans hl.1.symm) hown (hts _ zm_607) (hts _ zm_22) (hts _ zm_23) (hts _ zm_24) (Nat.le_of_ble_eq_true rfl) (Nat.le_of_ble_eq_true rfl) (Nat.zero_le _) (Nat.zero_le _) dX8_fewestHeaps_24 ?_
        refine z_let hF (fun x_4 hF => ?_)
        refine lv_istore_n (lv' := [(2, .int x_4), (0, .ref (ad_q 0)), (1, .ref (ad_r 0)), (3, .int v3)]) hx hb dX8_fewestHeaps_27 rfl hl (by decide) rfl (fun ls hl => ?_)
        refine z_iinc (kv := 1) hx hb 3 dX8_fewestHeaps_28 hl rfl (by decide) (by decide) (fun g => [(3, .int g), (2, .int x_4), (0, .ref (ad_q 0)), (1, .ref (ad_r 0))]) (fun _ => rfl) hF (fun v3_5 ls hF hl => ?_)
        refine lv_goto (tgt := 9) hx hb dX8_fewestHeaps_31 (by decide) ?_
        exact ih9 x_4 v3_5 q_row n_order n_weights n_black y_going y_coming _ _ hF hP hD hS ls (lv_sub hl [2, 3, 1, 0] rfl)
  unfold fX8_fewestHeaps at hF
  refine lv_aload_n hx hb dX8_fewestHeaps_0 rfl (lv_at hl 0 rfl) ?_
  refine lv_aload_n hx hb dX8_fewestHeaps_1 rfl (lv_at hl 1 rfl) ?_
  obtain ⟨o_1, hc_1, hF⟩ := zb hF
  refine zcVv (rest := []) (ws' := (wX8_qnyr ca ad_q ad_t ad_n ad_y ad_b ad_r o_1.1 q_firstsLifts q_othersLifts q_seed q_found q_foundLifts q_mostLifts q_sumOfLifts q_sumOfMissers (ad_r 0) o_1.2.1 o_1.2.2.1 o_1.2.2.2.1 n_lifts n_begins n_ends n_has n_lifted n_allLifts n_doneAt o_1.2.2.2.2.1 o_1.2.2.2.2.2 y_holds y_latest r_guests r_kinds r_figures r_minutes r_settings r_hooks r_letters r_letterCount)) (kX8_chainLengths l D ca t ad_q ad_t ad_n ad_y ad_b ad_r q_row q_firstsLifts q_othersLifts q_seed q_found q_foundLifts q_mostLifts q_sumOfLifts q_sumOfMissers n_room n_order n_weights n_black n_lifts n_begins n_ends n_has n_lifted n_allLifts n_doneAt y_going y_coming y_holds y_latest r_guests r_kinds r_figures r_minutes r_settings r_hooks r_letters r_letterCount fuel _ hc_1) ⟨hx, hb, hml, hown, hts⟩ (zcwV hts zm_655 zm_656 zm_657 zm_658 zm_654 rfl rfl zdv_X8_chainLengths ⟨Nat.le_of_ble_eq_true rfl, Nat.le_of_ble_eq_true rfl⟩) hA hK hZ hP hD hS [0, 1, 2, 3, 4, 5, 6, 7, 8, 9, 10, 11, 12, 13, 14, 15, 16, 17, 18, 19, 20, 21] [] [0, 1, 2, 3, 4, 5, 6, 7, 8, 9, 10, 11, 12, 13, 14, 15, 16, 17, 18, 19, 20, 21] rfl rfl rfl rfl rfl rfl rfl 5 0 rfl rfl rfl hl.1 (Nat.le_of_ble_eq_true rfl) dX8_fewestHeaps_2 rfl (fun H locs hP hD hS => ?_)
  refine lv_iconst (v := 0) hx hb dX8_fewestHeaps_5 (by decide) ?_
  refine lv_istore_n (lv' := [(2, .int 0), (0, .ref (ad_q 0)), (1, .ref (ad_r 0))]) hx hb dX8_fewestHeaps_6 rfl hl (by decide) rfl (fun ls hl => ?_)
  refine lv_iconst (v := 0) hx hb dX8_fewestHeaps_7 (by decide) ?_
  refine lv_istore_n (lv' := [(3, .int 0), (2, .int 0), (0, .ref (ad_q 0)), (1, .ref (ad_r 0))]) hx hb dX8_fewestHeaps_8 rfl hl (by decide) rfl (fun ls hl => ?_)
  exact l9 fuel 0 0 o_1.1 o_1.2.1 o_1.2.2.1 o_1.2.2.2.1 o_1.2.2.2.2.1 o_1.2.2.2.2.2 _ _ hF hP hD hS ls (lv_sub hl [2, 3, 1, 0] rfl)
theorem zdv_X8_fewestHeaps : yX8_fewestHeaps.cls = RX8 ∧ yX8_fewestHeaps.cls ≠ "java/lang/invoke/MethodHandle" ∧ yX8_fewestHeaps.cls ≠ "java/lang/invoke/VarHandle" ∧ (parseMethodDescriptor yX8_fewestHeaps.desc).map (fun d => d.parameters.length) = some 1 := by decide +kernel
abbrev roX8_shownGuest : Room := { frames := 6, cells := 0, slots := 0, locals := 135 }
set_option maxHeartbeats 4000000 in
set_option maxRecDepth 100000 in
theorem kX8_shownGuest (l : Launch) (D : va_G) (ca : Nat → ClassId) (t : Nat → Nat) (ad_q : Nat → Nat) (ad_t : Nat → Nat) (ad_n : Nat → Nat) (ad_y : Nat → Nat) (ad_b : Nat → Nat) (ad_r : Nat → Nat) (q_row : Nat → Int32) (q_firstsLifts : Nat → Int32) (q_othersLifts : Nat → Int32) (q_seed : Int32) (q_found : Int32) (q_foundLifts : Int32) (q_mostLifts : Int32) (q_sumOfLifts : Int32) (q_sumOfMissers : Int32) (n_room : Nat) (n_order : Nat → Int32) (n_weights : Nat → Int32) (n_black : Nat → Int32) (n_lifts : Nat → Int32) (n_begins : Nat → Int32) (n_ends : Nat → Int32) (n_has : Nat → Int32) (n_lifted : Nat → Int32) (n_allLifts : Int32) (n_doneAt : Int32) (y_going : Nat → Int32) (y_coming : Nat → Int32) (y_holds : Int32) (y_latest : Int32) (r_guests : Int32) (r_kinds : Nat → Int32) (r_figures : Nat → Int32) (r_minutes : Nat → Int32) (r_settings : Nat → Int32) (r_hooks : Int32) (r_letters : Nat → Int32) (r_letterCount : Int32) (p2 : Int32) (fuel : Nat) (o : Int32 × (Nat → Int32) × (Nat → Int32) × (Nat → Int32) × (Nat → Int32) × (Nat → Int32) × (Nat → Int32)) (hF : fX8_shownGuest fuel q_row n_order n_weights n_black y_going y_coming r_guests r_kinds r_figures r_minutes p2 = some o) : zMi l D (zT ca) t yX8_shownGuest (.code yX8_shownGuest cX8_shownGuest 7 (some .int) :: zW) roX8_shownGuest [.ref (ad_q 0), .ref (ad_r 0), .int p2] (wX8_qnyr ca ad_q ad_t ad_n ad_y ad_b ad_r q_row q_firstsLifts q_othersLifts q_seed q_found q_foundLifts q_mostLifts q_sumOfLifts q_sumOfMissers n_room n_order n_weights n_black n_lifts n_begins n_ends n_has n_lifted n_allLifts n_doneAt y_going y_coming y_holds y_latest r_guests r_kinds r_figures r_minutes r_settings r_hooks r_letters r_letterCount) (wX8_qnyr ca ad_q ad_t ad_n ad_y ad_b ad_r o.2.1 q_firstsLifts q_othersLifts q_seed q_found q_foundLifts q_mostLifts q_sumOfLifts q_sumOfMissers (ad_r 0) o.2.2.1 o.2.2.2.1 o.2.2.2.2.1 n_lifts n_begins n_ends n_has n_lifted n_allLifts n_doneAt o.2.2.2.2.2.1 o.2.2.2.2.2.2 y_holds y_latest r_guests r_kinds r_figures r_minutes r_settings r_hooks r_letters r_letterCount) o.1 := by
  refine zMi_of (cc := cX8_shownGuest) (maxL := 7) (by decide) rfl (Nat.le_of_ble_eq_true rfl) ?_
  intro p e s m args below meth c A Q ls ⟨hx, hb, hml, hown, hts, hA, hK, hZ, hS⟩ hret hP hD hl
  have hts := fun w h => hts w (List.mem_cons_of_mem _ h)
  have hown : s.vm.findClass RX8 = some m.cls := hown
  have hl : lv_has ls 7 [(0, .ref (ad_q 0)), (1, .ref (ad_r 0)), (2, .int p2)] := hl
  have hin3 := zin_X3
  have hin5 := zin_X5
  have hin8 := zin_X8
  have l15 : ∀ (n15 : Nat) (v3 : Int32) (v4 : Int32) (v5 : Int32) (v6 : Int32) (q_row : Nat → Int32) (n_order : Nat → Int32) (n_weights : Nat → Int32) (n_black : Nat → Int32) (y_going : Nat → Int32) (y_coming : Nat → Int32) (H : Heap) (locs : List Loc), fX8_shownGuest_L15 r_guests p2 n15 v3 v4 v5 v6 q_row n_order n_weights n_black y_going y_coming = some o → va_P D vwCl (wX8_qnyr ca ad_q ad_t ad_n ad_y ad_b ad_r q_row q_firstsLifts q_othersLifts q_seed q_found q_foundLifts q_mostLifts q_sumOfLifts q_sumOfMissers (ad_r 0) n_order n_weights n_black n_lifts n_begins n_ends n_has n_lifted n_allLifts n_doneAt y_going y_coming y_holds y_latest r_guests r_kinds r_figures r_minutes r_settings r_hooks r_letters r_letterCount) H → va_D A (wX8_qnyr ca ad_q ad_t ad_n ad_y ad_b ad_r q_row q_firstsLifts q_othersLifts q_seed q_found q_foundLifts q_mostLifts q_sumOfLifts q_sumOfMissers (ad_r 0) n_order n_weights n_black n_lifts n_begins n_ends n_has n_lifted n_allLifts n_doneAt y_going y_coming y_holds y_latest r_guests r_kinds r_figures r_minutes r_settings r_hooks r_letters r_letterCount) → va_S A s.heap H locs → ∀ ls : Array Slot, lv_has ls 7 [(0, .ref (ad_q 0)), (1, .ref (ad_r 0)), (2, .int p2), (3, .int v3), (4, .int v4), (5, .int v5), (6, .int v6)] → W p l e roX8_shownGuest s m args below meth c H locs 0 0 Q (F0 m 15 ls []) := by
    intro n15
    induction n15 with
    | zero =>
      intro v3 v4 v5 v6 q_row n_order n_weights n_black y_going y_coming H locs hF
      rw [fX8_shownGuest_L15] at hF
      cases hF
    | succ n15 ih15 =>
      have j77 : ∀ (v3 : Int32) (v4 : Int32) (v5 : Int32) (v6 : Int32) (q_row : Nat → Int32) (n_order : Nat → Int32) (n_weights : Nat → Int32) (n_black : Nat → Int32) (y_going : Nat → Int32) (y_coming : Nat → Int32) (H : Heap) (locs : List Loc), fX8_shownGuest_J77 (fX8_shownGuest_L15 r_guests p2 n15) v3 v4 v5 v6 q_row n_order n_weights n_black y_going y_coming = some o → va_P D vwCl (wX8_qnyr ca ad_q ad_t ad_n ad_y ad_b ad_r q_row q_firstsLifts q_othersLifts q_seed q_found q_foundLifts q_mostLifts q_sumOfLifts q_sumOfMissers (ad_r 0) n_order n_weights n_black n_lifts n_begins n_ends n_has n_lifted n_allLifts n_doneAt y_going y_coming y_holds y_latest r_guests r_kinds r_figures r_minutes r_settings r_hooks r_letters r_letterCount) H → va_D A (wX8_qnyr ca ad_q ad_t ad_n ad_y ad_b ad_r q_row q_firstsLifts q_othersLifts q_seed q_found q_foundLifts q_mostLifts q_sumOfLifts q_sumOfMissers (ad_r 0) n_order n_weights n_black n_lifts n_begins n_ends n_has n_lifted n_allLifts n_doneAt y_going y_coming y_holds y_latest r_guests r_kinds r_figures r_minutes r_settings r_hooks r_letters r_letterCount) → va_S A s.heap H locs → ∀ ls : Array Slot, lv_has ls 7 [(0, .ref (ad_q 0)), (1, .ref (ad_r 0)), (2, .int p2), (3, .int v3), (4, .int v4), (5, .int v5), (6, .int v6)] → W p l e roX8_shownGuest s m args below meth c H locs 0 0 Q (F0 m 77 ls []) := by
        intro v3 v4 v5 v6 q_row n_order n_weights n_black y_going y_coming H locs hF hP hD hS ls hl
        unfold fX8_shownGuest_J77 at hF
        refine z_iinc (kv := 1) hx hb 6 dX8_shownGuest_77 hl rfl (by decide) (by decide) (fun g => [(6, .int g), (0, .ref (ad_q 0)), (1, .ref (ad_r 0)), (2, .int p2), (3, .int v3), (4, .int v4), (5, .int v5)]) (fun _ => rfl) hF (fun v6_10 ls hF hl => ?_)
        refine lv_goto (tgt := 15) hx hb dX8_shownGuest_80 (by decide) ?_
        exact ih15 v3 v4 v5 v6_10 q_row n_order n_weights n_black y_going y_coming _ _ hF hP hD hS ls (lv_sub hl [1, 2, 3, 4, 5, 6, 0] rfl)
      intro v3 v4 v5 v6 q_row n_order n_weights n_black y_going y_coming H locs hF hP hD hS ls hl
      rw [fX8_shownGuest_L15] at hF
      refine lv_iload hx hb dX8_shownGuest_15 (lv_at hl 6 rfl) ?_
      refine lv_aload_n hx hb dX8_shownGuest_17 rfl (lv_at hl 1 rfl) ?_
      refine va_get (D := D) (ci := 3) (v := .int r_guests) (C := RX5) (T := TX5) (N := 8) hx hb hts hin5 hown hK hP 16 rfl rfl 0 (by decide) (hts _ zm_425) (fun _ h9 => h9) rfl dX8_shownGuest_18 ?_
      refine lv_icmp_ge (tgt := 83) hx hb dX8_shownGuest_21 (by decide) (fun c_2 => ?_) (fun c_2 => ?_)
      · have hF := zt c_2 hF
        refine lv_bipush (v := (-4)) hx hb dX8_shownGuest_83 (by decide) ?_
        obtain rfl := Option.some.inj hF
        exact hret _ _ _ _ hP hD hS rfl dX8_shownGuest_85
      · have hF := zf c_2 hF
        refine lv_aload_n hx hb dX8_shownGuest_24 rfl (lv_at hl 0 rfl) ?_
        refine va_get (D := D) (ci := 5) (v := .ref (ad_q 1)) (C := RX8) (T := TX8) (N := 11) hx hb hts hin8 hown hK hP 0 rfl rfl 2 (by decide) (hts _ zm_426) (fun _ h9 => h9) rfl dX8_shownGuest_25 ?_
        refine lv_iload hx hb dX8_shownGuest_28 (lv_at hl 6 rfl) ?_
        obtain ⟨h_3, hF⟩ := zgi hF
        refine va_iald hx hb hK hP 1 0 rfl rfl h_3 dX8_shownGuest_30 ?_
        refine lv_iload_n hx hb dX8_shownGuest_31 rfl (lv_at hl 3 rfl) ?_
        refine lv_icmp_ne (tgt := 77) hx hb dX8_shownGuest_32 (by decide) (fun c_4 => ?_) (fun c_4 => ?_)
        · have hF := zf c_4 hF
          exact j77 v3 v4 v5 v6 q_row n_order n_weights n_black y_going y_coming _ _ hF hP hD hS ls (lv_sub hl [0, 1, 2, 3, 4, 5, 6] rfl)
        · have hF := zt c_4 hF
          refine lv_aload_n hx hb dX8_shownGuest_35 rfl (lv_at hl 0 rfl) ?_
          refine va_get (D := D) (ci := 5) (v := .ref (ad_n 0)) (C := RX8) (T := TX8) (N := 11) hx hb hts hin8 hown hK hP 0 rfl rfl 1 (by decide) (hts _ zm_428) (fun _ h9 => h9) rfl dX8_shownGuest_36 ?_
          refine va_get (D := D) (ci := 2) (v := .ref (ad_y 1)) (C := RX3) (T := TX3) (N := 15) hx hb hts hin3 hown hK hP 4 rfl rfl 3 (by decide) (hts _ zm_606) (fun _ h9 => h9) rfl dX8_shownGuest_39 ?_
          refine lv_iload hx hb dX8_shownGuest_42 (lv_at hl 6 rfl) ?_
          refine va_iald hx hb hK hP 14 0 rfl rfl h_3 dX8_shownGuest_44 ?_
          refine lv_iload hx hb dX8_shownGuest_45 (lv_at hl 4 rfl) ?_
          refine lv_icmp_lt (tgt := 77) hx hb dX8_shownGuest_47 (by decide) (fun c_5 => ?_) (fun c_5 => ?_)
          · have hF := zt c_5 hF
            exact j77 v3 v4 v5 v6 q_row n_order n_weights n_black y_going y_coming _ _ hF hP hD hS ls (lv_sub hl [0, 1, 2, 3, 4, 5, 6] rfl)
          · have hF := zf c_5 hF
            refine lv_iload hx hb dX8_shownGuest_50 (lv_at hl 5 rfl) ?_
            refine lv_iload_n hx hb dX8_shownGuest_52 rfl (lv_at hl 2 rfl) ?_
            refine lv_icmp_ne (tgt := 59) hx hb dX8_shownGuest_53 (by decide) (fun c_6 => ?_) (fun c_6 => ?_)
            · have hF := zf c_6 hF
              refine z_iinc (kv := 1) hx hb 5 dX8_shownGuest_59 hl rfl (by decide) (by decide) (fun g => [(5, .int g), (0, .ref (ad_q 0)), (1, .ref (ad_r 0)), (2, .int p2), (3, .int v3), (4, .int v4), (6, .int v6)]) (fun _ => rfl) hF (fun v5_7 ls hF hl => ?_)
              refine z_iinc (kv := (-1)) hx hb 4 dX8_shownGuest_62 hl rfl (by decide) (by decide) (fun g => [(3, .int g), (5, .int v5_7), (0, .ref (ad_q 0)), (1, .ref (ad_r 0)), (2, .int p2), (4, .int v4), (6, .int v6)]) (fun _ => rfl) hF (fun v3_8 ls hF hl => ?_)
              refine lv_aload_n hx hb dX8_shownGuest_65 rfl (lv_at hl 2 rfl) ?_
              refine va_get (D := D) (ci := 5) (v := .ref (ad_n 0)) (C := RX8) (T := TX8) (N := 11) hx hb hts hin8 hown hK hP 0 rfl rfl 1 (by decide) (hts _ zm_428) (fun _ h9 => h9) rfl dX8_shownGuest_66 ?_
              refine va_get (D := D) (ci := 2) (v := .ref (ad_y 1)) (C := RX3) (T := TX3) (N := 15) hx hb hts hin3 hown hK hP 4 rfl rfl 3 (by decide) (hts _ zm_606) (fun _ h9 => h9) rfl dX8_shownGuest_69 ?_
              refine lv_iload hx hb dX8_shownGuest_72 (lv_at hl 6 rfl) ?_
              refine va_iald hx hb hK hP 14 0 rfl rfl h_3 dX8_shownGuest_74 ?_
              refine z_let hF (fun v4_9 hF => ?_)
              refine lv_istore (lv' := [(4, .int v4_9), (3, .int v3_8), (5, .int v5_7), (0, .ref (ad_q 0)), (1, .ref (ad_r 0)), (2, .int p2), (6, .int v6)]) hx hb dX8_shownGuest_75 hl (by decide) rfl (fun ls hl => ?_)
              exact j77 v3_8 v4_9 v5_7 v6 q_row n_order n_weights n_black y_going y_coming _ _ hF hP hD hS ls (lv_sub hl [3, 4, 5, 1, 0, 2, 6] rfl)
            · have hF := zt c_6 hF
              refine lv_iload hx hb dX8_shownGuest_56 (lv_at hl 6 rfl) ?_
              obtain rfl := Option.some.inj hF
              exact hret _ _ _ _ hP hD hS rfl dX8_shownGuest_58
  unfold fX8_shownGuest at hF
  refine lv_aload_n hx hb dX8_shownGuest_0 rfl (lv_at hl 0 rfl) ?_
  refine lv_aload_n hx hb dX8_shownGuest_1 rfl (lv_at hl 1 rfl) ?_
  obtain ⟨o_1, hc_1, hF⟩ := zb hF
  refine zcVi (rest := []) (ws' := (wX8_qnyr ca ad_q ad_t ad_n ad_y ad_b ad_r o_1.2.1 q_firstsLifts q_othersLifts q_seed q_found q_foundLifts q_mostLifts q_sumOfLifts q_sumOfMissers (ad_r 0) o_1.2.2.1 o_1.2.2.2.1 o_1.2.2.2.2.1 n_lifts n_begins n_ends n_has n_lifted n_allLifts n_doneAt o_1.2.2.2.2.2.1 o_1.2.2.2.2.2.2 y_holds y_latest r_guests r_kinds r_figures r_minutes r_settings r_hooks r_letters r_letterCount)) (kX8_fewestHeaps l D ca t ad_q ad_t ad_n ad_y ad_b ad_r q_row q_firstsLifts q_othersLifts q_seed q_found q_foundLifts q_mostLifts q_sumOfLifts q_sumOfMissers n_room n_order n_weights n_black n_lifts n_begins n_ends n_has n_lifted n_allLifts n_doneAt y_going y_coming y_holds y_latest r_guests r_kinds r_figures r_minutes r_settings r_hooks r_letters r_letterCount fuel _ hc_1) ⟨hx, hb, hml, hown, hts⟩ (zcwV hts zm_660 zm_661 zm_662 zm_658 zm_659 rfl rfl zdv_X8_fewestHeaps ⟨Nat.le_of_ble_eq_true rfl, Nat.le_of_ble_eq_true rfl⟩) hA hK hZ hP hD hS [0, 1, 2, 3, 4, 5, 6, 7, 8, 9, 10, 11, 12, 13, 14, 15, 16, 17, 18, 19, 20, 21] [] [0, 1, 2, 3, 4, 5, 6, 7, 8, 9, 10, 11, 12, 13, 14, 15, 16, 17, 18, 19, 20, 21] rfl rfl rfl rfl rfl rfl rfl 5 0 rfl rfl rfl hl.1 (Nat.le_of_ble_eq_true rfl) dX8_shownGuest_2 rfl (fun H locs hP hD hS => ?_)
  refine lv_istore_n (lv' := [(3, .int o_1.1), (0, .ref (ad_q 0)), (1, .ref (ad_r 0)), (2, .int p2)]) hx hb dX8_shownGuest_5 rfl hl (by decide) rfl (fun ls hl => ?_)
  refine lv_iconst (v := (-1)) hx hb dX8_shownGuest_6 (by decide) ?_
  refine lv_istore (lv' := [(4, .int (-1)), (3, .int o_1.1), (0, .ref (ad_q 0)), (1, .ref (ad_r 0)), (2, .int p2)]) hx hb dX8_shownGuest_7 hl (by decide) rfl (fun ls hl => ?_)
  refine lv_iconst (v := 0) hx hb dX8_shownGuest_9 (by decide) ?_
  refine lv_istore (lv' := [(5, .int 0), (4, .int (-1)), (3, .int o_1.1), (0, .ref (ad_q 0)), (1, .ref (ad_r 0)), (2, .int p2)]) hx hb dX8_shownGuest_10 hl (by decide) rfl (fun ls hl => ?_)
  refine lv_iconst (v := 0) hx hb dX8_shownGuest_12 (by decide) ?_
  refine lv_istore (lv' := [(6, .int 0), (5, .int 0), (4, .int (-1)), (3, .int o_1.1), (0, .ref (ad_q 0)), (1, .ref (ad_r 0)), (2, .int p2)]) hx hb dX8_shownGuest_13 hl (by decide) rfl (fun ls hl => ?_)
  exact l15 fuel o_1.1 (-1) 0 0 o_1.2.1 o_1.2.2.1 o_1.2.2.2.1 o_1.2.2.2.2.1 o_1.2.2.2.2.2.1 o_1.2.2.2.2.2.2 _ _ hF hP hD hS ls (lv_sub hl [4, 5, 6, 3, 2, 1, 0] rfl)
theorem zdv_X3_layAs : yX3_layAs.cls = RX3 ∧ yX3_layAs.cls ≠ "java/lang/invoke/MethodHandle" ∧ yX3_layAs.cls ≠ "java/lang/invoke/VarHandle" ∧ (parseMethodDescriptor yX3_layAs.desc).map (fun d => d.parameters.length) = some 1 := by decide +kernel
theorem zds_X4_asDigits : yX4_asDigits.cls ≠ "java/lang/invoke/MethodHandle" ∧ yX4_asDigits.cls ≠ "java/lang/invoke/VarHandle" ∧ (parseMethodDescriptor yX4_asDigits.desc).map (fun d => d.parameters.length) = some 2 := by decide +kernel
theorem zdv_X8_findIfFewer : yX8_findIfFewer.cls = RX8 ∧ yX8_findIfFewer.cls ≠ "java/lang/invoke/MethodHandle" ∧ yX8_findIfFewer.cls ≠ "java/lang/invoke/VarHandle" ∧ (parseMethodDescriptor yX8_findIfFewer.desc).map (fun d => d.parameters.length) = some 2 := by decide +kernel
abbrev roX8_tryLaying : Room := { frames := 5, cells := 0, slots := 0, locals := 115 }
set_option maxHeartbeats 4000000 in
set_option maxRecDepth 100000 in
theorem kX8_tryLaying (l : Launch) (D : va_G) (ca : Nat → ClassId) (t : Nat → Nat) (ad_q : Nat → Nat) (ad_t : Nat → Nat) (ad_n : Nat → Nat) (ad_y : Nat → Nat) (ad_b : Nat → Nat) (ad_r : Nat → Nat) (q_row : Nat → Int32) (q_firstsLifts : Nat → Int32) (q_othersLifts : Nat → Int32) (q_seed : Int32) (q_found : Int32) (q_foundLifts : Int32) (q_mostLifts : Int32) (q_sumOfLifts : Int32) (q_sumOfMissers : Int32) (n_order : Nat → Int32) (n_weights : Nat → Int32) (n_black : Nat → Int32) (n_lifts : Nat → Int32) (n_begins : Nat → Int32) (n_ends : Nat → Int32) (n_has : Nat → Int32) (n_lifted : Nat → Int32) (n_allLifts : Int32) (n_doneAt : Int32) (y_going : Nat → Int32) (y_coming : Nat → Int32) (y_holds : Int32) (y_latest : Int32) (b_heaps : Int32) (b_piles : Nat → Nat → Int32) (b_heights : Nat → Int32) (b_spots : Nat → Int32) (r_guests : Int32) (r_kinds : Nat → Int32) (r_figures : Nat → Int32) (r_minutes : Nat → Int32) (r_settings : Nat → Int32) (r_hooks : Int32) (r_letters : Nat → Int32) (r_letterCount : Int32) (fuel : Nat) (o : Int32 × Int32 × (Nat → Int32) × (Nat → Int32) × (Nat → Int32) × (Nat → Int32) × (Nat → Int32) × Int32 × Int32 × Int32 × (Nat → Nat → Int32) × (Nat → Int32) × (Nat → Int32)) (hF : fX8_tryLaying fuel q_row q_found q_foundLifts n_order n_weights n_black n_lifts n_begins n_ends n_has n_lifted n_allLifts n_doneAt y_going b_heaps b_piles b_heights b_spots r_guests r_settings = some o) : zMv l D (zT ca) t yX8_tryLaying (.code yX8_tryLaying cX8_tryLaying 3 none :: zW) roX8_tryLaying [.ref (ad_q 0), .ref (ad_r 0)] (wX8_qnybr ca ad_q ad_t ad_n ad_y ad_b ad_r q_row q_firstsLifts q_othersLifts q_seed q_found q_foundLifts q_mostLifts q_sumOfLifts q_sumOfMissers (ad_r 0) n_order n_weights n_black n_lifts n_begins n_ends n_has n_lifted n_allLifts n_doneAt y_going y_coming y_holds y_latest b_heaps b_piles b_heights b_spots r_guests r_kinds r_figures r_minutes r_settings r_hooks r_letters r_letterCount) (wX8_qnybr ca ad_q ad_t ad_n ad_y ad_b ad_r q_row q_firstsLifts q_othersLifts q_seed o.1 o.2.1 q_mostLifts q_sumOfLifts q_sumOfMissers (ad_r 0) n_order n_weights n_black o.2.2.1 o.2.2.2.1 o.2.2.2.2.1 o.2.2.2.2.2.1 o.2.2.2.2.2.2.1 o.2.2.2.2.2.2.2.1 o.2.2.2.2.2.2.2.2.1 y_going y_coming y_holds y_latest o.2.2.2.2.2.2.2.2.2.1 o.2.2.2.2.2.2.2.2.2.2.1 o.2.2.2.2.2.2.2.2.2.2.2.1 o.2.2.2.2.2.2.2.2.2.2.2.2 r_guests r_kinds r_figures r_minutes r_settings r_hooks r_letters r_letterCount) := by
  refine zMv_of (cc := cX8_tryLaying) (maxL := 3) (by decide) rfl (Nat.le_of_ble_eq_true rfl) ?_
  intro p e s m args below meth c A Q ls ⟨hx, hb, hml, hown, hts, hA, hK, hZ, hS⟩ hret hP hD hl
  have hts := fun w h => hts w (List.mem_cons_of_mem _ h)
  have hown : s.vm.findClass RX8 = some m.cls := hown
  have hl : lv_has ls 3 [(0, .ref (ad_q 0)), (1, .ref (ad_r 0))] := hl
  have hin0 := zin_X0
  have hin3 := zin_X3
  have hin5 := zin_X5
  have hin8 := zin_X8
  have j46 : ∀ (q_found : Int32) (q_foundLifts : Int32) (n_lifts : Nat → Int32) (n_begins : Nat → Int32) (n_ends : Nat → Int32) (n_has : Nat → Int32) (n_lifted : Nat → Int32) (n_allLifts : Int32) (n_doneAt : Int32) (b_heaps : Int32) (b_piles : Nat → Nat → Int32) (b_heights : Nat → Int32) (b_spots : Nat → Int32) (H : Heap) (locs : List Loc), fX8_tryLaying_J46 fuel q_row n_order n_weights n_black y_going r_guests r_settings q_found q_foundLifts n_lifts n_begins n_ends n_has n_lifted n_allLifts n_doneAt b_heaps b_piles b_heights b_spots = some o → va_P D vwCl (wX8_qnybr ca ad_q ad_t ad_n ad_y ad_b ad_r q_row q_firstsLifts q_othersLifts q_seed q_found q_foundLifts q_mostLifts q_sumOfLifts q_sumOfMissers (ad_r 0) n_order n_weights n_black n_lifts n_begins n_ends n_has n_lifted n_allLifts n_doneAt y_going y_coming y_holds y_latest b_heaps b_piles b_heights b_spots r_guests r_kinds r_figures r_minutes r_settings r_hooks r_letters r_letterCount) H → va_D A (wX8_qnybr ca ad_q ad_t ad_n ad_y ad_b ad_r q_row q_firstsLifts q_othersLifts q_seed q_found q_foundLifts q_mostLifts q_sumOfLifts q_sumOfMissers (ad_r 0) n_order n_weights n_black n_lifts n_begins n_ends n_has n_lifted n_allLifts n_doneAt y_going y_coming y_holds y_latest b_heaps b_piles b_heights b_spots r_guests r_kinds r_figures r_minutes r_settings r_hooks r_letters r_letterCount) → va_S A s.heap H locs → ∀ ls : Array Slot, lv_has ls 3 [(0, .ref (ad_q 0)), (1, .ref (ad_r 0))] → W p l e roX8_tryLaying s m args below meth c H locs 0 0 Q (F0 m 46 ls []) := by
    intro q_found q_foundLifts n_lifts n_begins n_ends n_has n_lifted n_allLifts n_doneAt b_heaps b_piles b_heights b_spots H locs hF hP hD hS ls hl
    unfold fX8_tryLaying_J46 at hF
    refine lv_aload_n hx hb dX8_tryLaying_46 rfl (lv_at hl 0 rfl) ?_
    refine va_get (D := D) (ci := 5) (v := .ref (ad_n 0)) (C := RX8) (T := TX8) (N := 11) hx hb hts hin8 hown hK hP 0 rfl rfl 1 (by decide) (hts _ zm_428) (fun _ h9 => h9) rfl dX8_tryLaying_47 ?_
    refine lv_aload_n hx hb dX8_tryLaying_50 rfl (lv_at hl 1 rfl) ?_
    refine va_get (D := D) (ci := 3) (v := .int r_guests) (C := RX5) (T := TX5) (N := 8) hx hb hts hin5 hown hK hP 23 rfl rfl 0 (by decide) (hts _ zm_425) (fun _ h9 => h9) rfl dX8_tryLaying_51 ?_
    refine lv_bipush (v := (-4)) hx hb dX8_tryLaying_54 (by decide) ?_
    obtain ⟨o_6, hc_6, hF⟩ := zb hF
    refine zcVi (rest := []) (ws' := (wX8_qnybr ca ad_q ad_t ad_n ad_y ad_b ad_r q_row q_firstsLifts q_othersLifts q_seed q_found q_foundLifts q_mostLifts q_sumOfLifts q_sumOfMissers (ad_r 0) n_order n_weights n_black o_6.2.1 o_6.2.2.1 o_6.2.2.2.1 o_6.2.2.2.2.1 o_6.2.2.2.2.2.1 o_6.2.2.2.2.2.2.1 o_6.2.2.2.2.2.2.2.1 y_going y_coming y_holds y_latest b_heaps o_6.2.2.2.2.2.2.2.2.1 o_6.2.2.2.2.2.2.2.2.2.1 o_6.2.2.2.2.2.2.2.2.2.2 r_guests r_kinds r_figures r_minutes r_settings r_hooks r_letters r_letterCount)) (kX3_letGo l D ca t ad_n ad_y ad_b ad_r n_order n_weights n_black n_lifts n_begins n_ends n_has n_lifted n_allLifts n_doneAt y_going y_coming y_holds y_latest b_heaps b_piles b_heights b_spots r_guests r_kinds r_figures r_minutes r_settings r_hooks r_letters r_letterCount r_guests (-4) fuel _ hc_6) ⟨hx, hb, hml, hown, hts⟩ (zcwV hts zm_702 zm_703 zm_704 zm_568 zm_701 rfl rfl zdv_X3_letGo ⟨Nat.le_of_ble_eq_true rfl, Nat.le_of_ble_eq_true rfl⟩) hA hK hZ hP hD hS [4, 5, 6, 7, 8, 9, 10, 11, 12, 13, 14, 15, 16, 17, 18, 19, 20, 21, 22, 23, 24, 25, 26, 27, 28] [0, 1, 2, 3] [0, 1, 2, 3, 4, 5, 6, 7, 8, 9, 10, 11, 12, 13, 14, 15, 16, 17, 18, 19, 20, 21, 22, 23, 24, 25, 26, 27, 28] rfl rfl rfl rfl rfl rfl rfl 2 4 rfl rfl rfl hl.1 (Nat.le_of_ble_eq_true rfl) dX8_tryLaying_56 rfl (fun H locs hP hD hS => ?_)
    refine lv_istore_n (lv' := [(2, .int o_6.1), (0, .ref (ad_q 0)), (1, .ref (ad_r 0))]) hx hb dX8_tryLaying_59 rfl hl (by decide) rfl (fun ls hl => ?_)
    refine lv_aload_n hx hb dX8_tryLaying_60 rfl (lv_at hl 1 rfl) ?_
    refine lv_aload_n hx hb dX8_tryLaying_61 rfl (lv_at hl 1 rfl) ?_
    refine va_get (D := D) (ci := 5) (v := .ref (ad_q 1)) (C := RX8) (T := TX8) (N := 11) hx hb hts hin8 hown hK hP 0 rfl rfl 2 (by decide) (hts _ zm_426) (fun _ h9 => h9) rfl dX8_tryLaying_62 ?_
    refine lv_aload_n hx hb dX8_tryLaying_65 rfl (lv_at hl 2 rfl) ?_
    refine va_get (D := D) (ci := 3) (v := .int r_guests) (C := RX5) (T := TX5) (N := 8) hx hb hts hin5 hown hK hP 23 rfl rfl 0 (by decide) (hts _ zm_425) (fun _ h9 => h9) rfl dX8_tryLaying_66 ?_
    obtain ⟨o_7, hc_7, hF⟩ := zb hF
    refine zcSR (rest := [.ref (ad_q 0)]) (kX4_asDigits l D ca t (ad_q 1) q_row r_guests fuel _ hc_7) ⟨hx, hb, hml, hown, hts⟩ (zcwS hts zm_707 zm_706 zm_586 zm_705 rfl rfl zds_X4_asDigits ⟨Nat.le_of_ble_eq_true rfl, Nat.le_of_ble_eq_true rfl⟩) hA hK hZ hP hD hS [1] rfl rfl rfl hl.1 (Nat.le_of_ble_eq_true rfl) dX8_tryLaying_69 rfl ?_
    refine lv_iload_n hx hb dX8_tryLaying_72 rfl (lv_at hl 0 rfl) ?_
    obtain ⟨o_8, hc_8, hF⟩ := zb hF
    refine zcVv (rest := []) (ws' := (wX8_qnybr ca ad_q ad_t ad_n ad_y ad_b ad_r q_row q_firstsLifts q_othersLifts q_seed o_8.1 o_8.2 q_mostLifts q_sumOfLifts q_sumOfMissers (ad_r 0) n_order n_weights n_black o_6.2.1 o_6.2.2.1 o_6.2.2.2.1 o_6.2.2.2.2.1 o_6.2.2.2.2.2.1 o_6.2.2.2.2.2.2.1 o_6.2.2.2.2.2.2.2.1 y_going y_coming y_holds y_latest b_heaps o_6.2.2.2.2.2.2.2.2.1 o_6.2.2.2.2.2.2.2.2.2.1 o_6.2.2.2.2.2.2.2.2.2.2 r_guests r_kinds r_figures r_minutes r_settings r_hooks r_letters r_letterCount)) (kX8_findIfFewer l D ca t ad_q ad_t ad_n q_row q_firstsLifts q_othersLifts q_seed q_found q_foundLifts q_mostLifts q_sumOfLifts q_sumOfMissers o_7 o_6.1 fuel _ hc_8) ⟨hx, hb, hml, hown, hts⟩ (zcwV hts zm_709 zm_710 zm_711 zm_658 zm_708 rfl rfl zdv_X8_findIfFewer ⟨Nat.le_of_ble_eq_true rfl, Nat.le_of_ble_eq_true rfl⟩) hA hK hZ hP hD hS [0, 1, 2, 3] [4, 5, 6, 7, 8, 9, 10, 11, 12, 13, 14, 15, 16, 17, 18, 19, 20, 21, 22, 23, 24, 25, 26, 27, 28] [25, 26, 27, 28, 0, 1, 2, 3, 4, 5, 6, 7, 8, 9, 10, 11, 12, 13, 14, 15, 16, 17, 18, 19, 20, 21, 22, 23, 24] rfl rfl rfl rfl rfl rfl rfl 5 0 rfl rfl rfl hl.1 (Nat.le_of_ble_eq_true rfl) dX8_tryLaying_73 rfl (fun H locs hP hD hS => ?_)
    obtain rfl := Option.some.inj hF
    exact hret _ _ _ _ hP hD hS dX8_tryLaying_76
  have l13 : ∀ (n13 : Nat) (v2 : Int32) (q_found : Int32) (q_foundLifts : Int32) (n_lifts : Nat → Int32) (n_begins : Nat → Int32) (n_ends : Nat → Int32) (n_has : Nat → Int32) (n_lifted : Nat → Int32) (n_allLifts : Int32) (n_doneAt : Int32) (b_heaps : Int32) (b_piles : Nat → Nat → Int32) (b_heights : Nat → Int32) (b_spots : Nat → Int32) (H : Heap) (locs : List Loc), fX8_tryLaying_L13 fuel q_row n_order n_weights n_black y_going r_guests r_settings n13 v2 q_found q_foundLifts n_lifts n_begins n_ends n_has n_lifted n_allLifts n_doneAt b_heaps b_piles b_heights b_spots = some o → va_P D vwCl (wX8_qnybr ca ad_q ad_t ad_n ad_y ad_b ad_r q_row q_firstsLifts q_othersLifts q_seed q_found q_foundLifts q_mostLifts q_sumOfLifts q_sumOfMissers (ad_r 0) n_order n_weights n_black n_lifts n_begins n_ends n_has n_lifted n_allLifts n_doneAt y_going y_coming y_holds y_latest b_heaps b_piles b_heights b_spots r_guests r_kinds r_figures r_minutes r_settings r_hooks r_letters r_letterCount) H → va_D A (wX8_qnybr ca ad_q ad_t ad_n ad_y ad_b ad_r q_row q_firstsLifts q_othersLifts q_seed q_found q_foundLifts q_mostLifts q_sumOfLifts q_sumOfMissers (ad_r 0) n_order n_weights n_black n_lifts n_begins n_ends n_has n_lifted n_allLifts n_doneAt y_going y_coming y_holds y_latest b_heaps b_piles b_heights b_spots r_guests r_kinds r_figures r_minutes r_settings r_hooks r_letters r_letterCount) → va_S A s.heap H locs → ∀ ls : Array Slot, lv_has ls 3 [(0, .ref (ad_q 0)), (1, .ref (ad_r 0)), (2, .int v2)] → W p l e roX8_tryLaying s m args below meth c H locs 0 0 Q (F0 m 13 ls []) := by
    intro n13
    induction n13 with
    | zero =>
      intro v2 q_found q_foundLifts n_lifts n_begins n_ends n_has n_lifted n_allLifts n_doneAt b_heaps b_piles b_heights b_spots H locs hF
      rw [fX8_tryLaying_L13] at hF
      cases hF
    | succ n13 ih13 =>
      intro v2 q_found q_foundLifts n_lifts n_begins n_ends n_has n_lifted n_allLifts n_doneAt b_heaps b_piles b_heights b_spots H locs hF hP hD hS ls hl
      rw [fX8_tryLaying_L13] at hF
      refine lv_iload_n hx hb dX8_tryLaying_13 rfl (lv_at hl 2 rfl) ?_
      refine lv_iconst (v := 3) hx hb dX8_tryLaying_14 (by decide) ?_
      refine lv_icmp_ge (tgt := 46) hx hb dX8_tryLaying_15 (by decide) (fun c_2 => ?_) (fun c_2 => ?_)
      · have hF := zt c_2 hF
        exact j46 q_found q_foundLifts n_lifts n_begins n_ends n_has n_lifted n_allLifts n_doneAt b_heaps b_piles b_heights b_spots _ _ hF hP hD hS ls (lv_sub hl [0, 1] rfl)
      · have hF := zf c_2 hF
        refine lv_aload_n hx hb dX8_tryLaying_18 rfl (lv_at hl 0 rfl) ?_
        refine va_get (D := D) (ci := 5) (v := .ref (ad_n 0)) (C := RX8) (T := TX8) (N := 11) hx hb hts hin8 hown hK hP 0 rfl rfl 1 (by decide) (hts _ zm_428) (fun _ h9 => h9) rfl dX8_tryLaying_19 ?_
        refine va_get (D := D) (ci := 2) (v := .ref (ad_b 0)) (C := RX3) (T := TX3) (N := 15) hx hb hts hin3 hown hK hP 4 rfl rfl 2 (by decide) (hts _ zm_433) (fun _ h9 => h9) rfl dX8_tryLaying_22 ?_
        refine va_get (D := D) (ci := 0) (v := .ref (ad_b 5)) (C := RX0) (T := TX0) (N := 4) hx hb hts hin0 hown hK hP 16 rfl rfl 2 (by decide) (hts _ zm_434) (fun _ h9 => h9) rfl dX8_tryLaying_25 ?_
        refine lv_iload_n hx hb dX8_tryLaying_28 rfl (lv_at hl 2 rfl) ?_
        obtain ⟨h_3, hF⟩ := zgi hF
        refine va_iald hx hb hK hP 21 0 rfl rfl h_3 dX8_tryLaying_29 ?_
        refine lv_aload_n hx hb dX8_tryLaying_30 rfl (lv_at hl 1 rfl) ?_
        refine va_get (D := D) (ci := 3) (v := .ref (ad_r 4)) (C := RX5) (T := TX5) (N := 8) hx hb hts hin5 hown hK hP 23 rfl rfl 4 (by decide) (hts _ zm_427) (fun _ h9 => h9) rfl dX8_tryLaying_31 ?_
        refine lv_iconst (v := 1) hx hb dX8_tryLaying_34 (by decide) ?_
        refine z_ialdK 1 hx hb hK hP 27 0 rfl rfl (zin_ok (by decide)) (by decide) dX8_tryLaying_35 ?_
        refine lv_icmp_le (tgt := 40) hx hb dX8_tryLaying_36 (by decide) (fun c_4 => ?_) (fun c_4 => ?_)
        · have hF := zt c_4 hF
          refine z_iinc (kv := 1) hx hb 2 dX8_tryLaying_40 hl rfl (by decide) (by decide) (fun g => [(2, .int g), (0, .ref (ad_q 0)), (1, .ref (ad_r 0))]) (fun _ => rfl) hF (fun v2_5 ls hF hl => ?_)
          refine lv_goto (tgt := 13) hx hb dX8_tryLaying_43 (by decide) ?_
          exact ih13 v2_5 q_found q_foundLifts n_lifts n_begins n_ends n_has n_lifted n_allLifts n_doneAt b_heaps b_piles b_heights b_spots _ _ hF hP hD hS ls (lv_sub hl [1, 2, 0] rfl)
        · have hF := zf c_4 hF
          obtain rfl := Option.some.inj hF
          exact hret _ _ _ _ hP hD hS dX8_tryLaying_39
  unfold fX8_tryLaying at hF
  refine lv_aload_n hx hb dX8_tryLaying_0 rfl (lv_at hl 0 rfl) ?_
  refine va_get (D := D) (ci := 5) (v := .ref (ad_n 0)) (C := RX8) (T := TX8) (N := 11) hx hb hts hin8 hown hK hP 0 rfl rfl 1 (by decide) (hts _ zm_428) (fun _ h9 => h9) rfl dX8_tryLaying_1 ?_
  refine lv_aload_n hx hb dX8_tryLaying_4 rfl (lv_at hl 0 rfl) ?_
  refine va_get (D := D) (ci := 5) (v := .ref (ad_q 1)) (C := RX8) (T := TX8) (N := 11) hx hb hts hin8 hown hK hP 0 rfl rfl 2 (by decide) (hts _ zm_426) (fun _ h9 => h9) rfl dX8_tryLaying_5 ?_
  obtain ⟨o_1, hc_1, hF⟩ := zb hF
  refine zcVv (rest := []) (ws' := (wX8_qnybr ca ad_q ad_t ad_n ad_y ad_b ad_r q_row q_firstsLifts q_othersLifts q_seed q_found q_foundLifts q_mostLifts q_sumOfLifts q_sumOfMissers (ad_r 0) n_order n_weights n_black n_lifts n_begins n_ends n_has n_lifted n_allLifts n_doneAt y_going y_coming y_holds y_latest o_1.1 o_1.2.1 o_1.2.2.1 o_1.2.2.2 r_guests r_kinds r_figures r_minutes r_settings r_hooks r_letters r_letterCount)) (kX3_layAs l D ca t ad_n ad_y ad_b (ad_q 1) ad_r n_order n_weights n_black n_lifts n_begins n_ends n_has n_lifted n_allLifts n_doneAt b_heaps b_piles b_heights b_spots q_row r_guests r_kinds r_figures r_minutes r_settings r_hooks r_letters r_letterCount fuel _ hc_1) ⟨hx, hb, hml, hown, hts⟩ (zcwV hts zm_698 zm_699 zm_700 zm_568 zm_697 rfl rfl zdv_X3_layAs ⟨Nat.le_of_ble_eq_true rfl, Nat.le_of_ble_eq_true rfl⟩) hA hK hZ hP hD hS [4, 5, 6, 7, 8, 9, 10, 11, 12, 16, 17, 18, 19, 20, 21, 22, 1, 23, 24, 25, 26, 27, 28] [0, 2, 3, 13, 14, 15] [0, 22, 1, 2, 6, 7, 8, 9, 10, 11, 12, 13, 14, 3, 4, 5, 15, 16, 17, 18, 19, 20, 21, 23, 24, 25, 26, 27, 28] rfl rfl rfl rfl rfl rfl rfl 2 4 rfl rfl rfl hl.1 (Nat.le_of_ble_eq_true rfl) dX8_tryLaying_8 rfl (fun H locs hP hD hS => ?_)
  refine lv_iconst (v := 0) hx hb dX8_tryLaying_11 (by decide) ?_
  refine lv_istore_n (lv' := [(2, .int 0), (0, .ref (ad_q 0)), (1, .ref (ad_r 0))]) hx hb dX8_tryLaying_12 rfl hl (by decide) rfl (fun ls hl => ?_)
  exact l13 fuel 0 q_found q_foundLifts n_lifts n_begins n_ends n_has n_lifted n_allLifts n_doneAt o_1.1 o_1.2.1 o_1.2.2.1 o_1.2.2.2 _ _ hF hP hD hS ls (lv_sub hl [1, 2, 0] rfl)
abbrev roX8_liftsInOrder : Room := { frames := 5, cells := 0, slots := 0, locals := 117 }
set_option maxHeartbeats 4000000 in
set_option maxRecDepth 100000 in
theorem kX8_liftsInOrder (l : Launch) (D : va_G) (ca : Nat → ClassId) (t : Nat → Nat) (ad_q : Nat → Nat) (ad_t : Nat → Nat) (ad_n : Nat → Nat) (ad_y : Nat → Nat) (ad_b : Nat → Nat) (ad_r : Nat → Nat) (q_row : Nat → Int32) (q_firstsLifts : Nat → Int32) (q_othersLifts : Nat → Int32) (q_seed : Int32) (q_found : Int32) (q_foundLifts : Int32) (q_mostLifts : Int32) (q_sumOfLifts : Int32) (q_sumOfMissers : Int32) (n_order : Nat → Int32) (n_weights : Nat → Int32) (n_black : Nat → Int32) (n_lifts : Nat → Int32) (n_begins : Nat → Int32) (n_ends : Nat → Int32) (n_has : Nat → Int32) (n_lifted : Nat → Int32) (n_allLifts : Int32) (n_doneAt : Int32) (y_going : Nat → Int32) (y_coming : Nat → Int32) (y_holds : Int32) (y_latest : Int32) (b_heaps : Int32) (b_piles : Nat → Nat → Int32) (b_heights : Nat → Int32) (b_spots : Nat → Int32) (r_guests : Int32) (r_kinds : Nat → Int32) (r_figures : Nat → Int32) (r_minutes : Nat → Int32) (r_settings : Nat → Int32) (r_hooks : Int32) (r_letters : Nat → Int32) (r_letterCount : Int32) (p2 : Int32) (fuel : Nat) (o : Int32 × (Nat → Int32) × (Nat → Int32) × (Nat → Int32) × (Nat → Int32) × (Nat → Int32) × Int32 × Int32 × Int32 × Int32 × Int32 × (Nat → Nat → Int32) × (Nat → Int32) × (Nat → Int32)) (hF : fX8_liftsInOrder fuel n_order n_weights n_black n_lifts n_begins n_ends n_has n_lifted n_allLifts n_doneAt y_going y_coming y_holds y_latest b_heaps b_piles b_heights b_spots r_guests r_settings r_hooks r_letters r_letterCount p2 = some o) : zMi l D (zT ca) t yX8_liftsInOrder (.code yX8_liftsInOrder cX8_liftsInOrder 3 (some .int) :: zW) roX8_liftsInOrder [.ref (ad_q 0), .ref (ad_r 0), .int p2] (wX8_qnybr ca ad_q ad_t ad_n ad_y ad_b ad_r q_row q_firstsLifts q_othersLifts q_seed q_found q_foundLifts q_mostLifts q_sumOfLifts q_sumOfMissers (ad_r 0) n_order n_weights n_black n_lifts n_begins n_ends n_has n_lifted n_allLifts n_doneAt y_going y_coming y_holds y_latest b_heaps b_piles b_heights b_spots r_guests r_kinds r_figures r_minutes r_settings r_hooks r_letters r_letterCount) (wX8_qnybr ca ad_q ad_t ad_n ad_y ad_b ad_r q_row q_firstsLifts q_othersLifts q_seed q_found q_foundLifts q_mostLifts q_sumOfLifts q_sumOfMissers (ad_r 0) n_order n_weights n_black o.2.1 o.2.2.1 o.2.2.2.1 o.2.2.2.2.1 o.2.2.2.2.2.1 o.2.2.2.2.2.2.1 o.2.2.2.2.2.2.2.1 y_going y_coming o.2.2.2.2.2.2.2.2.1 o.2.2.2.2.2.2.2.2.2.1 o.2.2.2.2.2.2.2.2.2.2.1 o.2.2.2.2.2.2.2.2.2.2.2.1 o.2.2.2.2.2.2.2.2.2.2.2.2.1 o.2.2.2.2.2.2.2.2.2.2.2.2.2 r_guests r_kinds r_figures r_minutes r_settings r_hooks r_letters r_letterCount) o.1 := by
  refine zMi_of (cc := cX8_liftsInOrder) (maxL := 3) (by decide) rfl (Nat.le_of_ble_eq_true rfl) ?_
  intro p e s m args below meth c A Q ls ⟨hx, hb, hml, hown, hts, hA, hK, hZ, hS⟩ hret hP hD hl
  have hts := fun w h => hts w (List.mem_cons_of_mem _ h)
  have hown : s.vm.findClass RX8 = some m.cls := hown
  have hl : lv_has ls 3 [(0, .ref (ad_q 0)), (1, .ref (ad_r 0)), (2, .int p2)] := hl
  have hin3 := zin_X3
  have hin5 := zin_X5
  have hin8 := zin_X8
  unfold fX8_liftsInOrder at hF
  refine lv_aload_n hx hb dX8_liftsInOrder_0 rfl (lv_at hl 0 rfl) ?_
  refine va_get (D := D) (ci := 5) (v := .ref (ad_n 0)) (C := RX8) (T := TX8) (N := 11) hx hb hts hin8 hown hK hP 0 rfl rfl 1 (by decide) (hts _ zm_428) (fun _ h9 => h9) rfl dX8_liftsInOrder_1 ?_
  refine va_get (D := D) (ci := 2) (v := .ref (ad_y 0)) (C := RX3) (T := TX3) (N := 15) hx hb hts hin3 hown hK hP 4 rfl rfl 1 (by decide) (hts _ zm_712) (fun _ h9 => h9) rfl dX8_liftsInOrder_4 ?_
  refine lv_aload_n hx hb dX8_liftsInOrder_7 rfl (lv_at hl 1 rfl) ?_
  obtain ⟨o_1, hc_1, hF⟩ := zb hF
  refine zcVv (rest := []) (ws' := (wX8_qnybr ca ad_q ad_t ad_n ad_y ad_b ad_r q_row q_firstsLifts q_othersLifts q_seed q_found q_foundLifts q_mostLifts q_sumOfLifts q_sumOfMissers (ad_r 0) n_order n_weights n_black n_lifts n_begins n_ends n_has n_lifted n_allLifts n_doneAt y_going y_coming o_1.1 o_1.2.1 o_1.2.2.1 o_1.2.2.2.1 o_1.2.2.2.2.1 o_1.2.2.2.2.2 r_guests r_kinds r_figures r_minutes r_settings r_hooks r_letters r_letterCount)) (kX2_layAll l D ca t ad_y ad_b ad_r y_going y_coming y_holds y_latest b_heaps b_piles b_heights b_spots r_guests r_kinds r_figures r_minutes r_settings r_hooks r_letters r_letterCount fuel _ hc_1) ⟨hx, hb, hml, hown, hts⟩ (zcwV hts zm_714 zm_715 zm_716 zm_340 zm_713 rfl rfl zdv_X2_layAll ⟨Nat.le_of_ble_eq_true rfl, Nat.le_of_ble_eq_true rfl⟩) hA hK hZ hP hD hS [13, 14, 15, 16, 17, 18, 19, 20, 21, 22, 23, 24, 25, 26, 27, 28] [0, 1, 2, 3, 4, 5, 6, 7, 8, 9, 10, 11, 12] [0, 1, 2, 3, 4, 5, 6, 7, 8, 9, 10, 11, 12, 13, 14, 15, 16, 17, 18, 19, 20, 21, 22, 23, 24, 25, 26, 27, 28] rfl rfl rfl rfl rfl rfl rfl 1 13 rfl rfl rfl hl.1 (Nat.le_of_ble_eq_true rfl) dX8_liftsInOrder_8 rfl (fun H locs hP hD hS => ?_)
  refine lv_aload_n hx hb dX8_liftsInOrder_11 rfl (lv_at hl 0 rfl) ?_
  refine va_get (D := D) (ci := 5) (v := .ref (ad_n 0)) (C := RX8) (T := TX8) (N := 11) hx hb hts hin8 hown hK hP 0 rfl rfl 1 (by decide) (hts _ zm_428) (fun _ h9 => h9) rfl dX8_liftsInOrder_12 ?_
  refine lv_aload_n hx hb dX8_liftsInOrder_15 rfl (lv_at hl 1 rfl) ?_
  refine va_get (D := D) (ci := 3) (v := .int r_guests) (C := RX5) (T := TX5) (N := 8) hx hb hts hin5 hown hK hP 23 rfl rfl 0 (by decide) (hts _ zm_425) (fun _ h9 => h9) rfl dX8_liftsInOrder_16 ?_
  refine lv_iload_n hx hb dX8_liftsInOrder_19 rfl (lv_at hl 2 rfl) ?_
  obtain ⟨o_2, hc_2, hF⟩ := zb hF
  refine zcVi (rest := []) (ws' := (wX8_qnybr ca ad_q ad_t ad_n ad_y ad_b ad_r q_row q_firstsLifts q_othersLifts q_seed q_found q_foundLifts q_mostLifts q_sumOfLifts q_sumOfMissers (ad_r 0) n_order n_weights n_black o_2.2.1 o_2.2.2.1 o_2.2.2.2.1 o_2.2.2.2.2.1 o_2.2.2.2.2.2.1 o_2.2.2.2.2.2.2.1 o_2.2.2.2.2.2.2.2.1 y_going y_coming o_1.1 o_1.2.1 o_1.2.2.1 o_2.2.2.2.2.2.2.2.2.1 o_2.2.2.2.2.2.2.2.2.2.1 o_2.2.2.2.2.2.2.2.2.2.2 r_guests r_kinds r_figures r_minutes r_settings r_hooks r_letters r_letterCount)) (kX3_letGo l D ca t ad_n ad_y ad_b ad_r n_order n_weights n_black n_lifts n_begins n_ends n_has n_lifted n_allLifts n_doneAt y_going y_coming o_1.1 o_1.2.1 o_1.2.2.1 o_1.2.2.2.1 o_1.2.2.2.2.1 o_1.2.2.2.2.2 r_guests r_kinds r_figures r_minutes r_settings r_hooks r_letters r_letterCount r_guests p2 fuel _ hc_2) ⟨hx, hb, hml, hown, hts⟩ (zcwV hts zm_702 zm_703 zm_704 zm_568 zm_701 rfl rfl zdv_X3_letGo ⟨Nat.le_of_ble_eq_true rfl, Nat.le_of_ble_eq_true rfl⟩) hA hK hZ hP hD hS [4, 5, 6, 7, 8, 9, 10, 11, 12, 13, 14, 15, 16, 17, 18, 19, 20, 21, 22, 23, 24, 25, 26, 27, 28] [0, 1, 2, 3] [0, 1, 2, 3, 4, 5, 6, 7, 8, 9, 10, 11, 12, 13, 14, 15, 16, 17, 18, 19, 20, 21, 22, 23, 24, 25, 26, 27, 28] rfl rfl rfl rfl rfl rfl rfl 2 4 rfl rfl rfl hl.1 (Nat.le_of_ble_eq_true rfl) dX8_liftsInOrder_20 rfl (fun H locs hP hD hS => ?_)
  obtain rfl := Option.some.inj hF
  exact hret _ _ _ _ hP hD hS rfl dX8_liftsInOrder_23
theorem zdv_X3_firstFromMinute : yX3_firstFromMinute.cls = RX3 ∧ yX3_firstFromMinute.cls ≠ "java/lang/invoke/MethodHandle" ∧ yX3_firstFromMinute.cls ≠ "java/lang/invoke/VarHandle" ∧ (parseMethodDescriptor yX3_firstFromMinute.desc).map (fun d => d.parameters.length) = some 1 := by decide +kernel
theorem zdv_X8_findNothing : yX8_findNothing.cls = RX8 ∧ yX8_findNothing.cls ≠ "java/lang/invoke/MethodHandle" ∧ yX8_findNothing.cls ≠ "java/lang/invoke/VarHandle" ∧ (parseMethodDescriptor yX8_findNothing.desc).map (fun d => d.parameters.length) = some 0 := by decide +kernel
theorem zdv_X8_liftsInOrder : yX8_liftsInOrder.cls = RX8 ∧ yX8_liftsInOrder.cls ≠ "java/lang/invoke/MethodHandle" ∧ yX8_liftsInOrder.cls ≠ "java/lang/invoke/VarHandle" ∧ (parseMethodDescriptor yX8_liftsInOrder.desc).map (fun d => d.parameters.length) = some 2 := by decide +kernel
abbrev roX8_bestMinuteToTurn : Room := { frames := 6, cells := 0, slots := 0, locals := 139 }
set_option maxHeartbeats 4000000 in
set_option maxRecDepth 100000 in
theorem kX8_bestMinuteToTurn (l : Launch) (D : va_G) (ca : Nat → ClassId) (t : Nat → Nat) (ad_q : Nat → Nat) (ad_t : Nat → Nat) (ad_n : Nat → Nat) (ad_y : Nat → Nat) (ad_b : Nat → Nat) (ad_r : Nat → Nat) (q_row : Nat → Int32) (q_firstsLifts : Nat → Int32) (q_othersLifts : Nat → Int32) (q_seed : Int32) (q_found : Int32) (q_foundLifts : Int32) (q_mostLifts : Int32) (q_sumOfLifts : Int32) (q_sumOfMissers : Int32) (n_room : Nat) (n_order : Nat → Int32) (n_weights : Nat → Int32) (n_black : Nat → Int32) (n_lifts : Nat → Int32) (n_begins : Nat → Int32) (n_ends : Nat → Int32) (n_has : Nat → Int32) (n_lifted : Nat → Int32) (n_allLifts : Int32) (n_doneAt : Int32) (y_going : Nat → Int32) (y_coming : Nat → Int32) (y_holds : Int32) (y_latest : Int32) (b_heaps : Int32) (b_piles : Nat → Nat → Int32) (b_heights : Nat → Int32) (b_spots : Nat → Int32) (r_guests : Int32) (r_kinds : Nat → Int32) (r_figures : Nat → Int32) (r_minutes : Nat → Int32) (r_settings : Nat → Int32) (r_hooks : Int32) (r_letters : Nat → Int32) (r_letterCount : Int32) (fuel : Nat) (o : Int32 × Int32 × Int32 × (Nat → Int32) × (Nat → Int32) × (Nat → Int32) × (Nat → Int32) × (Nat → Int32) × (Nat → Int32) × (Nat → Int32) × (Nat → Int32) × Int32 × Int32 × (Nat → Int32) × (Nat → Int32) × Int32 × Int32 × Int32 × (Nat → Nat → Int32) × (Nat → Int32) × (Nat → Int32)) (hF : fX8_bestMinuteToTurn fuel q_found q_foundLifts n_order n_weights n_black n_lifts n_begins n_ends n_has n_lifted n_allLifts n_doneAt y_going y_coming y_holds y_latest b_heaps b_piles b_heights b_spots r_guests r_kinds r_figures r_minutes r_settings r_hooks r_letters r_letterCount = some o) : zMi l D (zT ca) t yX8_bestMinuteToTurn (.code yX8_bestMinuteToTurn cX8_bestMinuteToTurn 5 (some .int) :: zW) roX8_bestMinuteToTurn [.ref (ad_q 0), .ref (ad_r 0)] (wX8_qnybr ca ad_q ad_t ad_n ad_y ad_b ad_r q_row q_firstsLifts q_othersLifts q_seed q_found q_foundLifts q_mostLifts q_sumOfLifts q_sumOfMissers n_room n_order n_weights n_black n_lifts n_begins n_ends n_has n_lifted n_allLifts n_doneAt y_going y_coming y_holds y_latest b_heaps b_piles b_heights b_spots r_guests r_kinds r_figures r_minutes r_settings r_hooks r_letters r_letterCount) (wX8_qnybr ca ad_q ad_t ad_n ad_y ad_b ad_r q_row q_firstsLifts q_othersLifts q_seed o.2.1 o.2.2.1 q_mostLifts q_sumOfLifts q_sumOfMissers (ad_r 0) o.2.2.2.1 o.2.2.2.2.1 o.2.2.2.2.2.1 o.2.2.2.2.2.2.1 o.2.2.2.2.2.2.2.1 o.2.2.2.2.2.2.2.2.1 o.2.2.2.2.2.2.2.2.2.1 o.2.2.2.2.2.2.2.2.2.2.1 o.2.2.2.2.2.2.2.2.2.2.2.1 o.2.2.2.2.2.2.2.2.2.2.2.2.1 o.2.2.2.2.2.2.2.2.2.2.2.2.2.1 o.2.2.2.2.2.2.2.2.2.2.2.2.2.2.1 o.2.2.2.2.2.2.2.2.2.2.2.2.2.2.2.1 o.2.2.2.2.2.2.2.2.2.2.2.2.2.2.2.2.1 o.2.2.2.2.2.2.2.2.2.2.2.2.2.2.2.2.2.1 o.2.2.2.2.2.2.2.2.2.2.2.2.2.2.2.2.2.2.1 o.2.2.2.2.2.2.2.2.2.2.2.2.2.2.2.2.2.2.2.1 o.2.2.2.2.2.2.2.2.2.2.2.2.2.2.2.2.2.2.2.2 r_guests r_kinds r_figures r_minutes r_settings r_hooks r_letters r_letterCount) o.1 := by
  refine zMi_of (cc := cX8_bestMinuteToTurn) (maxL := 5) (by decide) rfl (Nat.le_of_ble_eq_true rfl) ?_
  intro p e s m args below meth c A Q ls ⟨hx, hb, hml, hown, hts, hA, hK, hZ, hS⟩ hret hP hD hl
  have hts := fun w h => hts w (List.mem_cons_of_mem _ h)
  have hown : s.vm.findClass RX8 = some m.cls := hown
  have hl : lv_has ls 5 [(0, .ref (ad_q 0)), (1, .ref (ad_r 0))] := hl
  have hin8 := zin_X8
  have l28 : ∀ (n28 : Nat) (v2 : Int32) (v3 : Int32) (q_found : Int32) (q_foundLifts : Int32) (n_order : Nat → Int32) (n_weights : Nat → Int32) (n_black : Nat → Int32) (n_lifts : Nat → Int32) (n_begins : Nat → Int32) (n_ends : Nat → Int32) (n_has : Nat → Int32) (n_lifted : Nat → Int32) (n_allLifts : Int32) (n_doneAt : Int32) (y_going : Nat → Int32) (y_coming : Nat → Int32) (y_holds : Int32) (y_latest : Int32) (b_heaps : Int32) (b_piles : Nat → Nat → Int32) (b_heights : Nat → Int32) (b_spots : Nat → Int32) (H : Heap) (locs : List Loc), fX8_bestMinuteToTurn_L28 fuel r_guests r_settings r_hooks r_letters r_letterCount n28 v2 v3 q_found q_foundLifts n_order n_weights n_black n_lifts n_begins n_ends n_has n_lifted n_allLifts n_doneAt y_going y_coming y_holds y_latest b_heaps b_piles b_heights b_spots = some o → va_P D vwCl (wX8_qnybr ca ad_q ad_t ad_n ad_y ad_b ad_r q_row q_firstsLifts q_othersLifts q_seed q_found q_foundLifts q_mostLifts q_sumOfLifts q_sumOfMissers (ad_r 0) n_order n_weights n_black n_lifts n_begins n_ends n_has n_lifted n_allLifts n_doneAt y_going y_coming y_holds y_latest b_heaps b_piles b_heights b_spots r_guests r_kinds r_figures r_minutes r_settings r_hooks r_letters r_letterCount) H → va_D A (wX8_qnybr ca ad_q ad_t ad_n ad_y ad_b ad_r q_row q_firstsLifts q_othersLifts q_seed q_found q_foundLifts q_mostLifts q_sumOfLifts q_sumOfMissers (ad_r 0) n_order n_weights n_black n_lifts n_begins n_ends n_has n_lifted n_allLifts n_doneAt y_going y_coming y_holds y_latest b_heaps b_piles b_heights b_spots r_guests r_kinds r_figures r_minutes r_settings r_hooks r_letters r_letterCount) → va_S A s.heap H locs → ∀ ls : Array Slot, lv_has ls 5 [(0, .ref (ad_q 0)), (1, .ref (ad_r 0)), (2, .int v2), (3, .int v3)] → W p l e roX8_bestMinuteToTurn s m args below meth c H locs 0 0 Q (F0 m 28 ls []) := by
    intro n28
    induction n28 with
    | zero =>
      intro v2 v3 q_found q_foundLifts n_order n_weights n_black n_lifts n_begins n_ends n_has n_lifted n_allLifts n_doneAt y_going y_coming y_holds y_latest b_heaps b_piles b_heights b_spots H locs hF
      rw [fX8_bestMinuteToTurn_L28] at hF
      cases hF
    | succ n28 ih28 =>
      have j69 : ∀ (v3 : Int32) (v4 : Int32) (q_found : Int32) (q_foundLifts : Int32) (n_order : Nat → Int32) (n_weights : Nat → Int32) (n_black : Nat → Int32) (n_lifts : Nat → Int32) (n_begins : Nat → Int32) (n_ends : Nat → Int32) (n_has : Nat → Int32) (n_lifted : Nat → Int32) (n_allLifts : Int32) (n_doneAt : Int32) (y_going : Nat → Int32) (y_coming : Nat → Int32) (y_holds : Int32) (y_latest : Int32) (b_heaps : Int32) (b_piles : Nat → Nat → Int32) (b_heights : Nat → Int32) (b_spots : Nat → Int32) (H : Heap) (locs : List Loc), fX8_bestMinuteToTurn_J69 (fX8_bestMinuteToTurn_L28 fuel r_guests r_settings r_hooks r_letters r_letterCount n28) v3 v4 q_found q_foundLifts n_order n_weights n_black n_lifts n_begins n_ends n_has n_lifted n_allLifts n_doneAt y_going y_coming y_holds y_latest b_heaps b_piles b_heights b_spots = some o → va_P D vwCl (wX8_qnybr ca ad_q ad_t ad_n ad_y ad_b ad_r q_row q_firstsLifts q_othersLifts q_seed q_found q_foundLifts q_mostLifts q_sumOfLifts q_sumOfMissers (ad_r 0) n_order n_weights n_black n_lifts n_begins n_ends n_has n_lifted n_allLifts n_doneAt y_going y_coming y_holds y_latest b_heaps b_piles b_heights b_spots r_guests r_kinds r_figures r_minutes r_settings r_hooks r_letters r_letterCount) H → va_D A (wX8_qnybr ca ad_q ad_t ad_n ad_y ad_b ad_r q_row q_firstsLifts q_othersLifts q_seed q_found q_foundLifts q_mostLifts q_sumOfLifts q_sumOfMissers (ad_r 0) n_order n_weights n_black n_lifts n_begins n_ends n_has n_lifted n_allLifts n_doneAt y_going y_coming y_holds y_latest b_heaps b_piles b_heights b_spots r_guests r_kinds r_figures r_minutes r_settings r_hooks r_letters r_letterCount) → va_S A s.heap H locs → ∀ ls : Array Slot, lv_has ls 5 [(0, .ref (ad_q 0)), (1, .ref (ad_r 0)), (3, .int v3), (4, .int v4)] → W p l e roX8_bestMinuteToTurn s m args below meth c H locs 0 0 Q (F0 m 69 ls []) := by
        intro v3 v4 q_found q_foundLifts n_order n_weights n_black n_lifts n_begins n_ends n_has n_lifted n_allLifts n_doneAt y_going y_coming y_holds y_latest b_heaps b_piles b_heights b_spots H locs hF hP hD hS ls hl
        unfold fX8_bestMinuteToTurn_J69 at hF
        refine lv_iload hx hb dX8_bestMinuteToTurn_69 (lv_at hl 3 rfl) ?_
        refine lv_istore_n (lv' := [(2, .int v4), (0, .ref (ad_q 0)), (1, .ref (ad_r 0)), (3, .int v3), (4, .int v4)]) hx hb dX8_bestMinuteToTurn_71 rfl hl (by decide) rfl (fun ls hl => ?_)
        refine z_iinc (kv := 1) hx hb 3 dX8_bestMinuteToTurn_72 hl rfl (by decide) (by decide) (fun g => [(3, .int g), (2, .int v4), (0, .ref (ad_q 0)), (1, .ref (ad_r 0)), (4, .int v4)]) (fun _ => rfl) hF (fun v3_10 ls hF hl => ?_)
        refine lv_goto (tgt := 28) hx hb dX8_bestMinuteToTurn_75 (by decide) ?_
        exact ih28 v4 v3_10 q_found q_foundLifts n_order n_weights n_black n_lifts n_begins n_ends n_has n_lifted n_allLifts n_doneAt y_going y_coming y_holds y_latest b_heaps b_piles b_heights b_spots _ _ hF hP hD hS ls (lv_sub hl [2, 3, 1, 0] rfl)
      intro v2 v3 q_found q_foundLifts n_order n_weights n_black n_lifts n_begins n_ends n_has n_lifted n_allLifts n_doneAt y_going y_coming y_holds y_latest b_heaps b_piles b_heights b_spots H locs hF hP hD hS ls hl
      rw [fX8_bestMinuteToTurn_L28] at hF
      refine lv_iload_n hx hb dX8_bestMinuteToTurn_28 rfl (lv_at hl 3 rfl) ?_
      refine lv_bipush (v := 99) hx hb dX8_bestMinuteToTurn_29 (by decide) ?_
      refine lv_icmp_gt (tgt := 78) hx hb dX8_bestMinuteToTurn_31 (by decide) (fun c_4 => ?_) (fun c_4 => ?_)
      · have hF := zt c_4 hF
        refine lv_aload_n hx hb dX8_bestMinuteToTurn_78 rfl (lv_at hl 0 rfl) ?_
        refine va_get (D := D) (ci := 5) (v := .int q_found) (C := RX8) (T := TX8) (N := 11) hx hb hts hin8 hown hK hP 0 rfl rfl 6 (by decide) (hts _ zm_423) (fun _ h9 => h9) rfl dX8_bestMinuteToTurn_79 ?_
        obtain rfl := Option.some.inj hF
        exact hret _ _ _ _ hP hD hS rfl dX8_bestMinuteToTurn_82
      · have hF := zf c_4 hF
        refine lv_aload_n hx hb dX8_bestMinuteToTurn_34 rfl (lv_at hl 0 rfl) ?_
        refine va_get (D := D) (ci := 5) (v := .ref (ad_n 0)) (C := RX8) (T := TX8) (N := 11) hx hb hts hin8 hown hK hP 0 rfl rfl 1 (by decide) (hts _ zm_428) (fun _ h9 => h9) rfl dX8_bestMinuteToTurn_35 ?_
        refine lv_iload_n hx hb dX8_bestMinuteToTurn_38 rfl (lv_at hl 3 rfl) ?_
        obtain ⟨o_5, hc_5, hF⟩ := zb hF
        refine zcVR (rest := []) (kX3_firstFromMinute l D ca t ad_n ad_y ad_b ad_r n_order n_weights n_black n_lifts n_begins n_ends n_has n_lifted n_allLifts n_doneAt y_going y_coming y_holds y_latest r_guests r_kinds r_figures r_minutes r_settings r_hooks r_letters r_letterCount v3 fuel _ hc_5) ⟨hx, hb, hml, hown, hts⟩ (zcwV hts zm_726 zm_727 zm_728 zm_568 zm_725 rfl rfl zdv_X3_firstFromMinute ⟨Nat.le_of_ble_eq_true rfl, Nat.le_of_ble_eq_true rfl⟩) hA hK hZ hP hD hS [4, 5, 6, 7, 8, 9, 10, 11, 12, 13, 14, 15, 23, 24, 25, 26, 27, 28] rfl rfl 2 4 rfl rfl rfl hl.1 (Nat.le_of_ble_eq_true rfl) dX8_bestMinuteToTurn_39 rfl ?_
        refine lv_istore (lv' := [(4, .int o_5), (0, .ref (ad_q 0)), (1, .ref (ad_r 0)), (2, .int v2), (3, .int v3)]) hx hb dX8_bestMinuteToTurn_42 hl (by decide) rfl (fun ls hl => ?_)
        refine lv_iload hx hb dX8_bestMinuteToTurn_44 (lv_at hl 0 rfl) ?_
        refine lv_bipush (v := (-4)) hx hb dX8_bestMinuteToTurn_46 (by decide) ?_
        refine lv_icmp_eq (tgt := 69) hx hb dX8_bestMinuteToTurn_48 (by decide) (fun c_6 => ?_) (fun c_6 => ?_)
        · have hF := zt c_6 hF
          exact j69 v3 o_5 q_found q_foundLifts n_order n_weights n_black n_lifts n_begins n_ends n_has n_lifted n_allLifts n_doneAt y_going y_coming y_holds y_latest b_heaps b_piles b_heights b_spots _ _ hF hP hD hS ls (lv_sub hl [1, 2, 4, 0] rfl)
        · have hF := zf c_6 hF
          refine lv_iload hx hb dX8_bestMinuteToTurn_51 (lv_at hl 0 rfl) ?_
          refine lv_iload_n hx hb dX8_bestMinuteToTurn_53 rfl (lv_at hl 3 rfl) ?_
          refine lv_icmp_eq (tgt := 69) hx hb dX8_bestMinuteToTurn_54 (by decide) (fun c_7 => ?_) (fun c_7 => ?_)
          · have hF := zt c_7 hF
            exact j69 v3 o_5 q_found q_foundLifts n_order n_weights n_black n_lifts n_begins n_ends n_has n_lifted n_allLifts n_doneAt y_going y_coming y_holds y_latest b_heaps b_piles b_heights b_spots _ _ hF hP hD hS ls (lv_sub hl [1, 2, 4, 0] rfl)
          · have hF := zf c_7 hF
            refine lv_aload_n hx hb dX8_bestMinuteToTurn_57 rfl (lv_at hl 1 rfl) ?_
            refine lv_iload_n hx hb dX8_bestMinuteToTurn_58 rfl (lv_at hl 4 rfl) ?_
            refine lv_aload_n hx hb dX8_bestMinuteToTurn_59 rfl (lv_at hl 1 rfl) ?_
            refine lv_aload_n hx hb dX8_bestMinuteToTurn_60 rfl (lv_at hl 2 rfl) ?_
            refine lv_iload hx hb dX8_bestMinuteToTurn_61 (lv_at hl 0 rfl) ?_
            obtain ⟨o_8, hc_8, hF⟩ := zb hF
            refine zcVi (rest := [.int v3, .ref (ad_q 0)]) (ws' := (wX8_qnybr ca ad_q ad_t ad_n ad_y ad_b ad_r q_row q_firstsLifts q_othersLifts q_seed q_found q_foundLifts q_mostLifts q_sumOfLifts q_sumOfMissers (ad_r 0) n_order n_weights n_black o_8.2.1 o_8.2.2.1 o_8.2.2.2.1 o_8.2.2.2.2.1 o_8.2.2.2.2.2.1 o_8.2.2.2.2.2.2.1 o_8.2.2.2.2.2.2.2.1 y_going y_coming o_8.2.2.2.2.2.2.2.2.1 o_8.2.2.2.2.2.2.2.2.2.1 o_8.2.2.2.2.2.2.2.2.2.2.1 o_8.2.2.2.2.2.2.2.2.2.2.2.1 o_8.2.2.2.2.2.2.2.2.2.2.2.2.1 o_8.2.2.2.2.2.2.2.2.2.2.2.2.2 r_guests r_kinds r_figures r_minutes r_settings r_hooks r_letters r_letterCount)) (kX8_liftsInOrder l D ca t ad_q ad_t ad_n ad_y ad_b ad_r q_row q_firstsLifts q_othersLifts q_seed q_found q_foundLifts q_mostLifts q_sumOfLifts q_sumOfMissers n_order n_weights n_black n_lifts n_begins n_ends n_has n_lifted n_allLifts n_doneAt y_going y_coming y_holds y_latest b_heaps b_piles b_heights b_spots r_guests r_kinds r_figures r_minutes r_settings r_hooks r_letters r_letterCount o_5 fuel _ hc_8) ⟨hx, hb, hml, hown, hts⟩ (zcwV hts zm_722 zm_723 zm_724 zm_658 zm_721 rfl rfl zdv_X8_liftsInOrder ⟨Nat.le_of_ble_eq_true rfl, Nat.le_of_ble_eq_true rfl⟩) hA hK hZ hP hD hS [0, 1, 2, 3, 4, 5, 6, 7, 8, 9, 10, 11, 12, 13, 14, 15, 16, 17, 18, 19, 20, 21, 22, 23, 24, 25, 26, 27, 28] [] [0, 1, 2, 3, 4, 5, 6, 7, 8, 9, 10, 11, 12, 13, 14, 15, 16, 17, 18, 19, 20, 21, 22, 23, 24, 25, 26, 27, 28] rfl rfl rfl rfl rfl rfl rfl 5 0 rfl rfl rfl hl.1 (Nat.le_of_ble_eq_true rfl) dX8_bestMinuteToTurn_63 rfl (fun H locs hP hD hS => ?_)
            obtain ⟨o_9, hc_9, hF⟩ := zb hF
            refine zcVv (rest := []) (ws' := (wX8_qnybr ca ad_q ad_t ad_n ad_y ad_b ad_r q_row q_firstsLifts q_othersLifts q_seed o_9.1 o_9.2 q_mostLifts q_sumOfLifts q_sumOfMissers (ad_r 0) n_order n_weights n_black o_8.2.1 o_8.2.2.1 o_8.2.2.2.1 o_8.2.2.2.2.1 o_8.2.2.2.2.2.1 o_8.2.2.2.2.2.2.1 o_8.2.2.2.2.2.2.2.1 y_going y_coming o_8.2.2.2.2.2.2.2.2.1 o_8.2.2.2.2.2.2.2.2.2.1 o_8.2.2.2.2.2.2.2.2.2.2.1 o_8.2.2.2.2.2.2.2.2.2.2.2.1 o_8.2.2.2.2.2.2.2.2.2.2.2.2.1 o_8.2.2.2.2.2.2.2.2.2.2.2.2.2 r_guests r_kinds r_figures r_minutes r_settings r_hooks r_letters r_letterCount)) (kX8_findIfFewer l D ca t ad_q ad_t ad_n q_row q_firstsLifts q_othersLifts q_seed q_found q_foundLifts q_mostLifts q_sumOfLifts q_sumOfMissers v3 o_8.1 fuel _ hc_9) ⟨hx, hb, hml, hown, hts⟩ (zcwV hts zm_709 zm_710 zm_711 zm_658 zm_708 rfl rfl zdv_X8_findIfFewer ⟨Nat.le_of_ble_eq_true rfl, Nat.le_of_ble_eq_true rfl⟩) hA hK hZ hP hD hS [0, 1, 2, 3] [4, 5, 6, 7, 8, 9, 10, 11, 12, 13, 14, 15, 16, 17, 18, 19, 20, 21, 22, 23, 24, 25, 26, 27, 28] [25, 26, 27, 28, 0, 1, 2, 3, 4, 5, 6, 7, 8, 9, 10, 11, 12, 13, 14, 15, 16, 17, 18, 19, 20, 21, 22, 23, 24] rfl rfl rfl rfl rfl rfl rfl 5 0 rfl rfl rfl hl.1 (Nat.le_of_ble_eq_true rfl) dX8_bestMinuteToTurn_66 rfl (fun H locs hP hD hS => ?_)
            exact j69 v3 o_5 o_9.1 o_9.2 n_order n_weights n_black o_8.2.1 o_8.2.2.1 o_8.2.2.2.1 o_8.2.2.2.2.1 o_8.2.2.2.2.2.1 o_8.2.2.2.2.2.2.1 o_8.2.2.2.2.2.2.2.1 y_going y_coming o_8.2.2.2.2.2.2.2.2.1 o_8.2.2.2.2.2.2.2.2.2.1 o_8.2.2.2.2.2.2.2.2.2.2.1 o_8.2.2.2.2.2.2.2.2.2.2.2.1 o_8.2.2.2.2.2.2.2.2.2.2.2.2.1 o_8.2.2.2.2.2.2.2.2.2.2.2.2.2 _ _ hF hP hD hS ls (lv_sub hl [1, 2, 4, 0] rfl)
  unfold fX8_bestMinuteToTurn at hF
  refine lv_aload_n hx hb dX8_bestMinuteToTurn_0 rfl (lv_at hl 0 rfl) ?_
  refine va_get (D := D) (ci := 5) (v := .ref (ad_n 0)) (C := RX8) (T := TX8) (N := 11) hx hb hts hin8 hown hK hP 0 rfl rfl 1 (by decide) (hts _ zm_428) (fun _ h9 => h9) rfl dX8_bestMinuteToTurn_1 ?_
  refine lv_aload_n hx hb dX8_bestMinuteToTurn_4 rfl (lv_at hl 1 rfl) ?_
  obtain ⟨o_1, hc_1, hF⟩ := zb hF
  refine zcVv (rest := []) (ws' := (wX8_qnybr ca ad_q ad_t ad_n ad_y ad_b ad_r q_row q_firstsLifts q_othersLifts q_seed q_found q_foundLifts q_mostLifts q_sumOfLifts q_sumOfMissers (ad_r 0) o_1.1 o_1.2.1 o_1.2.2.1 n_lifts n_begins n_ends n_has n_lifted n_allLifts n_doneAt o_1.2.2.2.1 o_1.2.2.2.2 y_holds y_latest b_heaps b_piles b_heights b_spots r_guests r_kinds r_figures r_minutes r_settings r_hooks r_letters r_letterCount)) (kX3_begin l D ca t ad_n ad_y ad_b ad_r n_room n_order n_weights n_black n_lifts n_begins n_ends n_has n_lifted n_allLifts n_doneAt y_going y_coming y_holds y_latest r_guests r_kinds r_figures r_minutes r_settings r_hooks r_letters r_letterCount fuel _ hc_1) ⟨hx, hb, hml, hown, hts⟩ (zcwV hts zm_603 zm_604 zm_605 zm_568 zm_602 rfl rfl zdv_X3_begin ⟨Nat.le_of_ble_eq_true rfl, Nat.le_of_ble_eq_true rfl⟩) hA hK hZ hP hD hS [4, 5, 6, 7, 8, 9, 10, 11, 12, 13, 14, 15, 23, 24, 25, 26, 27, 28] [0, 1, 2, 3, 16, 17, 18, 19, 20, 21, 22] [0, 1, 2, 3, 11, 12, 13, 14, 15, 16, 17, 18, 19, 20, 21, 22, 4, 5, 6, 7, 8, 9, 10, 23, 24, 25, 26, 27, 28] rfl rfl rfl rfl rfl rfl rfl 2 4 rfl rfl rfl hl.1 (Nat.le_of_ble_eq_true rfl) dX8_bestMinuteToTurn_5 rfl (fun H locs hP hD hS => ?_)
  refine lv_aload_n hx hb dX8_bestMinuteToTurn_8 rfl (lv_at hl 0 rfl) ?_
  obtain ⟨o_2, hc_2, hF⟩ := zb hF
  refine zcVv (rest := []) (ws' := (wX8_qnybr ca ad_q ad_t ad_n ad_y ad_b ad_r q_row q_firstsLifts q_othersLifts q_seed o_2.1 o_2.2 q_mostLifts q_sumOfLifts q_sumOfMissers (ad_r 0) o_1.1 o_1.2.1 o_1.2.2.1 n_lifts n_begins n_ends n_has n_lifted n_allLifts n_doneAt o_1.2.2.2.1 o_1.2.2.2.2 y_holds y_latest b_heaps b_piles b_heights b_spots r_guests r_kinds r_figures r_minutes r_settings r_hooks r_letters r_letterCount)) (kX8_findNothing l D ca t ad_q ad_t ad_n q_row q_firstsLifts q_othersLifts q_seed q_found q_foundLifts q_mostLifts q_sumOfLifts q_sumOfMissers fuel _ hc_2) ⟨hx, hb, hml, hown, hts⟩ (zcwV hts zm_718 zm_719 zm_720 zm_658 zm_717 rfl rfl zdv_X8_findNothing ⟨Nat.le_of_ble_eq_true rfl, Nat.le_of_ble_eq_true rfl⟩) hA hK hZ hP hD hS [0, 1, 2, 3] [4, 5, 6, 7, 8, 9, 10, 11, 12, 13, 14, 15, 16, 17, 18, 19, 20, 21, 22, 23, 24, 25, 26, 27, 28] [25, 26, 27, 28, 0, 1, 2, 3, 4, 5, 6, 7, 8, 9, 10, 11, 12, 13, 14, 15, 16, 17, 18, 19, 20, 21, 22, 23, 24] rfl rfl rfl rfl rfl rfl rfl 5 0 rfl rfl rfl hl.1 (Nat.le_of_ble_eq_true rfl) dX8_bestMinuteToTurn_9 rfl (fun H locs hP hD hS => ?_)
  refine lv_aload_n hx hb dX8_bestMinuteToTurn_12 rfl (lv_at hl 0 rfl) ?_
  refine lv_aload_n hx hb dX8_bestMinuteToTurn_13 rfl (lv_at hl 0 rfl) ?_
  refine lv_aload_n hx hb dX8_bestMinuteToTurn_14 rfl (lv_at hl 1 rfl) ?_
  refine lv_bipush (v := (-4)) hx hb dX8_bestMinuteToTurn_15 (by decide) ?_
  obtain ⟨o_3, hc_3, hF⟩ := zb hF
  refine zcVi (rest := [.ref (ad_q 0)]) (ws' := (wX8_qnybr ca ad_q ad_t ad_n ad_y ad_b ad_r q_row q_firstsLifts q_othersLifts q_seed o_2.1 o_2.2 q_mostLifts q_sumOfLifts q_sumOfMissers (ad_r 0) o_1.1 o_1.2.1 o_1.2.2.1 o_3.2.1 o_3.2.2.1 o_3.2.2.2.1 o_3.2.2.2.2.1 o_3.2.2.2.2.2.1 o_3.2.2.2.2.2.2.1 o_3.2.2.2.2.2.2.2.1 o_1.2.2.2.1 o_1.2.2.2.2 o_3.2.2.2.2.2.2.2.2.1 o_3.2.2.2.2.2.2.2.2.2.1 o_3.2.2.2.2.2.2.2.2.2.2.1 o_3.2.2.2.2.2.2.2.2.2.2.2.1 o_3.2.2.2.2.2.2.2.2.2.2.2.2.1 o_3.2.2.2.2.2.2.2.2.2.2.2.2.2 r_guests r_kinds r_figures r_minutes r_settings r_hooks r_letters r_letterCount)) (kX8_liftsInOrder l D ca t ad_q ad_t ad_n ad_y ad_b ad_r q_row q_firstsLifts q_othersLifts q_seed o_2.1 o_2.2 q_mostLifts q_sumOfLifts q_sumOfMissers o_1.1 o_1.2.1 o_1.2.2.1 n_lifts n_begins n_ends n_has n_lifted n_allLifts n_doneAt o_1.2.2.2.1 o_1.2.2.2.2 y_holds y_latest b_heaps b_piles b_heights b_spots r_guests r_kinds r_figures r_minutes r_settings r_hooks r_letters r_letterCount (-4) fuel _ hc_3) ⟨hx, hb, hml, hown, hts⟩ (zcwV hts zm_722 zm_723 zm_724 zm_658 zm_721 rfl rfl zdv_X8_liftsInOrder ⟨Nat.le_of_ble_eq_true rfl, Nat.le_of_ble_eq_true rfl⟩) hA hK hZ hP hD hS [0, 1, 2, 3, 4, 5, 6, 7, 8, 9, 10, 11, 12, 13, 14, 15, 16, 17, 18, 19, 20, 21, 22, 23, 24, 25, 26, 27, 28] [] [0, 1, 2, 3, 4, 5, 6, 7, 8, 9, 10, 11, 12, 13, 14, 15, 16, 17, 18, 19, 20, 21, 22, 23, 24, 25, 26, 27, 28] rfl rfl rfl rfl rfl rfl rfl 5 0 rfl rfl rfl hl.1 (Nat.le_of_ble_eq_true rfl) dX8_bestMinuteToTurn_17 rfl (fun H locs hP hD hS => ?_)
  refine va_put (D := D) (ci := 5) (v := .int o_3.1) (C := RX8) (T := TX8) (N := 11) hx hb hts hin8 tyX8 tyX8_ok nmX8 hown hK hP hD hS 0 rfl rfl 7 (by decide) (hts _ zm_424) (fun _ h9 => h9) rfl (tyX8_ok 7 (by decide)) rfl rfl (Nat.le_of_ble_eq_true rfl) dX8_bestMinuteToTurn_20 (fun H locs hP hD hS => ?_)
  have hP : va_P D vwCl (wX8_qnybr ca ad_q ad_t ad_n ad_y ad_b ad_r q_row q_firstsLifts q_othersLifts q_seed o_2.1 o_3.1 q_mostLifts q_sumOfLifts q_sumOfMissers (ad_r 0) o_1.1 o_1.2.1 o_1.2.2.1 o_3.2.1 o_3.2.2.1 o_3.2.2.2.1 o_3.2.2.2.2.1 o_3.2.2.2.2.2.1 o_3.2.2.2.2.2.2.1 o_3.2.2.2.2.2.2.2.1 o_1.2.2.2.1 o_1.2.2.2.2 o_3.2.2.2.2.2.2.2.2.1 o_3.2.2.2.2.2.2.2.2.2.1 o_3.2.2.2.2.2.2.2.2.2.2.1 o_3.2.2.2.2.2.2.2.2.2.2.2.1 o_3.2.2.2.2.2.2.2.2.2.2.2.2.1 o_3.2.2.2.2.2.2.2.2.2.2.2.2.2 r_guests r_kinds r_figures r_minutes r_settings r_hooks r_letters r_letterCount) H := hP
  have hD : va_D A (wX8_qnybr ca ad_q ad_t ad_n ad_y ad_b ad_r q_row q_firstsLifts q_othersLifts q_seed o_2.1 o_3.1 q_mostLifts q_sumOfLifts q_sumOfMissers (ad_r 0) o_1.1 o_1.2.1 o_1.2.2.1 o_3.2.1 o_3.2.2.1 o_3.2.2.2.1 o_3.2.2.2.2.1 o_3.2.2.2.2.2.1 o_3.2.2.2.2.2.2.1 o_3.2.2.2.2.2.2.2.1 o_1.2.2.2.1 o_1.2.2.2.2 o_3.2.2.2.2.2.2.2.2.1 o_3.2.2.2.2.2.2.2.2.2.1 o_3.2.2.2.2.2.2.2.2.2.2.1 o_3.2.2.2.2.2.2.2.2.2.2.2.1 o_3.2.2.2.2.2.2.2.2.2.2.2.2.1 o_3.2.2.2.2.2.2.2.2.2.2.2.2.2 r_guests r_kinds r_figures r_minutes r_settings r_hooks r_letters r_letterCount) := hD
  refine lv_bipush (v := (-4)) hx hb dX8_bestMinuteToTurn_23 (by decide) ?_
  refine lv_istore_n (lv' := [(2, .int (-4)), (0, .ref (ad_q 0)), (1, .ref (ad_r 0))]) hx hb dX8_bestMinuteToTurn_25 rfl hl (by decide) rfl (fun ls hl => ?_)
  refine lv_iconst (v := 0) hx hb dX8_bestMinuteToTurn_26 (by decide) ?_
  refine lv_istore_n (lv' := [(3, .int 0), (2, .int (-4)), (0, .ref (ad_q 0)), (1, .ref (ad_r 0))]) hx hb dX8_bestMinuteToTurn_27 rfl hl (by decide) rfl (fun ls hl => ?_)
  exact l28 fuel (-4) 0 o_2.1 o_3.1 o_1.1 o_1.2.1 o_1.2.2.1 o_3.2.1 o_3.2.2.1 o_3.2.2.2.1 o_3.2.2.2.2.1 o_3.2.2.2.2.2.1 o_3.2.2.2.2.2.2.1 o_3.2.2.2.2.2.2.2.1 o_1.2.2.2.1 o_1.2.2.2.2 o_3.2.2.2.2.2.2.2.2.1 o_3.2.2.2.2.2.2.2.2.2.1 o_3.2.2.2.2.2.2.2.2.2.2.1 o_3.2.2.2.2.2.2.2.2.2.2.2.1 o_3.2.2.2.2.2.2.2.2.2.2.2.2.1 o_3.2.2.2.2.2.2.2.2.2.2.2.2.2 _ _ hF hP hD hS ls (lv_sub hl [2, 3, 1, 0] rfl)
