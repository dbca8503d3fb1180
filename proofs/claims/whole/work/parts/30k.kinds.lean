abbrev roJ6_bitCount_0f7a4 : Room := { frames := 0, cells := 0, slots := 0, locals := 0 }
set_option maxHeartbeats 4000000 in
set_option maxRecDepth 100000 in
theorem kJ6_bitCount_0f7a4 (l : Launch) (D : va_G) (ca : Nat → ClassId) (t : Nat → Nat) (p0 : Int32) (fuel : Nat) (o : Int32) (hF : fJ6_bitCount_0f7a4 fuel p0 = some o) : zRi l D (zT ca) t yJ6_bitCount_0f7a4 (.code yJ6_bitCount_0f7a4 cJ6_bitCount_0f7a4 1 (some .int) :: zW) roJ6_bitCount_0f7a4 [.int p0] [] o := by
  refine zRi_of (cc := cJ6_bitCount_0f7a4) (maxL := 1) (by decide) rfl (Nat.le_of_ble_eq_true rfl) ?_
  intro p e s m args below meth c A Q ls ⟨hx, hb, hml, hown, hts, hA, hK, hZ, hS⟩ hret hP hD hl
  have hts := fun w h => hts w (List.mem_cons_of_mem _ h)
  have hown : s.vm.findClass RJ6 = some m.cls := hown
  have hl : lv_has ls 1 [(0, .int p0)] := hl
  unfold fJ6_bitCount_0f7a4 at hF
  refine lv_iload_n hx hb dJ6_bitCount_0f7a4_0 rfl (lv_at hl 0 rfl) ?_
  refine lv_iload_n hx hb dJ6_bitCount_0f7a4_1 rfl (lv_at hl 0 rfl) ?_
  refine lv_iconst (v := 1) hx hb dJ6_bitCount_0f7a4_2 (by decide) ?_
  refine lv_iushr hx hb dJ6_bitCount_0f7a4_3 rfl ?_
  refine z_let hF (fun x_1 hF => ?_)
  refine lv_ldcw hx hb hown (hts _ zm_0) dJ6_bitCount_0f7a4_4 ?_
  refine lv_iand hx hb dJ6_bitCount_0f7a4_7 ?_
  refine lv_isub hx hb dJ6_bitCount_0f7a4_8 ?_
  refine z_let hF (fun v0_2 hF => ?_)
  refine lv_istore_n (lv' := [(0, .int v0_2)]) hx hb dJ6_bitCount_0f7a4_9 rfl hl (by decide) rfl (fun ls hl => ?_)
  refine lv_iload_n hx hb dJ6_bitCount_0f7a4_10 rfl (lv_at hl 0 rfl) ?_
  refine lv_ldcw hx hb hown (hts _ zm_1) dJ6_bitCount_0f7a4_11 ?_
  refine lv_iand hx hb dJ6_bitCount_0f7a4_14 ?_
  refine lv_iload_n hx hb dJ6_bitCount_0f7a4_15 rfl (lv_at hl 0 rfl) ?_
  refine lv_iconst (v := 2) hx hb dJ6_bitCount_0f7a4_16 (by decide) ?_
  refine lv_iushr hx hb dJ6_bitCount_0f7a4_17 rfl ?_
  refine z_let hF (fun x_3 hF => ?_)
  refine lv_ldcw hx hb hown (hts _ zm_1) dJ6_bitCount_0f7a4_18 ?_
  refine lv_iand hx hb dJ6_bitCount_0f7a4_21 ?_
  refine lv_iadd hx hb dJ6_bitCount_0f7a4_22 ?_
  refine z_let hF (fun v0_4 hF => ?_)
  refine lv_istore_n (lv' := [(0, .int v0_4)]) hx hb dJ6_bitCount_0f7a4_23 rfl hl (by decide) rfl (fun ls hl => ?_)
  refine lv_iload_n hx hb dJ6_bitCount_0f7a4_24 rfl (lv_at hl 0 rfl) ?_
  refine lv_iload_n hx hb dJ6_bitCount_0f7a4_25 rfl (lv_at hl 0 rfl) ?_
  refine lv_iconst (v := 4) hx hb dJ6_bitCount_0f7a4_26 (by decide) ?_
  refine lv_iushr hx hb dJ6_bitCount_0f7a4_27 rfl ?_
  refine z_let hF (fun x_5 hF => ?_)
  refine lv_iadd hx hb dJ6_bitCount_0f7a4_28 ?_
  refine lv_ldcw hx hb hown (hts _ zm_2) dJ6_bitCount_0f7a4_29 ?_
  refine lv_iand hx hb dJ6_bitCount_0f7a4_32 ?_
  refine z_let hF (fun v0_6 hF => ?_)
  refine lv_istore_n (lv' := [(0, .int v0_6)]) hx hb dJ6_bitCount_0f7a4_33 rfl hl (by decide) rfl (fun ls hl => ?_)
  refine lv_iload_n hx hb dJ6_bitCount_0f7a4_34 rfl (lv_at hl 0 rfl) ?_
  refine lv_iload_n hx hb dJ6_bitCount_0f7a4_35 rfl (lv_at hl 0 rfl) ?_
  refine lv_bipush (v := 8) hx hb dJ6_bitCount_0f7a4_36 (by decide) ?_
  refine lv_iushr hx hb dJ6_bitCount_0f7a4_38 rfl ?_
  refine z_let hF (fun x_7 hF => ?_)
  refine lv_iadd hx hb dJ6_bitCount_0f7a4_39 ?_
  refine z_let hF (fun v0_8 hF => ?_)
  refine lv_istore_n (lv' := [(0, .int v0_8)]) hx hb dJ6_bitCount_0f7a4_40 rfl hl (by decide) rfl (fun ls hl => ?_)
  refine lv_iload_n hx hb dJ6_bitCount_0f7a4_41 rfl (lv_at hl 0 rfl) ?_
  refine lv_iload_n hx hb dJ6_bitCount_0f7a4_42 rfl (lv_at hl 0 rfl) ?_
  refine lv_bipush (v := 16) hx hb dJ6_bitCount_0f7a4_43 (by decide) ?_
  refine lv_iushr hx hb dJ6_bitCount_0f7a4_45 rfl ?_
  refine z_let hF (fun x_9 hF => ?_)
  refine lv_iadd hx hb dJ6_bitCount_0f7a4_46 ?_
  refine z_let hF (fun v0_10 hF => ?_)
  refine lv_istore_n (lv' := [(0, .int v0_10)]) hx hb dJ6_bitCount_0f7a4_47 rfl hl (by decide) rfl (fun ls hl => ?_)
  refine lv_iload_n hx hb dJ6_bitCount_0f7a4_48 rfl (lv_at hl 0 rfl) ?_
  refine lv_bipush (v := 63) hx hb dJ6_bitCount_0f7a4_49 (by decide) ?_
  refine lv_iand hx hb dJ6_bitCount_0f7a4_51 ?_
  obtain rfl := Option.some.inj hF
  exact hret _ _ rfl dJ6_bitCount_0f7a4_52
abbrev roX9_isShelf : Room := { frames := 0, cells := 0, slots := 0, locals := 0 }
set_option maxHeartbeats 4000000 in
set_option maxRecDepth 100000 in
theorem kX9_isShelf (l : Launch) (D : va_G) (ca : Nat → ClassId) (t : Nat → Nat) (p0 : Int32) (fuel : Nat) (o : Int32) (hF : fX9_isShelf fuel p0 = some o) : zRi l D (zT ca) t yX9_isShelf (.code yX9_isShelf cX9_isShelf 1 (some .boolean) :: zW) roX9_isShelf [.int p0] [] o := by
  refine zRi_of (cc := cX9_isShelf) (maxL := 1) (by decide) rfl (Nat.le_of_ble_eq_true rfl) ?_
  intro p e s m args below meth c A Q ls ⟨hx, hb, hml, hown, hts, hA, hK, hZ, hS⟩ hret hP hD hl
  have hts := fun w h => hts w (List.mem_cons_of_mem _ h)
  have hown : s.vm.findClass RX9 = some m.cls := hown
  have hl : lv_has ls 1 [(0, .int p0)] := hl
  unfold fX9_isShelf at hF
  refine lv_iload_n hx hb dX9_isShelf_0 rfl (lv_at hl 0 rfl) ?_
  refine lv_if_lt (tgt := 14) hx hb dX9_isShelf_1 (by decide) (fun c_1 => ?_) (fun c_1 => ?_)
  · have hF := zt c_1 hF
    refine lv_iconst (v := 0) hx hb dX9_isShelf_14 (by decide) ?_
    obtain rfl := Option.some.inj hF
    exact hret _ _ (zbool (Or.inl rfl)) dX9_isShelf_15
  · have hF := zf c_1 hF
    refine lv_iload_n hx hb dX9_isShelf_4 rfl (lv_at hl 0 rfl) ?_
    refine lv_bipush (v := 8) hx hb dX9_isShelf_5 (by decide) ?_
    refine lv_icmp_ge (tgt := 14) hx hb dX9_isShelf_7 (by decide) (fun c_2 => ?_) (fun c_2 => ?_)
    · have hF := zt c_2 hF
      refine lv_iconst (v := 0) hx hb dX9_isShelf_14 (by decide) ?_
      obtain rfl := Option.some.inj hF
      exact hret _ _ (zbool (Or.inl rfl)) dX9_isShelf_15
    · have hF := zf c_2 hF
      refine lv_iconst (v := 1) hx hb dX9_isShelf_10 (by decide) ?_
      refine lv_goto (tgt := 15) hx hb dX9_isShelf_11 (by decide) ?_
      obtain rfl := Option.some.inj hF
      exact hret _ _ (zbool (Or.inr rfl)) dX9_isShelf_15
abbrev roX9_isHeap : Room := { frames := 0, cells := 0, slots := 0, locals := 0 }
set_option maxHeartbeats 4000000 in
set_option maxRecDepth 100000 in
theorem kX9_isHeap (l : Launch) (D : va_G) (ca : Nat → ClassId) (t : Nat → Nat) (p0 : Int32) (fuel : Nat) (o : Int32) (hF : fX9_isHeap fuel p0 = some o) : zRi l D (zT ca) t yX9_isHeap (.code yX9_isHeap cX9_isHeap 1 (some .boolean) :: zW) roX9_isHeap [.int p0] [] o := by
  refine zRi_of (cc := cX9_isHeap) (maxL := 1) (by decide) rfl (Nat.le_of_ble_eq_true rfl) ?_
  intro p e s m args below meth c A Q ls ⟨hx, hb, hml, hown, hts, hA, hK, hZ, hS⟩ hret hP hD hl
  have hts := fun w h => hts w (List.mem_cons_of_mem _ h)
  have hown : s.vm.findClass RX9 = some m.cls := hown
  have hl : lv_has ls 1 [(0, .int p0)] := hl
  unfold fX9_isHeap at hF
  refine lv_iload_n hx hb dX9_isHeap_0 rfl (lv_at hl 0 rfl) ?_
  refine lv_if_lt (tgt := 13) hx hb dX9_isHeap_1 (by decide) (fun c_1 => ?_) (fun c_1 => ?_)
  · have hF := zt c_1 hF
    refine lv_iconst (v := 0) hx hb dX9_isHeap_13 (by decide) ?_
    obtain rfl := Option.some.inj hF
    exact hret _ _ (zbool (Or.inl rfl)) dX9_isHeap_14
  · have hF := zf c_1 hF
    refine lv_iload_n hx hb dX9_isHeap_4 rfl (lv_at hl 0 rfl) ?_
    refine lv_iconst (v := 3) hx hb dX9_isHeap_5 (by decide) ?_
    refine lv_icmp_ge (tgt := 13) hx hb dX9_isHeap_6 (by decide) (fun c_2 => ?_) (fun c_2 => ?_)
    · have hF := zt c_2 hF
      refine lv_iconst (v := 0) hx hb dX9_isHeap_13 (by decide) ?_
      obtain rfl := Option.some.inj hF
      exact hret _ _ (zbool (Or.inl rfl)) dX9_isHeap_14
    · have hF := zf c_2 hF
      refine lv_iconst (v := 1) hx hb dX9_isHeap_9 (by decide) ?_
      refine lv_goto (tgt := 14) hx hb dX9_isHeap_10 (by decide) ?_
      obtain rfl := Option.some.inj hF
      exact hret _ _ (zbool (Or.inr rfl)) dX9_isHeap_14
abbrev roX9_isMinute : Room := { frames := 0, cells := 0, slots := 0, locals := 0 }
set_option maxHeartbeats 4000000 in
set_option maxRecDepth 100000 in
theorem kX9_isMinute (l : Launch) (D : va_G) (ca : Nat → ClassId) (t : Nat → Nat) (p0 : Int32) (fuel : Nat) (o : Int32) (hF : fX9_isMinute fuel p0 = some o) : zRi l D (zT ca) t yX9_isMinute (.code yX9_isMinute cX9_isMinute 1 (some .boolean) :: zW) roX9_isMinute [.int p0] [] o := by
  refine zRi_of (cc := cX9_isMinute) (maxL := 1) (by decide) rfl (Nat.le_of_ble_eq_true rfl) ?_
  intro p e s m args below meth c A Q ls ⟨hx, hb, hml, hown, hts, hA, hK, hZ, hS⟩ hret hP hD hl
  have hts := fun w h => hts w (List.mem_cons_of_mem _ h)
  have hown : s.vm.findClass RX9 = some m.cls := hown
  have hl : lv_has ls 1 [(0, .int p0)] := hl
  unfold fX9_isMinute at hF
  refine lv_iload_n hx hb dX9_isMinute_0 rfl (lv_at hl 0 rfl) ?_
  refine lv_if_lt (tgt := 14) hx hb dX9_isMinute_1 (by decide) (fun c_1 => ?_) (fun c_1 => ?_)
  · have hF := zt c_1 hF
    refine lv_iconst (v := 0) hx hb dX9_isMinute_14 (by decide) ?_
    obtain rfl := Option.some.inj hF
    exact hret _ _ (zbool (Or.inl rfl)) dX9_isMinute_15
  · have hF := zf c_1 hF
    refine lv_iload_n hx hb dX9_isMinute_4 rfl (lv_at hl 0 rfl) ?_
    refine lv_bipush (v := 99) hx hb dX9_isMinute_5 (by decide) ?_
    refine lv_icmp_gt (tgt := 14) hx hb dX9_isMinute_7 (by decide) (fun c_2 => ?_) (fun c_2 => ?_)
    · have hF := zt c_2 hF
      refine lv_iconst (v := 0) hx hb dX9_isMinute_14 (by decide) ?_
      obtain rfl := Option.some.inj hF
      exact hret _ _ (zbool (Or.inl rfl)) dX9_isMinute_15
    · have hF := zf c_2 hF
      refine lv_iconst (v := 1) hx hb dX9_isMinute_10 (by decide) ?_
      refine lv_goto (tgt := 15) hx hb dX9_isMinute_11 (by decide) ?_
      obtain rfl := Option.some.inj hF
      exact hret _ _ (zbool (Or.inr rfl)) dX9_isMinute_15
abbrev roX9_isFirstOrSecond : Room := { frames := 0, cells := 0, slots := 0, locals := 0 }
set_option maxHeartbeats 4000000 in
set_option maxRecDepth 100000 in
theorem kX9_isFirstOrSecond (l : Launch) (D : va_G) (ca : Nat → ClassId) (t : Nat → Nat) (p0 : Int32) (fuel : Nat) (o : Int32) (hF : fX9_isFirstOrSecond fuel p0 = some o) : zRi l D (zT ca) t yX9_isFirstOrSecond (.code yX9_isFirstOrSecond cX9_isFirstOrSecond 1 (some .boolean) :: zW) roX9_isFirstOrSecond [.int p0] [] o := by
  refine zRi_of (cc := cX9_isFirstOrSecond) (maxL := 1) (by decide) rfl (Nat.le_of_ble_eq_true rfl) ?_
  intro p e s m args below meth c A Q ls ⟨hx, hb, hml, hown, hts, hA, hK, hZ, hS⟩ hret hP hD hl
  have hts := fun w h => hts w (List.mem_cons_of_mem _ h)
  have hown : s.vm.findClass RX9 = some m.cls := hown
  have hl : lv_has ls 1 [(0, .int p0)] := hl
  unfold fX9_isFirstOrSecond at hF
  refine lv_iload_n hx hb dX9_isFirstOrSecond_0 rfl (lv_at hl 0 rfl) ?_
  refine lv_if_eq (tgt := 9) hx hb dX9_isFirstOrSecond_1 (by decide) (fun c_1 => ?_) (fun c_1 => ?_)
  · have hF := zt c_1 hF
    refine lv_iconst (v := 1) hx hb dX9_isFirstOrSecond_9 (by decide) ?_
    refine lv_goto (tgt := 14) hx hb dX9_isFirstOrSecond_10 (by decide) ?_
    obtain rfl := Option.some.inj hF
    exact hret _ _ (zbool (Or.inr rfl)) dX9_isFirstOrSecond_14
  · have hF := zf c_1 hF
    refine lv_iload_n hx hb dX9_isFirstOrSecond_4 rfl (lv_at hl 0 rfl) ?_
    refine lv_iconst (v := 1) hx hb dX9_isFirstOrSecond_5 (by decide) ?_
    refine lv_icmp_ne (tgt := 13) hx hb dX9_isFirstOrSecond_6 (by decide) (fun c_2 => ?_) (fun c_2 => ?_)
    · have hF := zf c_2 hF
      refine lv_iconst (v := 0) hx hb dX9_isFirstOrSecond_13 (by decide) ?_
      obtain rfl := Option.some.inj hF
      exact hret _ _ (zbool (Or.inl rfl)) dX9_isFirstOrSecond_14
    · have hF := zt c_2 hF
      refine lv_iconst (v := 1) hx hb dX9_isFirstOrSecond_9 (by decide) ?_
      refine lv_goto (tgt := 14) hx hb dX9_isFirstOrSecond_10 (by decide) ?_
      obtain rfl := Option.some.inj hF
      exact hret _ _ (zbool (Or.inr rfl)) dX9_isFirstOrSecond_14
abbrev roX1_isKind : Room := { frames := 0, cells := 0, slots := 0, locals := 0 }
set_option maxHeartbeats 4000000 in
set_option maxRecDepth 100000 in
theorem kX1_isKind (l : Launch) (D : va_G) (ca : Nat → ClassId) (t : Nat → Nat) (p0 : Int32) (fuel : Nat) (o : Int32) (hF : fX1_isKind fuel p0 = some o) : zRi l D (zT ca) t yX1_isKind (.code yX1_isKind cX1_isKind 1 (some .boolean) :: zW) roX1_isKind [.int p0] [] o := by
  refine zRi_of (cc := cX1_isKind) (maxL := 1) (by decide) rfl (Nat.le_of_ble_eq_true rfl) ?_
  intro p e s m args below meth c A Q ls ⟨hx, hb, hml, hown, hts, hA, hK, hZ, hS⟩ hret hP hD hl
  have hts := fun w h => hts w (List.mem_cons_of_mem _ h)
  have hown : s.vm.findClass RX1 = some m.cls := hown
  have hl : lv_has ls 1 [(0, .int p0)] := hl
  unfold fX1_isKind at hF
  refine lv_iload_n hx hb dX1_isKind_0 rfl (lv_at hl 0 rfl) ?_
  refine lv_if_lt (tgt := 14) hx hb dX1_isKind_1 (by decide) (fun c_1 => ?_) (fun c_1 => ?_)
  · have hF := zt c_1 hF
    refine lv_iconst (v := 0) hx hb dX1_isKind_14 (by decide) ?_
    obtain rfl := Option.some.inj hF
    exact hret _ _ (zbool (Or.inl rfl)) dX1_isKind_15
  · have hF := zf c_1 hF
    refine lv_iload_n hx hb dX1_isKind_4 rfl (lv_at hl 0 rfl) ?_
    refine lv_bipush (v := 7) hx hb dX1_isKind_5 (by decide) ?_
    refine lv_icmp_gt (tgt := 14) hx hb dX1_isKind_7 (by decide) (fun c_2 => ?_) (fun c_2 => ?_)
    · have hF := zt c_2 hF
      refine lv_iconst (v := 0) hx hb dX1_isKind_14 (by decide) ?_
      obtain rfl := Option.some.inj hF
      exact hret _ _ (zbool (Or.inl rfl)) dX1_isKind_15
    · have hF := zf c_2 hF
      refine lv_iconst (v := 1) hx hb dX1_isKind_10 (by decide) ?_
      refine lv_goto (tgt := 15) hx hb dX1_isKind_11 (by decide) ?_
      obtain rfl := Option.some.inj hF
      exact hret _ _ (zbool (Or.inr rfl)) dX1_isKind_15
abbrev roX1_minute : Room := { frames := 1, cells := 0, slots := 0, locals := 24 }
set_option maxHeartbeats 4000000 in
set_option maxRecDepth 100000 in
theorem kX1_minute (l : Launch) (D : va_G) (ca : Nat → ClassId) (t : Nat → Nat) (p0 : Int32) (p1 : Int32) (p2 : Int32) (fuel : Nat) (o : Int32) (hF : fX1_minute fuel p0 p1 p2 = some o) : zRi l D (zT ca) t yX1_minute (.code yX1_minute cX1_minute 3 (some .int) :: zW) roX1_minute [.int p0, .int p1, .int p2] [] o := by
  refine zRi_of (cc := cX1_minute) (maxL := 3) (by decide) rfl (Nat.le_of_ble_eq_true rfl) ?_
  intro p e s m args below meth c A Q ls ⟨hx, hb, hml, hown, hts, hA, hK, hZ, hS⟩ hret hP hD hl
  have hts := fun w h => hts w (List.mem_cons_of_mem _ h)
  have hown : s.vm.findClass RX1 = some m.cls := hown
  have hl : lv_has ls 3 [(0, .int p0), (1, .int p1), (2, .int p2)] := hl
  unfold fX1_minute at hF
  refine lv_iload_n hx hb dX1_minute_0 rfl (lv_at hl 0 rfl) ?_
  by_cases c_1 : p0 = 5
  · have hF := zt c_1 hF
    refine lv_lookup (tgt := 28) (off := 27) hx hb dX1_minute_1 (by decide) (by rw [c_1]; rfl) (by decide) ?_
    refine lv_iconst (v := 0) hx hb dX1_minute_28 (by decide) ?_
    refine lv_iload_n hx hb dX1_minute_29 rfl (lv_at hl 2 rfl) ?_
    refine lv_iload_n hx hb dX1_minute_30 rfl (lv_at hl 1 rfl) ?_
    refine lv_isub hx hb dX1_minute_31 ?_
    refine va_mmax hx hb (hml.trans hl.1.symm) hown (hts _ zm_331) (hts _ zm_22) (hts _ zm_23) (hts _ zm_24) (Nat.le_of_ble_eq_true rfl) (Nat.le_of_ble_eq_true rfl) (Nat.zero_le _) (Nat.zero_le _) dX1_minute_32 ?_
    refine z_let hF (fun x_2 hF => ?_)
    obtain rfl := Option.some.inj hF
    exact hret _ _ rfl dX1_minute_35
  · have hF := zf c_1 hF
    by_cases c_3 : p0 = 7
    · have hF := zt c_3 hF
      refine lv_lookup (tgt := 36) (off := 35) hx hb dX1_minute_1 (by decide) (by rw [c_3]; rfl) (by decide) ?_
      refine lv_bipush (v := 99) hx hb dX1_minute_36 (by decide) ?_
      obtain rfl := Option.some.inj hF
      exact hret _ _ rfl dX1_minute_38
    · have hF := zf c_3 hF
      refine lv_lookup (tgt := 39) (off := 38) hx hb dX1_minute_1 (by decide) (zlook2 c_1 c_3) (by decide) ?_
      refine lv_iload_n hx hb dX1_minute_39 rfl (lv_at hl 2 rfl) ?_
      obtain rfl := Option.some.inj hF
      exact hret _ _ rfl dX1_minute_40
abbrev roX1_weight : Room := { frames := 0, cells := 0, slots := 0, locals := 0 }
set_option maxHeartbeats 4000000 in
set_option maxRecDepth 100000 in
theorem kX1_weight (l : Launch) (D : va_G) (ca : Nat → ClassId) (t : Nat → Nat) (p0 : Int32) (p1 : Int32) (fuel : Nat) (o : Int32) (hF : fX1_weight fuel p0 p1 = some o) : zRi l D (zT ca) t yX1_weight (.code yX1_weight cX1_weight 3 (some .int) :: zW) roX1_weight [.int p0, .int p1] [] o := by
  refine zRi_of (cc := cX1_weight) (maxL := 3) (by decide) rfl (Nat.le_of_ble_eq_true rfl) ?_
  intro p e s m args below meth c A Q ls ⟨hx, hb, hml, hown, hts, hA, hK, hZ, hS⟩ hret hP hD hl
  have hts := fun w h => hts w (List.mem_cons_of_mem _ h)
  have hown : s.vm.findClass RX1 = some m.cls := hown
  have hl : lv_has ls 3 [(0, .int p0), (1, .int p1)] := hl
  unfold fX1_weight at hF
  refine lv_iconst (v := 1) hx hb dX1_weight_0 (by decide) ?_
  refine lv_iload_n hx hb dX1_weight_1 rfl (lv_at hl 1 rfl) ?_
  refine lv_iconst (v := 3) hx hb dX1_weight_2 (by decide) ?_
  refine lv_idiv hx hb dX1_weight_3 (by decide) ?_
  refine lv_iadd hx hb dX1_weight_4 ?_
  refine z_let hF (fun v2_1 hF => ?_)
  refine lv_istore_n (lv' := [(2, .int v2_1), (0, .int p0), (1, .int p1)]) hx hb dX1_weight_5 rfl hl (by decide) rfl (fun ls hl => ?_)
  refine lv_iload_n hx hb dX1_weight_6 rfl (lv_at hl 1 rfl) ?_
  by_cases c_2 : p0 = 1
  · have hF := zt c_2 hF
    refine lv_tableIn (tgt := 40) (off := 33) hx hb dX1_weight_7 (by rw [c_2]; decide) (by rw [c_2]; decide) (by rw [c_2]; rfl) (by decide) ?_
    refine lv_iconst (v := 3) hx hb dX1_weight_40 (by decide) ?_
    obtain rfl := Option.some.inj hF
    exact hret _ _ rfl dX1_weight_41
  · have hF := zf c_2 hF
    by_cases c_3 : p0 = 2
    · have hF := zt c_3 hF
      refine lv_tableIn (tgt := 42) (off := 35) hx hb dX1_weight_7 (by rw [c_3]; decide) (by rw [c_3]; decide) (by rw [c_3]; rfl) (by decide) ?_
      refine lv_iload_n hx hb dX1_weight_42 rfl (lv_at hl 0 rfl) ?_
      obtain rfl := Option.some.inj hF
      exact hret _ _ rfl dX1_weight_43
    · have hF := zf c_3 hF
      by_cases c_4 : p0 = 3
      · have hF := zt c_4 hF
        refine lv_tableIn (tgt := 50) (off := 43) hx hb dX1_weight_7 (by rw [c_4]; decide) (by rw [c_4]; decide) (by rw [c_4]; rfl) (by decide) ?_
        refine lv_iconst (v := 1) hx hb dX1_weight_50 (by decide) ?_
        obtain rfl := Option.some.inj hF
        exact hret _ _ rfl dX1_weight_51
      · have hF := zf c_4 hF
        by_cases c_5 : p0 = 4
        · have hF := zt c_5 hF
          refine lv_tableIn (tgt := 44) (off := 37) hx hb dX1_weight_7 (by rw [c_5]; decide) (by rw [c_5]; decide) (by rw [c_5]; rfl) (by decide) ?_
          refine lv_iload_n hx hb dX1_weight_44 rfl (lv_at hl 0 rfl) ?_
          refine lv_iconst (v := 1) hx hb dX1_weight_45 (by decide) ?_
          refine lv_iadd hx hb dX1_weight_46 ?_
          obtain rfl := Option.some.inj hF
          exact hret _ _ rfl dX1_weight_47
        · have hF := zf c_5 hF
          by_cases c_6 : p0 = 5
          · have hF := zt c_6 hF
            refine lv_tableIn (tgt := 48) (off := 41) hx hb dX1_weight_7 (by rw [c_6]; decide) (by rw [c_6]; decide) (by rw [c_6]; rfl) (by decide) ?_
            refine lv_iconst (v := 0) hx hb dX1_weight_48 (by decide) ?_
            obtain rfl := Option.some.inj hF
            exact hret _ _ rfl dX1_weight_49
          · have hF := zf c_6 hF
            refine lv_tableOut (tgt := 50) hx hb dX1_weight_7 (ztab (lo := 1) (hi := 5) (fun k h1 h2 => by rcases (show k = 1 ∨ k = 2 ∨ k = 3 ∨ k = 4 ∨ k = 5 by omega) with rfl | rfl | rfl | rfl | rfl <;> first | exact c_2 | exact c_3 | exact c_4 | exact c_5 | exact c_6)) (by decide) ?_
            refine lv_iconst (v := 1) hx hb dX1_weight_50 (by decide) ?_
            obtain rfl := Option.some.inj hF
            exact hret _ _ rfl dX1_weight_51
abbrev roX1_isBlack : Room := { frames := 0, cells := 0, slots := 0, locals := 0 }
set_option maxHeartbeats 4000000 in
set_option maxRecDepth 100000 in
theorem kX1_isBlack (l : Launch) (D : va_G) (ca : Nat → ClassId) (t : Nat → Nat) (p0 : Int32) (fuel : Nat) (o : Int32) (hF : fX1_isBlack fuel p0 = some o) : zRi l D (zT ca) t yX1_isBlack (.code yX1_isBlack cX1_isBlack 1 (some .boolean) :: zW) roX1_isBlack [.int p0] [] o := by
  refine zRi_of (cc := cX1_isBlack) (maxL := 1) (by decide) rfl (Nat.le_of_ble_eq_true rfl) ?_
  intro p e s m args below meth c A Q ls ⟨hx, hb, hml, hown, hts, hA, hK, hZ, hS⟩ hret hP hD hl
  have hts := fun w h => hts w (List.mem_cons_of_mem _ h)
  have hown : s.vm.findClass RX1 = some m.cls := hown
  have hl : lv_has ls 1 [(0, .int p0)] := hl
  unfold fX1_isBlack at hF
  refine lv_iload_n hx hb dX1_isBlack_0 rfl (lv_at hl 0 rfl) ?_
  refine lv_iconst (v := 3) hx hb dX1_isBlack_1 (by decide) ?_
  refine lv_icmp_eq (tgt := 11) hx hb dX1_isBlack_2 (by decide) (fun c_1 => ?_) (fun c_1 => ?_)
  · have hF := zt c_1 hF
    refine lv_iconst (v := 1) hx hb dX1_isBlack_11 (by decide) ?_
    refine lv_goto (tgt := 16) hx hb dX1_isBlack_12 (by decide) ?_
    obtain rfl := Option.some.inj hF
    exact hret _ _ (zbool (Or.inr rfl)) dX1_isBlack_16
  · have hF := zf c_1 hF
    refine lv_iload_n hx hb dX1_isBlack_5 rfl (lv_at hl 0 rfl) ?_
    refine lv_bipush (v := 6) hx hb dX1_isBlack_6 (by decide) ?_
    refine lv_icmp_ne (tgt := 15) hx hb dX1_isBlack_8 (by decide) (fun c_2 => ?_) (fun c_2 => ?_)
    · have hF := zf c_2 hF
      refine lv_iconst (v := 0) hx hb dX1_isBlack_15 (by decide) ?_
      obtain rfl := Option.some.inj hF
      exact hret _ _ (zbool (Or.inl rfl)) dX1_isBlack_16
    · have hF := zt c_2 hF
      refine lv_iconst (v := 1) hx hb dX1_isBlack_11 (by decide) ?_
      refine lv_goto (tgt := 16) hx hb dX1_isBlack_12 (by decide) ?_
      obtain rfl := Option.some.inj hF
      exact hret _ _ (zbool (Or.inr rfl)) dX1_isBlack_16
abbrev roX1_spare : Room := { frames := 0, cells := 0, slots := 0, locals := 0 }
set_option maxHeartbeats 4000000 in
set_option maxRecDepth 100000 in
theorem kX1_spare (l : Launch) (D : va_G) (ca : Nat → ClassId) (t : Nat → Nat) (p0 : Int32) (p1 : Int32) (fuel : Nat) (o : Int32) (hF : fX1_spare fuel p0 p1 = some o) : zRi l D (zT ca) t yX1_spare (.code yX1_spare cX1_spare 2 (some .int) :: zW) roX1_spare [.int p0, .int p1] [] o := by
  refine zRi_of (cc := cX1_spare) (maxL := 2) (by decide) rfl (Nat.le_of_ble_eq_true rfl) ?_
  intro p e s m args below meth c A Q ls ⟨hx, hb, hml, hown, hts, hA, hK, hZ, hS⟩ hret hP hD hl
  have hts := fun w h => hts w (List.mem_cons_of_mem _ h)
  have hown : s.vm.findClass RX1 = some m.cls := hown
  have hl : lv_has ls 2 [(0, .int p0), (1, .int p1)] := hl
  unfold fX1_spare at hF
  refine lv_iload_n hx hb dX1_spare_0 rfl (lv_at hl 0 rfl) ?_
  refine lv_bipush (v := 6) hx hb dX1_spare_1 (by decide) ?_
  refine lv_icmp_ne (tgt := 10) hx hb dX1_spare_3 (by decide) (fun c_1 => ?_) (fun c_1 => ?_)
  · have hF := zf c_1 hF
    refine lv_bipush (v := 99) hx hb dX1_spare_10 (by decide) ?_
    obtain rfl := Option.some.inj hF
    exact hret _ _ rfl dX1_spare_12
  · have hF := zt c_1 hF
    refine lv_iload_n hx hb dX1_spare_6 rfl (lv_at hl 1 rfl) ?_
    refine lv_goto (tgt := 12) hx hb dX1_spare_7 (by decide) ?_
    obtain rfl := Option.some.inj hF
    exact hret _ _ rfl dX1_spare_12
abbrev roX1_price : Room := { frames := 0, cells := 0, slots := 0, locals := 0 }
set_option maxHeartbeats 4000000 in
set_option maxRecDepth 100000 in
theorem kX1_price (l : Launch) (D : va_G) (ca : Nat → ClassId) (t : Nat → Nat) (p0 : Int32) (p1 : Int32) (fuel : Nat) (o : Int32) (hF : fX1_price fuel p0 p1 = some o) : zRi l D (zT ca) t yX1_price (.code yX1_price cX1_price 4 (some .int) :: zW) roX1_price [.int p0, .int p1] [] o := by
  refine zRi_of (cc := cX1_price) (maxL := 4) (by decide) rfl (Nat.le_of_ble_eq_true rfl) ?_
  intro p e s m args below meth c A Q ls ⟨hx, hb, hml, hown, hts, hA, hK, hZ, hS⟩ hret hP hD hl
  have hts := fun w h => hts w (List.mem_cons_of_mem _ h)
  have hown : s.vm.findClass RX1 = some m.cls := hown
  have hl : lv_has ls 4 [(0, .int p0), (1, .int p1)] := hl
  unfold fX1_price at hF
  refine lv_iconst (v := 4) hx hb dX1_price_0 (by decide) ?_
  refine lv_iload_n hx hb dX1_price_1 rfl (lv_at hl 1 rfl) ?_
  refine lv_iadd hx hb dX1_price_2 ?_
  refine z_let hF (fun v2_1 hF => ?_)
  refine lv_istore_n (lv' := [(2, .int v2_1), (0, .int p0), (1, .int p1)]) hx hb dX1_price_3 rfl hl (by decide) rfl (fun ls hl => ?_)
  refine lv_bipush (v := 7) hx hb dX1_price_4 (by decide) ?_
  refine lv_istore_n (lv' := [(3, .int 7), (2, .int v2_1), (0, .int p0), (1, .int p1)]) hx hb dX1_price_6 rfl hl (by decide) rfl (fun ls hl => ?_)
  refine lv_iload_n hx hb dX1_price_7 rfl (lv_at hl 2 rfl) ?_
  by_cases c_2 : p0 = 1
  · have hF := zt c_2 hF
    refine lv_tableIn (tgt := 52) (off := 44) hx hb dX1_price_8 (by rw [c_2]; decide) (by rw [c_2]; decide) (by rw [c_2]; rfl) (by decide) ?_
    refine lv_bipush (v := 24) hx hb dX1_price_52 (by decide) ?_
    obtain rfl := Option.some.inj hF
    exact hret _ _ rfl dX1_price_54
  · have hF := zf c_2 hF
    by_cases c_3 : p0 = 2
    · have hF := zt c_3 hF
      refine lv_tableIn (tgt := 55) (off := 47) hx hb dX1_price_8 (by rw [c_3]; decide) (by rw [c_3]; decide) (by rw [c_3]; rfl) (by decide) ?_
      refine lv_iload_n hx hb dX1_price_55 rfl (lv_at hl 1 rfl) ?_
      obtain rfl := Option.some.inj hF
      exact hret _ _ rfl dX1_price_56
    · have hF := zf c_3 hF
      by_cases c_4 : p0 = 3
      · have hF := zt c_4 hF
        refine lv_tableIn (tgt := 57) (off := 49) hx hb dX1_price_8 (by rw [c_4]; decide) (by rw [c_4]; decide) (by rw [c_4]; rfl) (by decide) ?_
        refine lv_iload_n hx hb dX1_price_57 rfl (lv_at hl 0 rfl) ?_
        obtain rfl := Option.some.inj hF
        exact hret _ _ rfl dX1_price_58
      · have hF := zf c_4 hF
        by_cases c_5 : p0 = 4
        · have hF := zt c_5 hF
          refine lv_tableIn (tgt := 59) (off := 51) hx hb dX1_price_8 (by rw [c_5]; decide) (by rw [c_5]; decide) (by rw [c_5]; rfl) (by decide) ?_
          refine lv_iconst (v := 2) hx hb dX1_price_59 (by decide) ?_
          refine lv_iload_n hx hb dX1_price_60 rfl (lv_at hl 1 rfl) ?_
          refine lv_imul hx hb dX1_price_61 ?_
          obtain rfl := Option.some.inj hF
          exact hret _ _ rfl dX1_price_62
        · have hF := zf c_5 hF
          by_cases c_6 : p0 = 5
          · have hF := zt c_6 hF
            refine lv_tableIn (tgt := 63) (off := 55) hx hb dX1_price_8 (by rw [c_6]; decide) (by rw [c_6]; decide) (by rw [c_6]; rfl) (by decide) ?_
            refine lv_iconst (v := 2) hx hb dX1_price_63 (by decide) ?_
            obtain rfl := Option.some.inj hF
            exact hret _ _ rfl dX1_price_64
          · have hF := zf c_6 hF
            by_cases c_7 : p0 = 6
            · have hF := zt c_7 hF
              refine lv_tableIn (tgt := 65) (off := 57) hx hb dX1_price_8 (by rw [c_7]; decide) (by rw [c_7]; decide) (by rw [c_7]; rfl) (by decide) ?_
              refine lv_iload_n hx hb dX1_price_65 rfl (lv_at hl 0 rfl) ?_
              refine lv_iload_n hx hb dX1_price_66 rfl (lv_at hl 3 rfl) ?_
              refine lv_iadd hx hb dX1_price_67 ?_
              obtain rfl := Option.some.inj hF
              exact hret _ _ rfl dX1_price_68
            · have hF := zf c_7 hF
              by_cases c_8 : p0 = 7
              · have hF := zt c_8 hF
                refine lv_tableIn (tgt := 69) (off := 61) hx hb dX1_price_8 (by rw [c_8]; decide) (by rw [c_8]; decide) (by rw [c_8]; rfl) (by decide) ?_
                refine lv_iconst (v := 3) hx hb dX1_price_69 (by decide) ?_
                obtain rfl := Option.some.inj hF
                exact hret _ _ rfl dX1_price_70
              · have hF := zf c_8 hF
                refine lv_tableOut (tgt := 71) hx hb dX1_price_8 (ztab (lo := 1) (hi := 7) (fun k h1 h2 => by rcases (show k = 1 ∨ k = 2 ∨ k = 3 ∨ k = 4 ∨ k = 5 ∨ k = 6 ∨ k = 7 by omega) with rfl | rfl | rfl | rfl | rfl | rfl | rfl <;> first | exact c_2 | exact c_3 | exact c_4 | exact c_5 | exact c_6 | exact c_7 | exact c_8)) (by decide) ?_
                refine lv_iconst (v := 4) hx hb dX1_price_71 (by decide) ?_
                obtain rfl := Option.some.inj hF
                exact hret _ _ rfl dX1_price_72
abbrev roX4_howMany : Room := { frames := 0, cells := 0, slots := 0, locals := 0 }
set_option maxHeartbeats 4000000 in
set_option maxRecDepth 100000 in
theorem kX4_howMany (l : Launch) (D : va_G) (ca : Nat → ClassId) (t : Nat → Nat) (p0 : Int32) (fuel : Nat) (o : Int32) (hF : fX4_howMany fuel p0 = some o) : zRi l D (zT ca) t yX4_howMany (.code yX4_howMany cX4_howMany 3 (some .int) :: zW) roX4_howMany [.int p0] [] o := by
  refine zRi_of (cc := cX4_howMany) (maxL := 3) (by decide) rfl (Nat.le_of_ble_eq_true rfl) ?_
  intro p e s m args below meth c A Q ls ⟨hx, hb, hml, hown, hts, hA, hK, hZ, hS⟩ hret hP hD hl
  have hts := fun w h => hts w (List.mem_cons_of_mem _ h)
  have hown : s.vm.findClass RX4 = some m.cls := hown
  have hl : lv_has ls 3 [(0, .int p0)] := hl
  have l4 : ∀ (n4 : Nat) (v1 : Int32) (v2 : Int32), fX4_howMany_L4 p0 n4 v1 v2 = some o → ∀ ls : Array Slot, lv_has ls 3 [(0, .int p0), (1, .int v1), (2, .int v2)] → W p l e roX4_howMany s m args below meth c s.heap [] 0 0 Q (F0 m 4 ls []) := by
    intro n4
    induction n4 with
    | zero =>
      intro v1 v2 hF
      rw [fX4_howMany_L4] at hF
      cases hF
    | succ n4 ih4 =>
      intro v1 v2 hF ls hl
      rw [fX4_howMany_L4] at hF
      refine lv_iload_n hx hb dX4_howMany_4 rfl (lv_at hl 2 rfl) ?_
      refine lv_iload_n hx hb dX4_howMany_5 rfl (lv_at hl 0 rfl) ?_
      refine lv_icmp_gt (tgt := 19) hx hb dX4_howMany_6 (by decide) (fun c_1 => ?_) (fun c_1 => ?_)
      · have hF := zt c_1 hF
        refine lv_iload_n hx hb dX4_howMany_19 rfl (lv_at hl 1 rfl) ?_
        obtain rfl := Option.some.inj hF
        exact hret _ _ rfl dX4_howMany_20
      · have hF := zf c_1 hF
        refine lv_iload_n hx hb dX4_howMany_9 rfl (lv_at hl 1 rfl) ?_
        refine lv_iload_n hx hb dX4_howMany_10 rfl (lv_at hl 2 rfl) ?_
        refine lv_imul hx hb dX4_howMany_11 ?_
        refine z_let hF (fun v1_2 hF => ?_)
        refine lv_istore_n (lv' := [(1, .int v1_2), (0, .int p0), (2, .int v2)]) hx hb dX4_howMany_12 rfl hl (by decide) rfl (fun ls hl => ?_)
        refine z_iinc (kv := 1) hx hb 2 dX4_howMany_13 hl rfl (by decide) (by decide) (fun g => [(2, .int g), (1, .int v1_2), (0, .int p0)]) (fun _ => rfl) hF (fun v2_3 ls hF hl => ?_)
        refine lv_goto (tgt := 4) hx hb dX4_howMany_16 (by decide) ?_
        exact ih4 v1_2 v2_3 hF ls (lv_sub hl [2, 1, 0] rfl)
  unfold fX4_howMany at hF
  refine lv_iconst (v := 1) hx hb dX4_howMany_0 (by decide) ?_
  refine lv_istore_n (lv' := [(1, .int 1), (0, .int p0)]) hx hb dX4_howMany_1 rfl hl (by decide) rfl (fun ls hl => ?_)
  refine lv_iconst (v := 2) hx hb dX4_howMany_2 (by decide) ?_
  refine lv_istore_n (lv' := [(2, .int 2), (1, .int 1), (0, .int p0)]) hx hb dX4_howMany_3 rfl hl (by decide) rfl (fun ls hl => ?_)
  exact l4 fuel 1 2 hF ls (lv_sub hl [2, 1, 0] rfl)
abbrev roX4_first : Room := { frames := 0, cells := 0, slots := 0, locals := 0 }
set_option maxHeartbeats 4000000 in
set_option maxRecDepth 100000 in
theorem kX4_first (l : Launch) (D : va_G) (ca : Nat → ClassId) (t : Nat → Nat) (ad_a : Nat) (a_row : Nat → Int32) (p1 : Int32) (fuel : Nat) (o : (Nat → Int32)) (hF : fX4_first fuel a_row p1 = some o) : zMv l D (zT ca) t yX4_first (.code yX4_first cX4_first 3 none :: zW) roX4_first [.ref ad_a, .int p1] (wX4_a ca ad_a a_row) (wX4_a ca ad_a o) := by
  refine zMv_of (cc := cX4_first) (maxL := 3) (by decide) rfl (Nat.le_of_ble_eq_true rfl) ?_
  intro p e s m args below meth c A Q ls ⟨hx, hb, hml, hown, hts, hA, hK, hZ, hS⟩ hret hP hD hl
  have hts := fun w h => hts w (List.mem_cons_of_mem _ h)
  have hown : s.vm.findClass RX4 = some m.cls := hown
  have hl : lv_has ls 3 [(0, .ref ad_a), (1, .int p1)] := hl
  have l2 : ∀ (n2 : Nat) (v2 : Int32) (a_row : Nat → Int32) (H : Heap) (locs : List Loc), fX4_first_L2 p1 n2 v2 a_row = some o → va_P D vwCl (wX4_a ca ad_a a_row) H → va_D A (wX4_a ca ad_a a_row) → va_S A s.heap H locs → ∀ ls : Array Slot, lv_has ls 3 [(0, .ref ad_a), (1, .int p1), (2, .int v2)] → W p l e roX4_first s m args below meth c H locs 0 0 Q (F0 m 2 ls []) := by
    intro n2
    induction n2 with
    | zero =>
      intro v2 a_row H locs hF
      rw [fX4_first_L2] at hF
      cases hF
    | succ n2 ih2 =>
      intro v2 a_row H locs hF hP hD hS ls hl
      rw [fX4_first_L2] at hF
      refine lv_iload_n hx hb dX4_first_2 rfl (lv_at hl 2 rfl) ?_
      refine lv_iload_n hx hb dX4_first_3 rfl (lv_at hl 1 rfl) ?_
      refine lv_icmp_ge (tgt := 17) hx hb dX4_first_4 (by decide) (fun c_1 => ?_) (fun c_1 => ?_)
      · have hF := zt c_1 hF
        obtain rfl := Option.some.inj hF
        exact hret _ _ _ _ hP hD hS dX4_first_17
      · have hF := zf c_1 hF
        refine lv_aload_n hx hb dX4_first_7 rfl (lv_at hl 0 rfl) ?_
        refine lv_iload_n hx hb dX4_first_8 rfl (lv_at hl 2 rfl) ?_
        refine lv_iload_n hx hb dX4_first_9 rfl (lv_at hl 2 rfl) ?_
        obtain ⟨h_2, hF⟩ := zgi hF
        refine z_iast hx hb hK hP hD hS 0 0 rfl rfl h_2 dX4_first_10 (fun g => (wX4_a ca ad_a g)) (fun _ => rfl) hF (fun a_row_3 H locs hF hP hD hS => ?_)
        refine z_iinc (kv := 1) hx hb 2 dX4_first_11 hl rfl (by decide) (by decide) (fun g => [(2, .int g), (0, .ref ad_a), (1, .int p1)]) (fun _ => rfl) hF (fun v2_4 ls hF hl => ?_)
        refine lv_goto (tgt := 2) hx hb dX4_first_14 (by decide) ?_
        exact ih2 v2_4 a_row_3 _ _ hF hP hD hS ls (lv_sub hl [1, 2, 0] rfl)
  unfold fX4_first at hF
  refine lv_iconst (v := 0) hx hb dX4_first_0 (by decide) ?_
  refine lv_istore_n (lv' := [(2, .int 0), (0, .ref ad_a), (1, .int p1)]) hx hb dX4_first_1 rfl hl (by decide) rfl (fun ls hl => ?_)
  exact l2 fuel 0 a_row _ _ hF hP hD hS ls (lv_sub hl [1, 2, 0] rfl)
abbrev roX4_swap : Room := { frames := 0, cells := 0, slots := 0, locals := 0 }
set_option maxHeartbeats 4000000 in
set_option maxRecDepth 100000 in
theorem kX4_swap (l : Launch) (D : va_G) (ca : Nat → ClassId) (t : Nat → Nat) (ad_a : Nat) (a_row : Nat → Int32) (p1 : Int32) (p2 : Int32) (fuel : Nat) (o : (Nat → Int32)) (hF : fX4_swap fuel a_row p1 p2 = some o) : zMv l D (zT ca) t yX4_swap (.code yX4_swap cX4_swap 4 none :: zW) roX4_swap [.ref ad_a, .int p1, .int p2] (wX4_a ca ad_a a_row) (wX4_a ca ad_a o) := by
  refine zMv_of (cc := cX4_swap) (maxL := 4) (by decide) rfl (Nat.le_of_ble_eq_true rfl) ?_
  intro p e s m args below meth c A Q ls ⟨hx, hb, hml, hown, hts, hA, hK, hZ, hS⟩ hret hP hD hl
  have hts := fun w h => hts w (List.mem_cons_of_mem _ h)
  have hown : s.vm.findClass RX4 = some m.cls := hown
  have hl : lv_has ls 4 [(0, .ref ad_a), (1, .int p1), (2, .int p2)] := hl
  unfold fX4_swap at hF
  refine lv_aload_n hx hb dX4_swap_0 rfl (lv_at hl 0 rfl) ?_
  refine lv_iload_n hx hb dX4_swap_1 rfl (lv_at hl 1 rfl) ?_
  obtain ⟨h_1, hF⟩ := zgi hF
  refine va_iald hx hb hK hP 0 0 rfl rfl h_1 dX4_swap_2 ?_
  refine z_let hF (fun v3_2 hF => ?_)
  refine lv_istore_n (lv' := [(3, .int v3_2), (0, .ref ad_a), (1, .int p1), (2, .int p2)]) hx hb dX4_swap_3 rfl hl (by decide) rfl (fun ls hl => ?_)
  refine lv_aload_n hx hb dX4_swap_4 rfl (lv_at hl 1 rfl) ?_
  refine lv_iload_n hx hb dX4_swap_5 rfl (lv_at hl 2 rfl) ?_
  refine lv_aload_n hx hb dX4_swap_6 rfl (lv_at hl 1 rfl) ?_
  refine lv_iload_n hx hb dX4_swap_7 rfl (lv_at hl 3 rfl) ?_
  obtain ⟨h_3, hF⟩ := zgi hF
  refine va_iald hx hb hK hP 0 0 rfl rfl h_3 dX4_swap_8 ?_
  refine z_iast hx hb hK hP hD hS 0 0 rfl rfl h_1 dX4_swap_9 (fun g => (wX4_a ca ad_a g)) (fun _ => rfl) hF (fun a_row_4 H locs hF hP hD hS => ?_)
  refine lv_aload_n hx hb dX4_swap_10 rfl (lv_at hl 1 rfl) ?_
  refine lv_iload_n hx hb dX4_swap_11 rfl (lv_at hl 3 rfl) ?_
  refine lv_iload_n hx hb dX4_swap_12 rfl (lv_at hl 0 rfl) ?_
  refine z_iast hx hb hK hP hD hS 0 0 rfl rfl h_3 dX4_swap_13 (fun g => (wX4_a ca ad_a g)) (fun _ => rfl) hF (fun a_row_5 H locs hF hP hD hS => ?_)
  obtain rfl := Option.some.inj hF
  exact hret _ _ _ _ hP hD hS dX4_swap_14
abbrev roX4_asDigits : Room := { frames := 0, cells := 0, slots := 0, locals := 0 }
set_option maxHeartbeats 4000000 in
set_option maxRecDepth 100000 in
theorem kX4_asDigits (l : Launch) (D : va_G) (ca : Nat → ClassId) (t : Nat → Nat) (ad_a : Nat) (a_row : Nat → Int32) (p1 : Int32) (fuel : Nat) (o : Int32) (hF : fX4_asDigits fuel a_row p1 = some o) : zRi l D (zT ca) t yX4_asDigits (.code yX4_asDigits cX4_asDigits 4 (some .int) :: zW) roX4_asDigits [.ref ad_a, .int p1] (wX4_a ca ad_a a_row) o := by
  refine zRi_of (cc := cX4_asDigits) (maxL := 4) (by decide) rfl (Nat.le_of_ble_eq_true rfl) ?_
  intro p e s m args below meth c A Q ls ⟨hx, hb, hml, hown, hts, hA, hK, hZ, hS⟩ hret hP hD hl
  have hts := fun w h => hts w (List.mem_cons_of_mem _ h)
  have hown : s.vm.findClass RX4 = some m.cls := hown
  have hl : lv_has ls 4 [(0, .ref ad_a), (1, .int p1)] := hl
  have l4 : ∀ (n4 : Nat) (v2 : Int32) (v3 : Int32), fX4_asDigits_L4 a_row p1 n4 v2 v3 = some o → ∀ ls : Array Slot, lv_has ls 4 [(0, .ref ad_a), (1, .int p1), (2, .int v2), (3, .int v3)] → W p l e roX4_asDigits s m args below meth c s.heap [] 0 0 Q (F0 m 4 ls []) := by
    intro n4
    induction n4 with
    | zero =>
      intro v2 v3 hF
      rw [fX4_asDigits_L4] at hF
      cases hF
    | succ n4 ih4 =>
      intro v2 v3 hF ls hl
      rw [fX4_asDigits_L4] at hF
      refine lv_iload_n hx hb dX4_asDigits_4 rfl (lv_at hl 3 rfl) ?_
      refine lv_iload_n hx hb dX4_asDigits_5 rfl (lv_at hl 1 rfl) ?_
      refine lv_icmp_ge (tgt := 24) hx hb dX4_asDigits_6 (by decide) (fun c_1 => ?_) (fun c_1 => ?_)
      · have hF := zt c_1 hF
        refine lv_iload_n hx hb dX4_asDigits_24 rfl (lv_at hl 2 rfl) ?_
        obtain rfl := Option.some.inj hF
        exact hret _ _ rfl dX4_asDigits_25
      · have hF := zf c_1 hF
        refine lv_bipush (v := 10) hx hb dX4_asDigits_9 (by decide) ?_
        refine lv_iload_n hx hb dX4_asDigits_11 rfl (lv_at hl 2 rfl) ?_
        refine lv_imul hx hb dX4_asDigits_12 ?_
        refine lv_aload_n hx hb dX4_asDigits_13 rfl (lv_at hl 0 rfl) ?_
        refine lv_iload_n hx hb dX4_asDigits_14 rfl (lv_at hl 3 rfl) ?_
        obtain ⟨h_2, hF⟩ := zgi hF
        refine va_iald hx hb hK hP 0 0 rfl rfl h_2 dX4_asDigits_15 ?_
        refine lv_iadd hx hb dX4_asDigits_16 ?_
        refine z_let hF (fun v2_3 hF => ?_)
        refine lv_istore_n (lv' := [(2, .int v2_3), (0, .ref ad_a), (1, .int p1), (3, .int v3)]) hx hb dX4_asDigits_17 rfl hl (by decide) rfl (fun ls hl => ?_)
        refine z_iinc (kv := 1) hx hb 3 dX4_asDigits_18 hl rfl (by decide) (by decide) (fun g => [(3, .int g), (2, .int v2_3), (0, .ref ad_a), (1, .int p1)]) (fun _ => rfl) hF (fun v3_4 ls hF hl => ?_)
        refine lv_goto (tgt := 4) hx hb dX4_asDigits_21 (by decide) ?_
        exact ih4 v2_3 v3_4 hF ls (lv_sub hl [2, 3, 1, 0] rfl)
  unfold fX4_asDigits at hF
  refine lv_iconst (v := 0) hx hb dX4_asDigits_0 (by decide) ?_
  refine lv_istore_n (lv' := [(2, .int 0), (0, .ref ad_a), (1, .int p1)]) hx hb dX4_asDigits_1 rfl hl (by decide) rfl (fun ls hl => ?_)
  refine lv_iconst (v := 0) hx hb dX4_asDigits_2 (by decide) ?_
  refine lv_istore_n (lv' := [(3, .int 0), (2, .int 0), (0, .ref ad_a), (1, .int p1)]) hx hb dX4_asDigits_3 rfl hl (by decide) rfl (fun ls hl => ?_)
  exact l4 fuel 0 0 hF ls (lv_sub hl [2, 3, 1, 0] rfl)
abbrev roX4_greatestDivisor : Room := { frames := 0, cells := 0, slots := 0, locals := 0 }
set_option maxHeartbeats 4000000 in
set_option maxRecDepth 100000 in
theorem kX4_greatestDivisor (l : Launch) (D : va_G) (ca : Nat → ClassId) (t : Nat → Nat) (p0 : Int32) (p1 : Int32) (fuel : Nat) (o : Int32) (hF : fX4_greatestDivisor fuel p0 p1 = some o) : zRi l D (zT ca) t yX4_greatestDivisor (.code yX4_greatestDivisor cX4_greatestDivisor 6 (some .int) :: zW) roX4_greatestDivisor [.int p0, .int p1] [] o := by
  refine zRi_of (cc := cX4_greatestDivisor) (maxL := 6) (by decide) rfl (Nat.le_of_ble_eq_true rfl) ?_
  intro p e s m args below meth c A Q ls ⟨hx, hb, hml, hown, hts, hA, hK, hZ, hS⟩ hret hP hD hl
  have hts := fun w h => hts w (List.mem_cons_of_mem _ h)
  have hown : s.vm.findClass RX4 = some m.cls := hown
  have hl : lv_has ls 6 [(0, .int p0), (1, .int p1)] := hl
  have l7 : ∀ (n7 : Nat) (v2 : Int32) (v3 : Int32) (v4 : Int32), fX4_greatestDivisor_L7 n7 v2 v3 v4 = some o → ∀ ls : Array Slot, lv_has ls 6 [(2, .int v2), (3, .int v3), (4, .int v4)] → W p l e roX4_greatestDivisor s m args below meth c s.heap [] 0 0 Q (F0 m 7 ls []) := by
    intro n7
    induction n7 with
    | zero =>
      intro v2 v3 v4 hF
      rw [fX4_greatestDivisor_L7] at hF
      cases hF
    | succ n7 ih7 =>
      intro v2 v3 v4 hF ls hl
      rw [fX4_greatestDivisor_L7] at hF
      refine lv_iload hx hb dX4_greatestDivisor_7 (lv_at hl 2 rfl) ?_
      refine lv_bipush (v := 100) hx hb dX4_greatestDivisor_9 (by decide) ?_
      refine lv_icmp_ge (tgt := 34) hx hb dX4_greatestDivisor_11 (by decide) (fun c_1 => ?_) (fun c_1 => ?_)
      · have hF := zt c_1 hF
        refine lv_iload_n hx hb dX4_greatestDivisor_34 rfl (lv_at hl 0 rfl) ?_
        obtain rfl := Option.some.inj hF
        exact hret _ _ rfl dX4_greatestDivisor_35
      · have hF := zf c_1 hF
        refine lv_iload_n hx hb dX4_greatestDivisor_14 rfl (lv_at hl 1 rfl) ?_
        refine lv_if_eq (tgt := 34) hx hb dX4_greatestDivisor_15 (by decide) (fun c_2 => ?_) (fun c_2 => ?_)
        · have hF := zt c_2 hF
          refine lv_iload_n hx hb dX4_greatestDivisor_34 rfl (lv_at hl 0 rfl) ?_
          obtain rfl := Option.some.inj hF
          exact hret _ _ rfl dX4_greatestDivisor_35
        · have hF := zf c_2 hF
          refine lv_iload_n hx hb dX4_greatestDivisor_18 rfl (lv_at hl 0 rfl) ?_
          refine lv_iload_n hx hb dX4_greatestDivisor_19 rfl (lv_at hl 1 rfl) ?_
          obtain ⟨h_3, hF⟩ := zgd hF
          refine lv_irem hx hb dX4_greatestDivisor_20 h_3 ?_
          refine z_let hF (fun v5_4 hF => ?_)
          refine lv_istore (lv' := [(5, .int v5_4), (2, .int v2), (3, .int v3), (4, .int v4)]) hx hb dX4_greatestDivisor_21 hl (by decide) rfl (fun ls hl => ?_)
          refine lv_iload_n hx hb dX4_greatestDivisor_23 rfl (lv_at hl 2 rfl) ?_
          refine lv_istore_n (lv' := [(2, .int v3), (5, .int v5_4), (3, .int v3), (4, .int v4)]) hx hb dX4_greatestDivisor_24 rfl hl (by decide) rfl (fun ls hl => ?_)
          refine lv_iload hx hb dX4_greatestDivisor_25 (lv_at hl 1 rfl) ?_
          refine lv_istore_n (lv' := [(3, .int v5_4), (2, .int v3), (5, .int v5_4), (4, .int v4)]) hx hb dX4_greatestDivisor_27 rfl hl (by decide) rfl (fun ls hl => ?_)
          refine z_iinc (kv := 1) hx hb 3 dX4_greatestDivisor_28 hl rfl (by decide) (by decide) (fun g => [(4, .int g), (3, .int v5_4), (2, .int v3), (5, .int v5_4)]) (fun _ => rfl) hF (fun v4_5 ls hF hl => ?_)
          refine lv_goto (tgt := 7) hx hb dX4_greatestDivisor_31 (by decide) ?_
          exact ih7 v3 v5_4 v4_5 hF ls (lv_sub hl [2, 1, 0] rfl)
  unfold fX4_greatestDivisor at hF
  refine lv_iload_n hx hb dX4_greatestDivisor_0 rfl (lv_at hl 0 rfl) ?_
  refine lv_istore_n (lv' := [(2, .int p0), (0, .int p0), (1, .int p1)]) hx hb dX4_greatestDivisor_1 rfl hl (by decide) rfl (fun ls hl => ?_)
  refine lv_iload_n hx hb dX4_greatestDivisor_2 rfl (lv_at hl 2 rfl) ?_
  refine lv_istore_n (lv' := [(3, .int p1), (2, .int p0), (0, .int p0), (1, .int p1)]) hx hb dX4_greatestDivisor_3 rfl hl (by decide) rfl (fun ls hl => ?_)
  refine lv_iconst (v := 0) hx hb dX4_greatestDivisor_4 (by decide) ?_
  refine lv_istore (lv' := [(4, .int 0), (3, .int p1), (2, .int p0), (0, .int p0), (1, .int p1)]) hx hb dX4_greatestDivisor_5 hl (by decide) rfl (fun ls hl => ?_)
  exact l7 fuel p0 p1 0 hF ls (lv_sub hl [2, 1, 0] rfl)
theorem zds_X4_swap : yX4_swap.cls ≠ "java/lang/invoke/MethodHandle" ∧ yX4_swap.cls ≠ "java/lang/invoke/VarHandle" ∧ (parseMethodDescriptor yX4_swap.desc).map (fun d => d.parameters.length) = some 3 := by decide +kernel
abbrev roX4_next : Room := { frames := 1, cells := 0, slots := 0, locals := 23 }
set_option maxHeartbeats 4000000 in
set_option maxRecDepth 100000 in
theorem kX4_next (l : Launch) (D : va_G) (ca : Nat → ClassId) (t : Nat → Nat) (ad_a : Nat) (a_row : Nat → Int32) (p1 : Int32) (fuel : Nat) (o : (Nat → Int32)) (hF : fX4_next fuel a_row p1 = some o) : zMv l D (zT ca) t yX4_next (.code yX4_next cX4_next 6 none :: zW) roX4_next [.ref ad_a, .int p1] (wX4_a ca ad_a a_row) (wX4_a ca ad_a o) := by
  refine zMv_of (cc := cX4_next) (maxL := 6) (by decide) rfl (Nat.le_of_ble_eq_true rfl) ?_
  intro p e s m args below meth c A Q ls ⟨hx, hb, hml, hown, hts, hA, hK, hZ, hS⟩ hret hP hD hl
  have hts := fun w h => hts w (List.mem_cons_of_mem _ h)
  have hown : s.vm.findClass RX4 = some m.cls := hown
  have hl : lv_has ls 6 [(0, .ref ad_a), (1, .int p1)] := hl
  have l70 : ∀ (n70 : Nat) (v4 : Int32) (v5 : Int32) (a_row : Nat → Int32) (H : Heap) (locs : List Loc), fX4_next_L70 fuel n70 v4 v5 a_row = some o → va_P D vwCl (wX4_a ca ad_a a_row) H → va_D A (wX4_a ca ad_a a_row) → va_S A s.heap H locs → ∀ ls : Array Slot, lv_has ls 6 [(0, .ref ad_a), (4, .int v4), (5, .int v5)] → W p l e roX4_next s m args below meth c H locs 0 0 Q (F0 m 70 ls []) := by
    intro n70
    induction n70 with
    | zero =>
      intro v4 v5 a_row H locs hF
      rw [fX4_next_L70] at hF
      cases hF
    | succ n70 ih70 =>
      intro v4 v5 a_row H locs hF hP hD hS ls hl
      rw [fX4_next_L70] at hF
      refine lv_iload hx hb dX4_next_70 (lv_at hl 2 rfl) ?_
      refine lv_iload hx hb dX4_next_72 (lv_at hl 1 rfl) ?_
      refine lv_icmp_le (tgt := 94) hx hb dX4_next_74 (by decide) (fun c_17 => ?_) (fun c_17 => ?_)
      · have hF := zt c_17 hF
        obtain rfl := Option.some.inj hF
        exact hret _ _ _ _ hP hD hS dX4_next_94
      · have hF := zf c_17 hF
        refine lv_aload_n hx hb dX4_next_77 rfl (lv_at hl 0 rfl) ?_
        refine lv_iload hx hb dX4_next_78 (lv_at hl 1 rfl) ?_
        refine lv_iload hx hb dX4_next_80 (lv_at hl 2 rfl) ?_
        obtain ⟨o_18, hc_18, hF⟩ := zb hF
        refine zcSv (rest := []) (ws' := (wX4_a ca ad_a o_18)) (kX4_swap l D ca t ad_a a_row v4 v5 fuel _ hc_18) ⟨hx, hb, hml, hown, hts⟩ (zcwS hts zm_587 zm_585 zm_586 zm_584 rfl rfl zds_X4_swap ⟨Nat.le_of_ble_eq_true rfl, Nat.le_of_ble_eq_true rfl⟩) hA hK hZ hP hD hS [0] [] [0] rfl rfl rfl rfl rfl rfl rfl rfl hl.1 (Nat.le_of_ble_eq_true rfl) dX4_next_82 rfl (fun H locs hP hD hS => ?_)
        refine z_iinc (kv := 1) hx hb 1 dX4_next_85 hl rfl (by decide) (by decide) (fun g => [(4, .int g), (0, .ref ad_a), (5, .int v5)]) (fun _ => rfl) hF (fun v4_19 ls hF hl => ?_)
        refine z_iinc (kv := (-1)) hx hb 2 dX4_next_88 hl rfl (by decide) (by decide) (fun g => [(5, .int g), (4, .int v4_19), (0, .ref ad_a)]) (fun _ => rfl) hF (fun v5_20 ls hF hl => ?_)
        refine lv_goto (tgt := 70) hx hb dX4_next_91 (by decide) ?_
        exact ih70 v4_19 v5_20 o_18 _ _ hF hP hD hS ls (lv_sub hl [2, 1, 0] rfl)
  have j54 : ∀ (v2 : Int32) (v3 : Int32) (a_row : Nat → Int32) (H : Heap) (locs : List Loc), fX4_next_J54 fuel p1 v2 v3 a_row = some o → va_P D vwCl (wX4_a ca ad_a a_row) H → va_D A (wX4_a ca ad_a a_row) → va_S A s.heap H locs → ∀ ls : Array Slot, lv_has ls 6 [(0, .ref ad_a), (1, .int p1), (2, .int v2), (3, .int v3)] → W p l e roX4_next s m args below meth c H locs 0 0 Q (F0 m 54 ls []) := by
    intro v2 v3 a_row H locs hF hP hD hS ls hl
    unfold fX4_next_J54 at hF
    refine lv_aload_n hx hb dX4_next_54 rfl (lv_at hl 0 rfl) ?_
    refine lv_iload_n hx hb dX4_next_55 rfl (lv_at hl 2 rfl) ?_
    refine lv_iload_n hx hb dX4_next_56 rfl (lv_at hl 3 rfl) ?_
    obtain ⟨o_14, hc_14, hF⟩ := zb hF
    refine zcSv (rest := []) (ws' := (wX4_a ca ad_a o_14)) (kX4_swap l D ca t ad_a a_row v2 v3 fuel _ hc_14) ⟨hx, hb, hml, hown, hts⟩ (zcwS hts zm_587 zm_585 zm_586 zm_584 rfl rfl zds_X4_swap ⟨Nat.le_of_ble_eq_true rfl, Nat.le_of_ble_eq_true rfl⟩) hA hK hZ hP hD hS [0] [] [0] rfl rfl rfl rfl rfl rfl rfl rfl hl.1 (Nat.le_of_ble_eq_true rfl) dX4_next_57 rfl (fun H locs hP hD hS => ?_)
    refine lv_iload_n hx hb dX4_next_60 rfl (lv_at hl 2 rfl) ?_
    refine lv_iconst (v := 1) hx hb dX4_next_61 (by decide) ?_
    refine lv_iadd hx hb dX4_next_62 ?_
    refine z_let hF (fun v4_15 hF => ?_)
    refine lv_istore (lv' := [(4, .int v4_15), (0, .ref ad_a), (1, .int p1), (2, .int v2), (3, .int v3)]) hx hb dX4_next_63 hl (by decide) rfl (fun ls hl => ?_)
    refine lv_iload_n hx hb dX4_next_65 rfl (lv_at hl 2 rfl) ?_
    refine lv_iconst (v := 1) hx hb dX4_next_66 (by decide) ?_
    refine lv_isub hx hb dX4_next_67 ?_
    refine z_let hF (fun v5_16 hF => ?_)
    refine lv_istore (lv' := [(5, .int v5_16), (4, .int v4_15), (0, .ref ad_a), (1, .int p1), (2, .int v2), (3, .int v3)]) hx hb dX4_next_68 hl (by decide) rfl (fun ls hl => ?_)
    exact l70 fuel v4_15 v5_16 o_14 _ _ hF hP hD hS ls (lv_sub hl [2, 1, 0] rfl)
  have l34 : ∀ (n34 : Nat) (v2 : Int32) (v3 : Int32) (a_row : Nat → Int32) (H : Heap) (locs : List Loc), fX4_next_L34 fuel p1 n34 v2 v3 a_row = some o → va_P D vwCl (wX4_a ca ad_a a_row) H → va_D A (wX4_a ca ad_a a_row) → va_S A s.heap H locs → ∀ ls : Array Slot, lv_has ls 6 [(0, .ref ad_a), (1, .int p1), (2, .int v2), (3, .int v3)] → W p l e roX4_next s m args below meth c H locs 0 0 Q (F0 m 34 ls []) := by
    intro n34
    induction n34 with
    | zero =>
      intro v2 v3 a_row H locs hF
      rw [fX4_next_L34] at hF
      cases hF
    | succ n34 ih34 =>
      intro v2 v3 a_row H locs hF hP hD hS ls hl
      rw [fX4_next_L34] at hF
      refine lv_iload_n hx hb dX4_next_34 rfl (lv_at hl 3 rfl) ?_
      refine lv_iload_n hx hb dX4_next_35 rfl (lv_at hl 2 rfl) ?_
      refine lv_icmp_le (tgt := 54) hx hb dX4_next_36 (by decide) (fun c_9 => ?_) (fun c_9 => ?_)
      · have hF := zt c_9 hF
        exact j54 v2 v3 a_row _ _ hF hP hD hS ls (lv_sub hl [0, 1, 2, 3] rfl)
      · have hF := zf c_9 hF
        refine lv_aload_n hx hb dX4_next_39 rfl (lv_at hl 0 rfl) ?_
        refine lv_iload_n hx hb dX4_next_40 rfl (lv_at hl 3 rfl) ?_
        obtain ⟨h_10, hF⟩ := zgi hF
        refine va_iald hx hb hK hP 0 0 rfl rfl h_10 dX4_next_41 ?_
        refine lv_aload_n hx hb dX4_next_42 rfl (lv_at hl 0 rfl) ?_
        refine lv_iload_n hx hb dX4_next_43 rfl (lv_at hl 2 rfl) ?_
        obtain ⟨h_11, hF⟩ := zgi hF
        refine va_iald hx hb hK hP 0 0 rfl rfl h_11 dX4_next_44 ?_
        refine lv_icmp_ge (tgt := 54) hx hb dX4_next_45 (by decide) (fun c_12 => ?_) (fun c_12 => ?_)
        · have hF := zt c_12 hF
          exact j54 v2 v3 a_row _ _ hF hP hD hS ls (lv_sub hl [0, 1, 2, 3] rfl)
        · have hF := zf c_12 hF
          refine z_iinc (kv := (-1)) hx hb 3 dX4_next_48 hl rfl (by decide) (by decide) (fun g => [(3, .int g), (0, .ref ad_a), (1, .int p1), (2, .int v2)]) (fun _ => rfl) hF (fun v3_13 ls hF hl => ?_)
          refine lv_goto (tgt := 34) hx hb dX4_next_51 (by decide) ?_
          exact ih34 v2 v3_13 a_row _ _ hF hP hD hS ls (lv_sub hl [1, 2, 3, 0] rfl)
  have j25 : ∀ (v2 : Int32) (a_row : Nat → Int32) (H : Heap) (locs : List Loc), fX4_next_J25 fuel p1 v2 a_row = some o → va_P D vwCl (wX4_a ca ad_a a_row) H → va_D A (wX4_a ca ad_a a_row) → va_S A s.heap H locs → ∀ ls : Array Slot, lv_has ls 6 [(0, .ref ad_a), (1, .int p1), (2, .int v2)] → W p l e roX4_next s m args below meth c H locs 0 0 Q (F0 m 25 ls []) := by
    intro v2 a_row H locs hF hP hD hS ls hl
    unfold fX4_next_J25 at hF
    refine lv_iload_n hx hb dX4_next_25 rfl (lv_at hl 2 rfl) ?_
    refine lv_if_ge (tgt := 30) hx hb dX4_next_26 (by decide) (fun c_7 => ?_) (fun c_7 => ?_)
    · have hF := zt c_7 hF
      refine lv_iload_n hx hb dX4_next_30 rfl (lv_at hl 1 rfl) ?_
      refine lv_iconst (v := 1) hx hb dX4_next_31 (by decide) ?_
      refine lv_isub hx hb dX4_next_32 ?_
      refine z_let hF (fun v3_8 hF => ?_)
      refine lv_istore_n (lv' := [(3, .int v3_8), (0, .ref ad_a), (1, .int p1), (2, .int v2)]) hx hb dX4_next_33 rfl hl (by decide) rfl (fun ls hl => ?_)
      exact l34 fuel v2 v3_8 a_row _ _ hF hP hD hS ls (lv_sub hl [1, 2, 3, 0] rfl)
    · have hF := zf c_7 hF
      obtain rfl := Option.some.inj hF
      exact hret _ _ _ _ hP hD hS dX4_next_29
  have l4 : ∀ (n4 : Nat) (v2 : Int32) (a_row : Nat → Int32) (H : Heap) (locs : List Loc), fX4_next_L4 fuel p1 n4 v2 a_row = some o → va_P D vwCl (wX4_a ca ad_a a_row) H → va_D A (wX4_a ca ad_a a_row) → va_S A s.heap H locs → ∀ ls : Array Slot, lv_has ls 6 [(0, .ref ad_a), (1, .int p1), (2, .int v2)] → W p l e roX4_next s m args below meth c H locs 0 0 Q (F0 m 4 ls []) := by
    intro n4
    induction n4 with
    | zero =>
      intro v2 a_row H locs hF
      rw [fX4_next_L4] at hF
      cases hF
    | succ n4 ih4 =>
      intro v2 a_row H locs hF hP hD hS ls hl
      rw [fX4_next_L4] at hF
      refine lv_iload_n hx hb dX4_next_4 rfl (lv_at hl 2 rfl) ?_
      refine lv_if_lt (tgt := 25) hx hb dX4_next_5 (by decide) (fun c_2 => ?_) (fun c_2 => ?_)
      · have hF := zt c_2 hF
        exact j25 v2 a_row _ _ hF hP hD hS ls (lv_sub hl [0, 1, 2] rfl)
      · have hF := zf c_2 hF
        refine lv_aload_n hx hb dX4_next_8 rfl (lv_at hl 0 rfl) ?_
        refine lv_iload_n hx hb dX4_next_9 rfl (lv_at hl 2 rfl) ?_
        obtain ⟨h_3, hF⟩ := zgi hF
        refine va_iald hx hb hK hP 0 0 rfl rfl h_3 dX4_next_10 ?_
        refine lv_aload_n hx hb dX4_next_11 rfl (lv_at hl 0 rfl) ?_
        refine lv_iload_n hx hb dX4_next_12 rfl (lv_at hl 2 rfl) ?_
        refine lv_iconst (v := 1) hx hb dX4_next_13 (by decide) ?_
        refine lv_iadd hx hb dX4_next_14 ?_
        obtain ⟨h_4, hF⟩ := zgi hF
        refine va_iald hx hb hK hP 0 0 rfl rfl h_4 dX4_next_15 ?_
        refine lv_icmp_le (tgt := 25) hx hb dX4_next_16 (by decide) (fun c_5 => ?_) (fun c_5 => ?_)
        · have hF := zt c_5 hF
          exact j25 v2 a_row _ _ hF hP hD hS ls (lv_sub hl [0, 1, 2] rfl)
        · have hF := zf c_5 hF
          refine z_iinc (kv := (-1)) hx hb 2 dX4_next_19 hl rfl (by decide) (by decide) (fun g => [(2, .int g), (0, .ref ad_a), (1, .int p1)]) (fun _ => rfl) hF (fun v2_6 ls hF hl => ?_)
          refine lv_goto (tgt := 4) hx hb dX4_next_22 (by decide) ?_
          exact ih4 v2_6 a_row _ _ hF hP hD hS ls (lv_sub hl [1, 2, 0] rfl)
  unfold fX4_next at hF
  refine lv_iload_n hx hb dX4_next_0 rfl (lv_at hl 1 rfl) ?_
  refine lv_iconst (v := 2) hx hb dX4_next_1 (by decide) ?_
  refine lv_isub hx hb dX4_next_2 ?_
  refine z_let hF (fun v2_1 hF => ?_)
  refine lv_istore_n (lv' := [(2, .int v2_1), (0, .ref ad_a), (1, .int p1)]) hx hb dX4_next_3 rfl hl (by decide) rfl (fun ls hl => ?_)
  exact l4 fuel v2_1 a_row _ _ hF hP hD hS ls (lv_sub hl [1, 2, 0] rfl)
