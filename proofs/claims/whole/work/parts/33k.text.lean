abbrev roX6_statementsIn : Room := { frames := 0, cells := 0, slots := 0, locals := 0 }
set_option maxHeartbeats 4000000 in
set_option maxRecDepth 100000 in
theorem kX6_statementsIn (l : Launch) (D : va_G) (ca : Nat → ClassId) (t : Nat → Nat) (ad_s : Nat → Nat) (s_holds : Nat → Int32) (s_kind : Nat → Int32) (s_figure : Nat → Int32) (s_sort : Nat → Int32) (s_size : Nat → Int32) (s_el : Nat → Nat → Int32) (si : Nat) (hsi : si < 8) (fuel : Nat) (o : Int32) (hF : fX6_statementsIn fuel s_size s_el si = some o) : zRi l D (zT ca) t yX6_statementsIn (.code yX6_statementsIn cX6_statementsIn 3 (some .int) :: zW) roX6_statementsIn [.ref (ad_s (2 * si))] (wX6_s ca ad_s s_holds s_kind s_figure s_sort s_size s_el) o := by
  refine zRi_of (cc := cX6_statementsIn) (maxL := 3) (by decide) rfl (Nat.le_of_ble_eq_true rfl) ?_
  intro p e s m args below meth c A Q ls ⟨hx, hb, hml, hown, hts, hA, hK, hZ, hS⟩ hret hP hD hl
  have hts := fun w h => hts w (List.mem_cons_of_mem _ h)
  have hown : s.vm.findClass RX6 = some m.cls := hown
  have hl : lv_has ls 3 [(0, .ref (ad_s (2 * si)))] := hl
  have hin7 := zin_X7
  have l4 : ∀ (n4 : Nat) (v1 : Int32) (v2 : Int32), fX6_statementsIn_L4 s_size s_el si n4 v1 v2 = some o → ∀ ls : Array Slot, lv_has ls 3 [(0, .ref (ad_s (2 * si))), (1, .int v1), (2, .int v2)] → W p l e roX6_statementsIn s m args below meth c s.heap [] 0 0 Q (F0 m 4 ls []) := by
    intro n4
    induction n4 with
    | zero =>
      intro v1 v2 hF
      rw [fX6_statementsIn_L4] at hF
      cases hF
    | succ n4 ih4 =>
      have j26 : ∀ (v1 : Int32) (v2 : Int32), fX6_statementsIn_J26 (fX6_statementsIn_L4 s_size s_el si n4) v1 v2 = some o → ∀ ls : Array Slot, lv_has ls 3 [(0, .ref (ad_s (2 * si))), (1, .int v1), (2, .int v2)] → W p l e roX6_statementsIn s m args below meth c s.heap [] 0 0 Q (F0 m 26 ls []) := by
        intro v1 v2 hF ls hl
        unfold fX6_statementsIn_J26 at hF
        refine z_iinc (kv := 1) hx hb 2 dX6_statementsIn_26 hl rfl (by decide) (by decide) (fun g => [(2, .int g), (0, .ref (ad_s (2 * si))), (1, .int v1)]) (fun _ => rfl) hF (fun v2_5 ls hF hl => ?_)
        refine lv_goto (tgt := 4) hx hb dX6_statementsIn_29 (by decide) ?_
        exact ih4 v1 v2_5 hF ls (lv_sub hl [1, 2, 0] rfl)
      intro v1 v2 hF ls hl
      rw [fX6_statementsIn_L4] at hF
      refine lv_iload_n hx hb dX6_statementsIn_4 rfl (lv_at hl 2 rfl) ?_
      refine lv_aload_n hx hb dX6_statementsIn_5 rfl (lv_at hl 0 rfl) ?_
      refine va_get (D := D) (ci := 4) (v := .int (s_size si)) (C := RX7) (T := TX7) (N := 6) hx hb hts hin7 hown hK hP (2 * si) (zsh_at si hsi) rfl 4 (by decide) (hts _ zm_406) (fun _ h9 => h9) rfl dX6_statementsIn_6 ?_
      refine lv_icmp_ge (tgt := 32) hx hb dX6_statementsIn_9 (by decide) (fun c_1 => ?_) (fun c_1 => ?_)
      · have hF := zt c_1 hF
        refine lv_iload_n hx hb dX6_statementsIn_32 rfl (lv_at hl 1 rfl) ?_
        obtain rfl := Option.some.inj hF
        exact hret _ _ rfl dX6_statementsIn_33
      · have hF := zf c_1 hF
        refine lv_aload_n hx hb dX6_statementsIn_12 rfl (lv_at hl 0 rfl) ?_
        refine va_get (D := D) (ci := 4) (v := .ref (ad_s (2 * si + 1))) (C := RX7) (T := TX7) (N := 6) hx hb hts hin7 hown hK hP (2 * si) (zsh_at si hsi) rfl 5 (by decide) (hts _ zm_407) (fun _ h9 => h9) rfl dX6_statementsIn_13 ?_
        refine lv_iload_n hx hb dX6_statementsIn_16 rfl (lv_at hl 2 rfl) ?_
        obtain ⟨h_2, hF⟩ := zgi hF
        refine va_iald hx hb hK hP (2 * si + 1) 0 (zsh_el si hsi) rfl h_2 dX6_statementsIn_17 ?_
        refine lv_bipush (v := 59) hx hb dX6_statementsIn_18 (by decide) ?_
        refine lv_icmp_ne (tgt := 26) hx hb dX6_statementsIn_20 (by decide) (fun c_3 => ?_) (fun c_3 => ?_)
        · have hF := zf c_3 hF
          exact j26 v1 v2 hF ls (lv_sub hl [0, 1, 2] rfl)
        · have hF := zt c_3 hF
          refine z_iinc (kv := 1) hx hb 1 dX6_statementsIn_23 hl rfl (by decide) (by decide) (fun g => [(1, .int g), (0, .ref (ad_s (2 * si))), (2, .int v2)]) (fun _ => rfl) hF (fun v1_4 ls hF hl => ?_)
          exact j26 v1_4 v2 hF ls (lv_sub hl [1, 0, 2] rfl)
  unfold fX6_statementsIn at hF
  refine lv_iconst (v := 0) hx hb dX6_statementsIn_0 (by decide) ?_
  refine lv_istore_n (lv' := [(1, .int 0), (0, .ref (ad_s (2 * si)))]) hx hb dX6_statementsIn_1 rfl hl (by decide) rfl (fun ls hl => ?_)
  refine lv_iconst (v := 0) hx hb dX6_statementsIn_2 (by decide) ?_
  refine lv_istore_n (lv' := [(2, .int 0), (1, .int 0), (0, .ref (ad_s (2 * si)))]) hx hb dX6_statementsIn_3 rfl hl (by decide) rfl (fun ls hl => ?_)
  exact l4 fuel 0 0 hF ls (lv_sub hl [2, 1, 0] rfl)
abbrev roX6_isLetterOfRule : Room := { frames := 0, cells := 0, slots := 0, locals := 0 }
set_option maxHeartbeats 4000000 in
set_option maxRecDepth 100000 in
theorem kX6_isLetterOfRule (l : Launch) (D : va_G) (ca : Nat → ClassId) (t : Nat → Nat) (p0 : Int32) (fuel : Nat) (o : Int32) (hF : fX6_isLetterOfRule fuel p0 = some o) : zRi l D (zT ca) t yX6_isLetterOfRule (.code yX6_isLetterOfRule cX6_isLetterOfRule 2 (some .boolean) :: zW) roX6_isLetterOfRule [.int p0] [] o := by
  refine zRi_of (cc := cX6_isLetterOfRule) (maxL := 2) (by decide) rfl (Nat.le_of_ble_eq_true rfl) ?_
  intro p e s m args below meth c A Q ls ⟨hx, hb, hml, hown, hts, hA, hK, hZ, hS⟩ hret hP hD hl
  have hts := fun w h => hts w (List.mem_cons_of_mem _ h)
  have hown : s.vm.findClass RX6 = some m.cls := hown
  have hl : lv_has ls 2 [(0, .int p0)] := hl
  have l2 : ∀ (n2 : Nat) (v1 : Int32), fX6_isLetterOfRule_L2 p0 n2 v1 = some o → ∀ ls : Array Slot, lv_has ls 2 [(0, .int p0), (1, .int v1)] → W p l e roX6_isLetterOfRule s m args below meth c s.heap [] 0 0 Q (F0 m 2 ls []) := by
    intro n2
    induction n2 with
    | zero =>
      intro v1 hF
      rw [fX6_isLetterOfRule_L2] at hF
      cases hF
    | succ n2 ih2 =>
      intro v1 hF ls hl
      rw [fX6_isLetterOfRule_L2] at hF
      refine lv_iload_n hx hb dX6_isLetterOfRule_2 rfl (lv_at hl 1 rfl) ?_
      refine va_getsN hx hb hZ.2.1.1 hS hown (va_Nw.use rfl hZ.1.2.2.2.1) (fun _ h9 => h9) dX6_isLetterOfRule_3 ?_
      refine va_tlen (v := 6) hx hb hZ.2.1.2 hS rfl dX6_isLetterOfRule_6 ?_
      refine lv_icmp_ge (tgt := 27) hx hb dX6_isLetterOfRule_7 (by decide) (fun c_1 => ?_) (fun c_1 => ?_)
      · have hF := zt c_1 hF
        refine lv_iconst (v := 0) hx hb dX6_isLetterOfRule_27 (by decide) ?_
        obtain rfl := Option.some.inj hF
        exact hret _ _ (zbool (Or.inl rfl)) dX6_isLetterOfRule_28
      · have hF := zf c_1 hF
        refine va_getsN hx hb hZ.2.1.1 hS hown (va_Nw.use rfl hZ.1.2.2.2.1) (fun _ h9 => h9) dX6_isLetterOfRule_10 ?_
        refine lv_iload_n hx hb dX6_isLetterOfRule_13 rfl (lv_at hl 1 rfl) ?_
        obtain ⟨h_2, hF⟩ := zgi hF
        refine va_tc hx hb hZ.2.1.2 hS h_2 rfl dX6_isLetterOfRule_14 ?_
        refine lv_iload_n hx hb dX6_isLetterOfRule_15 rfl (lv_at hl 0 rfl) ?_
        refine lv_icmp_ne (tgt := 21) hx hb dX6_isLetterOfRule_16 (by decide) (fun c_3 => ?_) (fun c_3 => ?_)
        · have hF := zf c_3 hF
          refine z_iinc (kv := 1) hx hb 1 dX6_isLetterOfRule_21 hl rfl (by decide) (by decide) (fun g => [(1, .int g), (0, .int p0)]) (fun _ => rfl) hF (fun v1_4 ls hF hl => ?_)
          refine lv_goto (tgt := 2) hx hb dX6_isLetterOfRule_24 (by decide) ?_
          exact ih2 v1_4 hF ls (lv_sub hl [1, 0] rfl)
        · have hF := zt c_3 hF
          refine lv_iconst (v := 1) hx hb dX6_isLetterOfRule_19 (by decide) ?_
          obtain rfl := Option.some.inj hF
          exact hret _ _ (zbool (Or.inr rfl)) dX6_isLetterOfRule_20
  unfold fX6_isLetterOfRule at hF
  refine lv_iconst (v := 0) hx hb dX6_isLetterOfRule_0 (by decide) ?_
  refine lv_istore_n (lv' := [(1, .int 0), (0, .int p0)]) hx hb dX6_isLetterOfRule_1 rfl hl (by decide) rfl (fun ls hl => ?_)
  exact l2 fuel 0 hF ls (lv_sub hl [1, 0] rfl)
abbrev roX6_digitsBehind : Room := { frames := 0, cells := 0, slots := 0, locals := 0 }
set_option maxHeartbeats 4000000 in
set_option maxRecDepth 100000 in
theorem kX6_digitsBehind (l : Launch) (D : va_G) (ca : Nat → ClassId) (t : Nat → Nat) (p0 : Int32) (fuel : Nat) (o : Int32) (hF : fX6_digitsBehind fuel p0 = some o) : zRi l D (zT ca) t yX6_digitsBehind (.code yX6_digitsBehind cX6_digitsBehind 1 (some .int) :: zW) roX6_digitsBehind [.int p0] [] o := by
  refine zRi_of (cc := cX6_digitsBehind) (maxL := 1) (by decide) rfl (Nat.le_of_ble_eq_true rfl) ?_
  intro p e s m args below meth c A Q ls ⟨hx, hb, hml, hown, hts, hA, hK, hZ, hS⟩ hret hP hD hl
  have hts := fun w h => hts w (List.mem_cons_of_mem _ h)
  have hown : s.vm.findClass RX6 = some m.cls := hown
  have hl : lv_has ls 1 [(0, .int p0)] := hl
  unfold fX6_digitsBehind at hF
  refine lv_iload_n hx hb dX6_digitsBehind_0 rfl (lv_at hl 0 rfl) ?_
  by_cases c_1 : p0 = 98
  · have hF := zt c_1 hF
    refine lv_tableIn (tgt := 68) (off := 67) hx hb dX6_digitsBehind_1 (by rw [c_1]; decide) (by rw [c_1]; decide) (by rw [c_1]; rfl) (by decide) ?_
    refine lv_iconst (v := 1) hx hb dX6_digitsBehind_68 (by decide) ?_
    obtain rfl := Option.some.inj hF
    exact hret _ _ rfl dX6_digitsBehind_69
  · have hF := zf c_1 hF
    by_cases c_2 : p0 = 99
    · have hF := zt c_2 hF
      refine lv_tableIn (tgt := 70) (off := 69) hx hb dX6_digitsBehind_1 (by rw [c_2]; decide) (by rw [c_2]; decide) (by rw [c_2]; rfl) (by decide) ?_
      refine lv_iconst (v := 0) hx hb dX6_digitsBehind_70 (by decide) ?_
      obtain rfl := Option.some.inj hF
      exact hret _ _ rfl dX6_digitsBehind_71
    · have hF := zf c_2 hF
      by_cases c_3 : p0 = 100
      · have hF := zt c_3 hF
        refine lv_tableIn (tgt := 70) (off := 69) hx hb dX6_digitsBehind_1 (by rw [c_3]; decide) (by rw [c_3]; decide) (by rw [c_3]; rfl) (by decide) ?_
        refine lv_iconst (v := 0) hx hb dX6_digitsBehind_70 (by decide) ?_
        obtain rfl := Option.some.inj hF
        exact hret _ _ rfl dX6_digitsBehind_71
      · have hF := zf c_3 hF
        by_cases c_4 : p0 = 101
        · have hF := zt c_4 hF
          refine lv_tableIn (tgt := 70) (off := 69) hx hb dX6_digitsBehind_1 (by rw [c_4]; decide) (by rw [c_4]; decide) (by rw [c_4]; rfl) (by decide) ?_
          refine lv_iconst (v := 0) hx hb dX6_digitsBehind_70 (by decide) ?_
          obtain rfl := Option.some.inj hF
          exact hret _ _ rfl dX6_digitsBehind_71
        · have hF := zf c_4 hF
          by_cases c_5 : p0 = 102
          · have hF := zt c_5 hF
            refine lv_tableIn (tgt := 70) (off := 69) hx hb dX6_digitsBehind_1 (by rw [c_5]; decide) (by rw [c_5]; decide) (by rw [c_5]; rfl) (by decide) ?_
            refine lv_iconst (v := 0) hx hb dX6_digitsBehind_70 (by decide) ?_
            obtain rfl := Option.some.inj hF
            exact hret _ _ rfl dX6_digitsBehind_71
          · have hF := zf c_5 hF
            by_cases c_6 : p0 = 103
            · have hF := zt c_6 hF
              refine lv_tableIn (tgt := 64) (off := 63) hx hb dX6_digitsBehind_1 (by rw [c_6]; decide) (by rw [c_6]; decide) (by rw [c_6]; rfl) (by decide) ?_
              refine lv_iconst (v := 4) hx hb dX6_digitsBehind_64 (by decide) ?_
              obtain rfl := Option.some.inj hF
              exact hret _ _ rfl dX6_digitsBehind_65
            · have hF := zf c_6 hF
              by_cases c_7 : p0 = 104
              · have hF := zt c_7 hF
                refine lv_tableIn (tgt := 66) (off := 65) hx hb dX6_digitsBehind_1 (by rw [c_7]; decide) (by rw [c_7]; decide) (by rw [c_7]; rfl) (by decide) ?_
                refine lv_iconst (v := 2) hx hb dX6_digitsBehind_66 (by decide) ?_
                obtain rfl := Option.some.inj hF
                exact hret _ _ rfl dX6_digitsBehind_67
              · have hF := zf c_7 hF
                by_cases c_8 : p0 = 105
                · have hF := zt c_8 hF
                  refine lv_tableIn (tgt := 70) (off := 69) hx hb dX6_digitsBehind_1 (by rw [c_8]; decide) (by rw [c_8]; decide) (by rw [c_8]; rfl) (by decide) ?_
                  refine lv_iconst (v := 0) hx hb dX6_digitsBehind_70 (by decide) ?_
                  obtain rfl := Option.some.inj hF
                  exact hret _ _ rfl dX6_digitsBehind_71
                · have hF := zf c_8 hF
                  by_cases c_9 : p0 = 106
                  · have hF := zt c_9 hF
                    refine lv_tableIn (tgt := 70) (off := 69) hx hb dX6_digitsBehind_1 (by rw [c_9]; decide) (by rw [c_9]; decide) (by rw [c_9]; rfl) (by decide) ?_
                    refine lv_iconst (v := 0) hx hb dX6_digitsBehind_70 (by decide) ?_
                    obtain rfl := Option.some.inj hF
                    exact hret _ _ rfl dX6_digitsBehind_71
                  · have hF := zf c_9 hF
                    by_cases c_10 : p0 = 107
                    · have hF := zt c_10 hF
                      refine lv_tableIn (tgt := 68) (off := 67) hx hb dX6_digitsBehind_1 (by rw [c_10]; decide) (by rw [c_10]; decide) (by rw [c_10]; rfl) (by decide) ?_
                      refine lv_iconst (v := 1) hx hb dX6_digitsBehind_68 (by decide) ?_
                      obtain rfl := Option.some.inj hF
                      exact hret _ _ rfl dX6_digitsBehind_69
                    · have hF := zf c_10 hF
                      by_cases c_11 : p0 = 108
                      · have hF := zt c_11 hF
                        refine lv_tableIn (tgt := 70) (off := 69) hx hb dX6_digitsBehind_1 (by rw [c_11]; decide) (by rw [c_11]; decide) (by rw [c_11]; rfl) (by decide) ?_
                        refine lv_iconst (v := 0) hx hb dX6_digitsBehind_70 (by decide) ?_
                        obtain rfl := Option.some.inj hF
                        exact hret _ _ rfl dX6_digitsBehind_71
                      · have hF := zf c_11 hF
                        by_cases c_12 : p0 = 109
                        · have hF := zt c_12 hF
                          refine lv_tableIn (tgt := 68) (off := 67) hx hb dX6_digitsBehind_1 (by rw [c_12]; decide) (by rw [c_12]; decide) (by rw [c_12]; rfl) (by decide) ?_
                          refine lv_iconst (v := 1) hx hb dX6_digitsBehind_68 (by decide) ?_
                          obtain rfl := Option.some.inj hF
                          exact hret _ _ rfl dX6_digitsBehind_69
                        · have hF := zf c_12 hF
                          refine lv_tableOut (tgt := 70) hx hb dX6_digitsBehind_1 (ztab (lo := 98) (hi := 109) (fun k h1 h2 => by rcases (show k = 98 ∨ k = 99 ∨ k = 100 ∨ k = 101 ∨ k = 102 ∨ k = 103 ∨ k = 104 ∨ k = 105 ∨ k = 106 ∨ k = 107 ∨ k = 108 ∨ k = 109 by omega) with rfl | rfl | rfl | rfl | rfl | rfl | rfl | rfl | rfl | rfl | rfl | rfl <;> first | exact c_1 | exact c_2 | exact c_3 | exact c_4 | exact c_5 | exact c_6 | exact c_7 | exact c_8 | exact c_9 | exact c_10 | exact c_11 | exact c_12)) (by decide) ?_
                          refine lv_iconst (v := 0) hx hb dX6_digitsBehind_70 (by decide) ?_
                          obtain rfl := Option.some.inj hF
                          exact hret _ _ rfl dX6_digitsBehind_71
abbrev roX6_isDigit : Room := { frames := 0, cells := 0, slots := 0, locals := 0 }
set_option maxHeartbeats 4000000 in
set_option maxRecDepth 100000 in
theorem kX6_isDigit (l : Launch) (D : va_G) (ca : Nat → ClassId) (t : Nat → Nat) (p0 : Int32) (fuel : Nat) (o : Int32) (hF : fX6_isDigit fuel p0 = some o) : zRi l D (zT ca) t yX6_isDigit (.code yX6_isDigit cX6_isDigit 1 (some .boolean) :: zW) roX6_isDigit [.int p0] [] o := by
  refine zRi_of (cc := cX6_isDigit) (maxL := 1) (by decide) rfl (Nat.le_of_ble_eq_true rfl) ?_
  intro p e s m args below meth c A Q ls ⟨hx, hb, hml, hown, hts, hA, hK, hZ, hS⟩ hret hP hD hl
  have hts := fun w h => hts w (List.mem_cons_of_mem _ h)
  have hown : s.vm.findClass RX6 = some m.cls := hown
  have hl : lv_has ls 1 [(0, .int p0)] := hl
  unfold fX6_isDigit at hF
  refine lv_iload_n hx hb dX6_isDigit_0 rfl (lv_at hl 0 rfl) ?_
  refine lv_bipush (v := 48) hx hb dX6_isDigit_1 (by decide) ?_
  refine lv_icmp_lt (tgt := 16) hx hb dX6_isDigit_3 (by decide) (fun c_1 => ?_) (fun c_1 => ?_)
  · have hF := zt c_1 hF
    refine lv_iconst (v := 0) hx hb dX6_isDigit_16 (by decide) ?_
    obtain rfl := Option.some.inj hF
    exact hret _ _ (zbool (Or.inl rfl)) dX6_isDigit_17
  · have hF := zf c_1 hF
    refine lv_iload_n hx hb dX6_isDigit_6 rfl (lv_at hl 0 rfl) ?_
    refine lv_bipush (v := 57) hx hb dX6_isDigit_7 (by decide) ?_
    refine lv_icmp_gt (tgt := 16) hx hb dX6_isDigit_9 (by decide) (fun c_2 => ?_) (fun c_2 => ?_)
    · have hF := zt c_2 hF
      refine lv_iconst (v := 0) hx hb dX6_isDigit_16 (by decide) ?_
      obtain rfl := Option.some.inj hF
      exact hret _ _ (zbool (Or.inl rfl)) dX6_isDigit_17
    · have hF := zf c_2 hF
      refine lv_iconst (v := 1) hx hb dX6_isDigit_12 (by decide) ?_
      refine lv_goto (tgt := 17) hx hb dX6_isDigit_13 (by decide) ?_
      obtain rfl := Option.some.inj hF
      exact hret _ _ (zbool (Or.inr rfl)) dX6_isDigit_17
theorem zds_X5_allows : yX5_allows.cls ≠ "java/lang/invoke/MethodHandle" ∧ yX5_allows.cls ≠ "java/lang/invoke/VarHandle" ∧ (parseMethodDescriptor yX5_allows.desc).map (fun d => d.parameters.length) = some 2 := by decide +kernel
abbrev roX6_settles : Room := { frames := 1, cells := 0, slots := 0, locals := 21 }
set_option maxHeartbeats 4000000 in
set_option maxRecDepth 100000 in
theorem kX6_settles (l : Launch) (D : va_G) (ca : Nat → ClassId) (t : Nat → Nat) (ad_r : Nat → Nat) (r_guests : Int32) (r_kinds : Nat → Int32) (r_figures : Nat → Int32) (r_minutes : Nat → Int32) (r_settings : Nat → Int32) (r_hooks : Int32) (r_letters : Nat → Int32) (r_letterCount : Int32) (p1 : Int32) (p2 : Int32) (fuel : Nat) (o : Int32 × (Nat → Int32)) (hF : fX6_settles fuel r_settings p1 p2 = some o) : zMi l D (zT ca) t yX6_settles (.code yX6_settles cX6_settles 3 (some .boolean) :: zW) roX6_settles [.ref (ad_r 0), .int p1, .int p2] (wX6_r ca ad_r r_guests r_kinds r_figures r_minutes r_settings r_hooks r_letters r_letterCount) (wX6_r ca ad_r r_guests r_kinds r_figures r_minutes o.2 r_hooks r_letters r_letterCount) o.1 := by
  refine zMi_of (cc := cX6_settles) (maxL := 3) (by decide) rfl (Nat.le_of_ble_eq_true rfl) ?_
  intro p e s m args below meth c A Q ls ⟨hx, hb, hml, hown, hts, hA, hK, hZ, hS⟩ hret hP hD hl
  have hts := fun w h => hts w (List.mem_cons_of_mem _ h)
  have hown : s.vm.findClass RX6 = some m.cls := hown
  have hl : lv_has ls 3 [(0, .ref (ad_r 0)), (1, .int p1), (2, .int p2)] := hl
  have hin5 := zin_X5
  unfold fX6_settles at hF
  refine lv_iload_n hx hb dX6_settles_0 rfl (lv_at hl 1 rfl) ?_
  refine lv_iload_n hx hb dX6_settles_1 rfl (lv_at hl 2 rfl) ?_
  obtain ⟨o_1, hc_1, hF⟩ := zb hF
  refine zcSR (rest := []) (kX5_allows l D ca t p1 p2 fuel _ hc_1) ⟨hx, hb, hml, hown, hts⟩ (zcwS hts zm_410 zm_409 zm_387 zm_408 rfl rfl zds_X5_allows ⟨Nat.le_of_ble_eq_true rfl, Nat.le_of_ble_eq_true rfl⟩) hA hK hZ hP hD hS [] rfl rfl rfl hl.1 (Nat.le_of_ble_eq_true rfl) dX6_settles_2 rfl ?_
  refine lv_if_ne (tgt := 10) hx hb dX6_settles_5 (by decide) (fun c_2 => ?_) (fun c_2 => ?_)
  · have hF := zf c_2 hF
    refine lv_aload_n hx hb dX6_settles_10 rfl (lv_at hl 0 rfl) ?_
    refine va_get (D := D) (ci := 3) (v := .ref (ad_r 4)) (C := RX5) (T := TX5) (N := 8) hx hb hts hin5 hown hK hP 0 rfl rfl 4 (by decide) (hts _ zm_411) (fun _ h9 => h9) rfl dX6_settles_11 ?_
    refine lv_iload_n hx hb dX6_settles_14 rfl (lv_at hl 1 rfl) ?_
    refine lv_iload_n hx hb dX6_settles_15 rfl (lv_at hl 2 rfl) ?_
    obtain ⟨h_3, hF⟩ := zgi hF
    refine z_iast hx hb hK hP hD hS 4 0 rfl rfl h_3 dX6_settles_16 (fun g => (wX6_r ca ad_r r_guests r_kinds r_figures r_minutes g r_hooks r_letters r_letterCount)) (fun _ => rfl) hF (fun r_settings_4 H locs hF hP hD hS => ?_)
    refine lv_iconst (v := 1) hx hb dX6_settles_17 (by decide) ?_
    obtain rfl := Option.some.inj hF
    exact hret _ _ _ _ hP hD hS (zbool (Or.inr rfl)) dX6_settles_18
  · have hF := zt c_2 hF
    refine lv_iconst (v := 0) hx hb dX6_settles_8 (by decide) ?_
    obtain rfl := Option.some.inj hF
    exact hret _ _ _ _ hP hD hS (zbool (Or.inl rfl)) dX6_settles_9
theorem zds_X6_isLetterOfRule : yX6_isLetterOfRule.cls ≠ "java/lang/invoke/MethodHandle" ∧ yX6_isLetterOfRule.cls ≠ "java/lang/invoke/VarHandle" ∧ (parseMethodDescriptor yX6_isLetterOfRule.desc).map (fun d => d.parameters.length) = some 1 := by decide +kernel
abbrev roX6_lettersBehind : Room := { frames := 2, cells := 0, slots := 0, locals := 42 }
set_option maxHeartbeats 4000000 in
set_option maxRecDepth 100000 in
theorem kX6_lettersBehind (l : Launch) (D : va_G) (ca : Nat → ClassId) (t : Nat → Nat) (ad_s : Nat → Nat) (s_holds : Nat → Int32) (s_kind : Nat → Int32) (s_figure : Nat → Int32) (s_sort : Nat → Int32) (s_size : Nat → Int32) (s_el : Nat → Nat → Int32) (si : Nat) (hsi : si < 8) (p1 : Int32) (fuel : Nat) (o : Int32) (hF : fX6_lettersBehind fuel s_size s_el si p1 = some o) : zRi l D (zT ca) t yX6_lettersBehind (.code yX6_lettersBehind cX6_lettersBehind 3 (some .int) :: zW) roX6_lettersBehind [.ref (ad_s (2 * si)), .int p1] (wX6_s ca ad_s s_holds s_kind s_figure s_sort s_size s_el) o := by
  refine zRi_of (cc := cX6_lettersBehind) (maxL := 3) (by decide) rfl (Nat.le_of_ble_eq_true rfl) ?_
  intro p e s m args below meth c A Q ls ⟨hx, hb, hml, hown, hts, hA, hK, hZ, hS⟩ hret hP hD hl
  have hts := fun w h => hts w (List.mem_cons_of_mem _ h)
  have hown : s.vm.findClass RX6 = some m.cls := hown
  have hl : lv_has ls 3 [(0, .ref (ad_s (2 * si))), (1, .int p1)] := hl
  have l2 : ∀ (n2 : Nat) (v2 : Int32), fX6_lettersBehind_L2 fuel s_size s_el si p1 n2 v2 = some o → ∀ ls : Array Slot, lv_has ls 3 [(0, .ref (ad_s (2 * si))), (1, .int p1), (2, .int v2)] → W p l e roX6_lettersBehind s m args below meth c s.heap [] 0 0 Q (F0 m 2 ls []) := by
    intro n2
    induction n2 with
    | zero =>
      intro v2 hF
      rw [fX6_lettersBehind_L2] at hF
      cases hF
    | succ n2 ih2 =>
      intro v2 hF ls hl
      rw [fX6_lettersBehind_L2] at hF
      refine lv_iload_n hx hb dX6_lettersBehind_2 rfl (lv_at hl 2 rfl) ?_
      refine lv_bipush (v := 6) hx hb dX6_lettersBehind_3 (by decide) ?_
      refine lv_icmp_ge (tgt := 29) hx hb dX6_lettersBehind_5 (by decide) (fun c_1 => ?_) (fun c_1 => ?_)
      · have hF := zt c_1 hF
        refine lv_iload_n hx hb dX6_lettersBehind_29 rfl (lv_at hl 2 rfl) ?_
        obtain rfl := Option.some.inj hF
        exact hret _ _ rfl dX6_lettersBehind_30
      · have hF := zf c_1 hF
        refine lv_aload_n hx hb dX6_lettersBehind_8 rfl (lv_at hl 0 rfl) ?_
        refine lv_iload_n hx hb dX6_lettersBehind_9 rfl (lv_at hl 1 rfl) ?_
        refine lv_iconst (v := 1) hx hb dX6_lettersBehind_10 (by decide) ?_
        refine lv_iadd hx hb dX6_lettersBehind_11 ?_
        refine lv_iload_n hx hb dX6_lettersBehind_12 rfl (lv_at hl 2 rfl) ?_
        refine lv_iadd hx hb dX6_lettersBehind_13 ?_
        obtain ⟨o_2, hc_2, hF⟩ := zb hF
        refine zcVR (rest := []) (kX7_signAt l D ca t ad_s s_holds s_kind s_figure s_sort s_size s_el si hsi (((p1 + 1) + v2)) fuel _ hc_2) ⟨hx, hb, hml, hown, hts⟩ (zcwV hts zm_593 zm_591 zm_592 zm_422 zm_589 rfl rfl zdv_X7_signAt ⟨Nat.le_of_ble_eq_true rfl, Nat.le_of_ble_eq_true rfl⟩) hA hK hZ hP hD hS [0, 1, 2, 3, 4, 5, 6, 7, 8, 9, 10, 11, 12, 13, 14, 15] rfl rfl 4 (2 * si) rfl (zsh_at si hsi) rfl hl.1 (Nat.le_of_ble_eq_true rfl) dX6_lettersBehind_14 rfl ?_
        obtain ⟨o_3, hc_3, hF⟩ := zb hF
        refine zcSR (rest := []) (kX6_isLetterOfRule l D ca t o_2 fuel _ hc_3) ⟨hx, hb, hml, hown, hts⟩ (zcwS hts zm_597 zm_595 zm_596 zm_594 rfl rfl zds_X6_isLetterOfRule ⟨Nat.le_of_ble_eq_true rfl, Nat.le_of_ble_eq_true rfl⟩) hA hK hZ hP hD hS [] rfl rfl rfl hl.1 (Nat.le_of_ble_eq_true rfl) dX6_lettersBehind_17 rfl ?_
        refine lv_if_eq (tgt := 29) hx hb dX6_lettersBehind_20 (by decide) (fun c_4 => ?_) (fun c_4 => ?_)
        · have hF := zt c_4 hF
          refine lv_iload_n hx hb dX6_lettersBehind_29 rfl (lv_at hl 2 rfl) ?_
          obtain rfl := Option.some.inj hF
          exact hret _ _ rfl dX6_lettersBehind_30
        · have hF := zf c_4 hF
          refine z_iinc (kv := 1) hx hb 2 dX6_lettersBehind_23 hl rfl (by decide) (by decide) (fun g => [(2, .int g), (0, .ref (ad_s (2 * si))), (1, .int p1)]) (fun _ => rfl) hF (fun v2_5 ls hF hl => ?_)
          refine lv_goto (tgt := 2) hx hb dX6_lettersBehind_26 (by decide) ?_
          exact ih2 v2_5 hF ls (lv_sub hl [1, 2, 0] rfl)
  unfold fX6_lettersBehind at hF
  refine lv_iconst (v := 0) hx hb dX6_lettersBehind_0 (by decide) ?_
  refine lv_istore_n (lv' := [(2, .int 0), (0, .ref (ad_s (2 * si))), (1, .int p1)]) hx hb dX6_lettersBehind_1 rfl hl (by decide) rfl (fun ls hl => ?_)
  exact l2 fuel 0 hF ls (lv_sub hl [1, 2, 0] rfl)
abbrev roX6_digitAt : Room := { frames := 2, cells := 0, slots := 0, locals := 42 }
set_option maxHeartbeats 4000000 in
set_option maxRecDepth 100000 in
theorem kX6_digitAt (l : Launch) (D : va_G) (ca : Nat → ClassId) (t : Nat → Nat) (ad_s : Nat → Nat) (s_holds : Nat → Int32) (s_kind : Nat → Int32) (s_figure : Nat → Int32) (s_sort : Nat → Int32) (s_size : Nat → Int32) (s_el : Nat → Nat → Int32) (si : Nat) (hsi : si < 8) (p1 : Int32) (fuel : Nat) (o : Int32) (hF : fX6_digitAt fuel s_size s_el si p1 = some o) : zRi l D (zT ca) t yX6_digitAt (.code yX6_digitAt cX6_digitAt 2 (some .int) :: zW) roX6_digitAt [.ref (ad_s (2 * si)), .int p1] (wX6_s ca ad_s s_holds s_kind s_figure s_sort s_size s_el) o := by
  refine zRi_of (cc := cX6_digitAt) (maxL := 2) (by decide) rfl (Nat.le_of_ble_eq_true rfl) ?_
  intro p e s m args below meth c A Q ls ⟨hx, hb, hml, hown, hts, hA, hK, hZ, hS⟩ hret hP hD hl
  have hts := fun w h => hts w (List.mem_cons_of_mem _ h)
  have hown : s.vm.findClass RX6 = some m.cls := hown
  have hl : lv_has ls 2 [(0, .ref (ad_s (2 * si))), (1, .int p1)] := hl
  unfold fX6_digitAt at hF
  refine lv_aload_n hx hb dX6_digitAt_0 rfl (lv_at hl 0 rfl) ?_
  refine lv_iload_n hx hb dX6_digitAt_1 rfl (lv_at hl 1 rfl) ?_
  obtain ⟨o_1, hc_1, hF⟩ := zb hF
  refine zcVR (rest := []) (kX7_signAt l D ca t ad_s s_holds s_kind s_figure s_sort s_size s_el si hsi p1 fuel _ hc_1) ⟨hx, hb, hml, hown, hts⟩ (zcwV hts zm_593 zm_591 zm_592 zm_422 zm_589 rfl rfl zdv_X7_signAt ⟨Nat.le_of_ble_eq_true rfl, Nat.le_of_ble_eq_true rfl⟩) hA hK hZ hP hD hS [0, 1, 2, 3, 4, 5, 6, 7, 8, 9, 10, 11, 12, 13, 14, 15] rfl rfl 4 (2 * si) rfl (zsh_at si hsi) rfl hl.1 (Nat.le_of_ble_eq_true rfl) dX6_digitAt_2 rfl ?_
  refine lv_bipush (v := 48) hx hb dX6_digitAt_5 (by decide) ?_
  refine lv_isub hx hb dX6_digitAt_7 ?_
  obtain rfl := Option.some.inj hF
  exact hret _ _ rfl dX6_digitAt_8
theorem zdv_X5_welcome : yX5_welcome.cls = RX5 ∧ yX5_welcome.cls ≠ "java/lang/invoke/MethodHandle" ∧ yX5_welcome.cls ≠ "java/lang/invoke/VarHandle" ∧ (parseMethodDescriptor yX5_welcome.desc).map (fun d => d.parameters.length) = some 3 := by decide +kernel
theorem zds_X6_digitAt : yX6_digitAt.cls ≠ "java/lang/invoke/MethodHandle" ∧ yX6_digitAt.cls ≠ "java/lang/invoke/VarHandle" ∧ (parseMethodDescriptor yX6_digitAt.desc).map (fun d => d.parameters.length) = some 2 := by decide +kernel
abbrev roX6_isWelcome : Room := { frames := 3, cells := 0, slots := 0, locals := 63 }
set_option maxHeartbeats 4000000 in
set_option maxRecDepth 100000 in
theorem kX6_isWelcome (l : Launch) (D : va_G) (ca : Nat → ClassId) (t : Nat → Nat) (ad_s : Nat → Nat) (ad_r : Nat → Nat) (s_holds : Nat → Int32) (s_kind : Nat → Int32) (s_figure : Nat → Int32) (s_sort : Nat → Int32) (s_size : Nat → Int32) (s_el : Nat → Nat → Int32) (r_guests : Int32) (r_kinds : Nat → Int32) (r_figures : Nat → Int32) (r_minutes : Nat → Int32) (r_settings : Nat → Int32) (r_hooks : Int32) (r_letters : Nat → Int32) (r_letterCount : Int32) (si : Nat) (hsi : si < 8) (p1 : Int32) (fuel : Nat) (o : Int32 × Int32 × (Nat → Int32) × (Nat → Int32) × (Nat → Int32)) (hF : fX6_isWelcome fuel s_size s_el r_guests r_kinds r_figures r_minutes si p1 = some o) : zMi l D (zT ca) t yX6_isWelcome (.code yX6_isWelcome cX6_isWelcome 5 (some .boolean) :: zW) roX6_isWelcome [.ref (ad_s (2 * si)), .int p1, .ref (ad_r 0)] (wX6_sr ca ad_s ad_r s_holds s_kind s_figure s_sort s_size s_el r_guests r_kinds r_figures r_minutes r_settings r_hooks r_letters r_letterCount) (wX6_sr ca ad_s ad_r s_holds s_kind s_figure s_sort s_size s_el o.2.1 o.2.2.1 o.2.2.2.1 o.2.2.2.2 r_settings r_hooks r_letters r_letterCount) o.1 := by
  refine zMi_of (cc := cX6_isWelcome) (maxL := 5) (by decide) rfl (Nat.le_of_ble_eq_true rfl) ?_
  intro p e s m args below meth c A Q ls ⟨hx, hb, hml, hown, hts, hA, hK, hZ, hS⟩ hret hP hD hl
  have hts := fun w h => hts w (List.mem_cons_of_mem _ h)
  have hown : s.vm.findClass RX6 = some m.cls := hown
  have hl : lv_has ls 5 [(0, .ref (ad_s (2 * si))), (1, .int p1), (2, .ref (ad_r 0))] := hl
  unfold fX6_isWelcome at hF
  refine lv_bipush (v := 10) hx hb dX6_isWelcome_0 (by decide) ?_
  refine lv_aload_n hx hb dX6_isWelcome_2 rfl (lv_at hl 0 rfl) ?_
  refine lv_iload_n hx hb dX6_isWelcome_3 rfl (lv_at hl 1 rfl) ?_
  refine lv_iconst (v := 3) hx hb dX6_isWelcome_4 (by decide) ?_
  refine lv_iadd hx hb dX6_isWelcome_5 ?_
  obtain ⟨o_1, hc_1, hF⟩ := zb hF
  refine zcSR (rest := [.int 10]) (kX6_digitAt l D ca t ad_s s_holds s_kind s_figure s_sort s_size s_el si hsi (p1 + 3) fuel _ hc_1) ⟨hx, hb, hml, hown, hts⟩ (zcwS hts zm_600 zm_599 zm_596 zm_598 rfl rfl zds_X6_digitAt ⟨Nat.le_of_ble_eq_true rfl, Nat.le_of_ble_eq_true rfl⟩) hA hK hZ hP hD hS [0, 1, 2, 3, 4, 5, 6, 7, 8, 9, 10, 11, 12, 13, 14, 15] rfl rfl rfl hl.1 (Nat.le_of_ble_eq_true rfl) dX6_isWelcome_6 rfl ?_
  refine lv_imul hx hb dX6_isWelcome_9 ?_
  refine lv_aload_n hx hb dX6_isWelcome_10 rfl (lv_at hl 0 rfl) ?_
  refine lv_iload_n hx hb dX6_isWelcome_11 rfl (lv_at hl 1 rfl) ?_
  refine lv_iconst (v := 4) hx hb dX6_isWelcome_12 (by decide) ?_
  refine lv_iadd hx hb dX6_isWelcome_13 ?_
  obtain ⟨o_2, hc_2, hF⟩ := zb hF
  refine zcSR (rest := [.int (10 * o_1)]) (kX6_digitAt l D ca t ad_s s_holds s_kind s_figure s_sort s_size s_el si hsi (p1 + 4) fuel _ hc_2) ⟨hx, hb, hml, hown, hts⟩ (zcwS hts zm_600 zm_599 zm_596 zm_598 rfl rfl zds_X6_digitAt ⟨Nat.le_of_ble_eq_true rfl, Nat.le_of_ble_eq_true rfl⟩) hA hK hZ hP hD hS [0, 1, 2, 3, 4, 5, 6, 7, 8, 9, 10, 11, 12, 13, 14, 15] rfl rfl rfl hl.1 (Nat.le_of_ble_eq_true rfl) dX6_isWelcome_14 rfl ?_
  refine lv_iadd hx hb dX6_isWelcome_17 ?_
  refine z_let hF (fun v3_3 hF => ?_)
  refine lv_istore_n (lv' := [(3, .int v3_3), (0, .ref (ad_s (2 * si))), (1, .int p1), (2, .ref (ad_r 0))]) hx hb dX6_isWelcome_18 rfl hl (by decide) rfl (fun ls hl => ?_)
  refine lv_aload_n hx hb dX6_isWelcome_19 rfl (lv_at hl 3 rfl) ?_
  refine lv_aload_n hx hb dX6_isWelcome_20 rfl (lv_at hl 1 rfl) ?_
  refine lv_iload_n hx hb dX6_isWelcome_21 rfl (lv_at hl 2 rfl) ?_
  refine lv_iconst (v := 1) hx hb dX6_isWelcome_22 (by decide) ?_
  refine lv_iadd hx hb dX6_isWelcome_23 ?_
  obtain ⟨o_4, hc_4, hF⟩ := zb hF
  refine zcSR (rest := [.ref (ad_r 0)]) (kX6_digitAt l D ca t ad_s s_holds s_kind s_figure s_sort s_size s_el si hsi (p1 + 1) fuel _ hc_4) ⟨hx, hb, hml, hown, hts⟩ (zcwS hts zm_600 zm_599 zm_596 zm_598 rfl rfl zds_X6_digitAt ⟨Nat.le_of_ble_eq_true rfl, Nat.le_of_ble_eq_true rfl⟩) hA hK hZ hP hD hS [0, 1, 2, 3, 4, 5, 6, 7, 8, 9, 10, 11, 12, 13, 14, 15] rfl rfl rfl hl.1 (Nat.le_of_ble_eq_true rfl) dX6_isWelcome_24 rfl ?_
  refine lv_aload_n hx hb dX6_isWelcome_27 rfl (lv_at hl 1 rfl) ?_
  refine lv_iload_n hx hb dX6_isWelcome_28 rfl (lv_at hl 2 rfl) ?_
  refine lv_iconst (v := 2) hx hb dX6_isWelcome_29 (by decide) ?_
  refine lv_iadd hx hb dX6_isWelcome_30 ?_
  obtain ⟨o_5, hc_5, hF⟩ := zb hF
  refine zcSR (rest := [.int o_4, .ref (ad_r 0)]) (kX6_digitAt l D ca t ad_s s_holds s_kind s_figure s_sort s_size s_el si hsi (p1 + 2) fuel _ hc_5) ⟨hx, hb, hml, hown, hts⟩ (zcwS hts zm_600 zm_599 zm_596 zm_598 rfl rfl zds_X6_digitAt ⟨Nat.le_of_ble_eq_true rfl, Nat.le_of_ble_eq_true rfl⟩) hA hK hZ hP hD hS [0, 1, 2, 3, 4, 5, 6, 7, 8, 9, 10, 11, 12, 13, 14, 15] rfl rfl rfl hl.1 (Nat.le_of_ble_eq_true rfl) dX6_isWelcome_31 rfl ?_
  refine lv_iload_n hx hb dX6_isWelcome_34 rfl (lv_at hl 0 rfl) ?_
  obtain ⟨o_6, hc_6, hF⟩ := zb hF
  refine zcVi (rest := []) (ws' := (wX6_sr ca ad_s ad_r s_holds s_kind s_figure s_sort s_size s_el o_6.2.1 o_6.2.2.1 o_6.2.2.2.1 o_6.2.2.2.2 r_settings r_hooks r_letters r_letterCount)) (kX5_welcome l D ca t ad_r r_guests r_kinds r_figures r_minutes r_settings r_hooks r_letters r_letterCount o_4 o_5 v3_3 fuel _ hc_6) ⟨hx, hb, hml, hown, hts⟩ (zcwV hts zm_601 zm_451 zm_452 zm_387 zm_449 rfl rfl zdv_X5_welcome ⟨Nat.le_of_ble_eq_true rfl, Nat.le_of_ble_eq_true rfl⟩) hA hK hZ hP hD hS [16, 17, 18, 19, 20, 21] [0, 1, 2, 3, 4, 5, 6, 7, 8, 9, 10, 11, 12, 13, 14, 15] [0, 1, 2, 3, 4, 5, 6, 7, 8, 9, 10, 11, 12, 13, 14, 15, 16, 17, 18, 19, 20, 21] rfl rfl rfl rfl rfl rfl rfl 3 16 rfl rfl rfl hl.1 (Nat.le_of_ble_eq_true rfl) dX6_isWelcome_35 rfl (fun H locs hP hD hS => ?_)
  refine lv_istore (lv' := [(4, .int o_6.1), (3, .int v3_3), (0, .ref (ad_s (2 * si))), (1, .int p1), (2, .ref (ad_r 0))]) hx hb dX6_isWelcome_38 hl (by decide) rfl (fun ls hl => ?_)
  refine lv_iload hx hb dX6_isWelcome_40 (lv_at hl 0 rfl) ?_
  refine lv_bipush (v := (-2)) hx hb dX6_isWelcome_42 (by decide) ?_
  refine lv_icmp_eq (tgt := 51) hx hb dX6_isWelcome_44 (by decide) (fun c_7 => ?_) (fun c_7 => ?_)
  · have hF := zt c_7 hF
    refine lv_iconst (v := 0) hx hb dX6_isWelcome_51 (by decide) ?_
    obtain rfl := Option.some.inj hF
    exact hret _ _ _ _ hP hD hS (zbool (Or.inl rfl)) dX6_isWelcome_52
  · have hF := zf c_7 hF
    refine lv_iconst (v := 1) hx hb dX6_isWelcome_47 (by decide) ?_
    refine lv_goto (tgt := 52) hx hb dX6_isWelcome_48 (by decide) ?_
    obtain rfl := Option.some.inj hF
    exact hret _ _ _ _ hP hD hS (zbool (Or.inr rfl)) dX6_isWelcome_52
theorem zds_X6_digitsBehind : yX6_digitsBehind.cls ≠ "java/lang/invoke/MethodHandle" ∧ yX6_digitsBehind.cls ≠ "java/lang/invoke/VarHandle" ∧ (parseMethodDescriptor yX6_digitsBehind.desc).map (fun d => d.parameters.length) = some 1 := by decide +kernel
theorem zds_X6_lettersBehind : yX6_lettersBehind.cls ≠ "java/lang/invoke/MethodHandle" ∧ yX6_lettersBehind.cls ≠ "java/lang/invoke/VarHandle" ∧ (parseMethodDescriptor yX6_lettersBehind.desc).map (fun d => d.parameters.length) = some 2 := by decide +kernel
abbrev roX6_lengthOf : Room := { frames := 3, cells := 0, slots := 0, locals := 64 }
set_option maxHeartbeats 4000000 in
set_option maxRecDepth 100000 in
theorem kX6_lengthOf (l : Launch) (D : va_G) (ca : Nat → ClassId) (t : Nat → Nat) (ad_s : Nat → Nat) (s_holds : Nat → Int32) (s_kind : Nat → Int32) (s_figure : Nat → Int32) (s_sort : Nat → Int32) (s_size : Nat → Int32) (s_el : Nat → Nat → Int32) (si : Nat) (hsi : si < 8) (p1 : Int32) (fuel : Nat) (o : Int32) (hF : fX6_lengthOf fuel s_size s_el si p1 = some o) : zRi l D (zT ca) t yX6_lengthOf (.code yX6_lengthOf cX6_lengthOf 3 (some .int) :: zW) roX6_lengthOf [.ref (ad_s (2 * si)), .int p1] (wX6_s ca ad_s s_holds s_kind s_figure s_sort s_size s_el) o := by
  refine zRi_of (cc := cX6_lengthOf) (maxL := 3) (by decide) rfl (Nat.le_of_ble_eq_true rfl) ?_
  intro p e s m args below meth c A Q ls ⟨hx, hb, hml, hown, hts, hA, hK, hZ, hS⟩ hret hP hD hl
  have hts := fun w h => hts w (List.mem_cons_of_mem _ h)
  have hown : s.vm.findClass RX6 = some m.cls := hown
  have hl : lv_has ls 3 [(0, .ref (ad_s (2 * si))), (1, .int p1)] := hl
  unfold fX6_lengthOf at hF
  refine lv_aload_n hx hb dX6_lengthOf_0 rfl (lv_at hl 0 rfl) ?_
  refine lv_iload_n hx hb dX6_lengthOf_1 rfl (lv_at hl 1 rfl) ?_
  obtain ⟨o_1, hc_1, hF⟩ := zb hF
  refine zcVR (rest := []) (kX7_signAt l D ca t ad_s s_holds s_kind s_figure s_sort s_size s_el si hsi p1 fuel _ hc_1) ⟨hx, hb, hml, hown, hts⟩ (zcwV hts zm_593 zm_591 zm_592 zm_422 zm_589 rfl rfl zdv_X7_signAt ⟨Nat.le_of_ble_eq_true rfl, Nat.le_of_ble_eq_true rfl⟩) hA hK hZ hP hD hS [0, 1, 2, 3, 4, 5, 6, 7, 8, 9, 10, 11, 12, 13, 14, 15] rfl rfl 4 (2 * si) rfl (zsh_at si hsi) rfl hl.1 (Nat.le_of_ble_eq_true rfl) dX6_lengthOf_2 rfl ?_
  refine lv_istore_n (lv' := [(2, .int o_1), (0, .ref (ad_s (2 * si))), (1, .int p1)]) hx hb dX6_lengthOf_5 rfl hl (by decide) rfl (fun ls hl => ?_)
  refine lv_iconst (v := 2) hx hb dX6_lengthOf_6 (by decide) ?_
  refine lv_iload_n hx hb dX6_lengthOf_7 rfl (lv_at hl 0 rfl) ?_
  refine lv_bipush (v := 114) hx hb dX6_lengthOf_8 (by decide) ?_
  refine lv_icmp_ne (tgt := 21) hx hb dX6_lengthOf_10 (by decide) (fun c_2 => ?_) (fun c_2 => ?_)
  · have hF := zf c_2 hF
    refine lv_iload_n hx hb dX6_lengthOf_21 rfl (lv_at hl 0 rfl) ?_
    obtain ⟨o_3, hc_3, hF⟩ := zb hF
    refine zcSR (rest := [.int 2]) (kX6_digitsBehind l D ca t o_1 fuel _ hc_3) ⟨hx, hb, hml, hown, hts⟩ (zcwS hts zm_640 zm_639 zm_596 zm_638 rfl rfl zds_X6_digitsBehind ⟨Nat.le_of_ble_eq_true rfl, Nat.le_of_ble_eq_true rfl⟩) hA hK hZ hP hD hS [] rfl rfl rfl hl.1 (Nat.le_of_ble_eq_true rfl) dX6_lengthOf_22 rfl ?_
    refine lv_iadd hx hb dX6_lengthOf_25 ?_
    obtain rfl := Option.some.inj hF
    exact hret _ _ rfl dX6_lengthOf_26
  · have hF := zt c_2 hF
    refine lv_aload_n hx hb dX6_lengthOf_13 rfl (lv_at hl 1 rfl) ?_
    refine lv_iload_n hx hb dX6_lengthOf_14 rfl (lv_at hl 2 rfl) ?_
    obtain ⟨o_4, hc_4, hF⟩ := zb hF
    refine zcSR (rest := [.int 2]) (kX6_lettersBehind l D ca t ad_s s_holds s_kind s_figure s_sort s_size s_el si hsi p1 fuel _ hc_4) ⟨hx, hb, hml, hown, hts⟩ (zcwS hts zm_643 zm_642 zm_596 zm_641 rfl rfl zds_X6_lettersBehind ⟨Nat.le_of_ble_eq_true rfl, Nat.le_of_ble_eq_true rfl⟩) hA hK hZ hP hD hS [0, 1, 2, 3, 4, 5, 6, 7, 8, 9, 10, 11, 12, 13, 14, 15] rfl rfl rfl hl.1 (Nat.le_of_ble_eq_true rfl) dX6_lengthOf_15 rfl ?_
    refine lv_goto (tgt := 25) hx hb dX6_lengthOf_18 (by decide) ?_
    refine lv_iadd hx hb dX6_lengthOf_25 ?_
    obtain rfl := Option.some.inj hF
    exact hret _ _ rfl dX6_lengthOf_26
theorem zds_X1_isKind : yX1_isKind.cls ≠ "java/lang/invoke/MethodHandle" ∧ yX1_isKind.cls ≠ "java/lang/invoke/VarHandle" ∧ (parseMethodDescriptor yX1_isKind.desc).map (fun d => d.parameters.length) = some 1 := by decide +kernel
theorem zdv_X5_hasGuest : yX5_hasGuest.cls = RX5 ∧ yX5_hasGuest.cls ≠ "java/lang/invoke/MethodHandle" ∧ yX5_hasGuest.cls ≠ "java/lang/invoke/VarHandle" ∧ (parseMethodDescriptor yX5_hasGuest.desc).map (fun d => d.parameters.length) = some 1 := by decide +kernel
theorem zdv_X5_takeLetters : yX5_takeLetters.cls = RX5 ∧ yX5_takeLetters.cls ≠ "java/lang/invoke/MethodHandle" ∧ yX5_takeLetters.cls ≠ "java/lang/invoke/VarHandle" ∧ (parseMethodDescriptor yX5_takeLetters.desc).map (fun d => d.parameters.length) = some 3 := by decide +kernel
theorem zdv_X5_toggleHook : yX5_toggleHook.cls = RX5 ∧ yX5_toggleHook.cls ≠ "java/lang/invoke/MethodHandle" ∧ yX5_toggleHook.cls ≠ "java/lang/invoke/VarHandle" ∧ (parseMethodDescriptor yX5_toggleHook.desc).map (fun d => d.parameters.length) = some 1 := by decide +kernel
theorem zds_X6_isWelcome : yX6_isWelcome.cls ≠ "java/lang/invoke/MethodHandle" ∧ yX6_isWelcome.cls ≠ "java/lang/invoke/VarHandle" ∧ (parseMethodDescriptor yX6_isWelcome.desc).map (fun d => d.parameters.length) = some 3 := by decide +kernel
theorem zds_X6_settles : yX6_settles.cls ≠ "java/lang/invoke/MethodHandle" ∧ yX6_settles.cls ≠ "java/lang/invoke/VarHandle" ∧ (parseMethodDescriptor yX6_settles.desc).map (fun d => d.parameters.length) = some 3 := by decide +kernel
abbrev roX6_comesTrue : Room := { frames := 4, cells := 0, slots := 0, locals := 87 }
set_option maxHeartbeats 4000000 in
set_option maxRecDepth 100000 in
theorem kX6_comesTrue (l : Launch) (D : va_G) (ca : Nat → ClassId) (t : Nat → Nat) (ad_s : Nat → Nat) (ad_r : Nat → Nat) (s_holds : Nat → Int32) (s_kind : Nat → Int32) (s_figure : Nat → Int32) (s_sort : Nat → Int32) (s_size : Nat → Int32) (s_el : Nat → Nat → Int32) (r_guests : Int32) (r_kinds : Nat → Int32) (r_figures : Nat → Int32) (r_minutes : Nat → Int32) (r_settings : Nat → Int32) (r_hooks : Int32) (r_letters : Nat → Int32) (r_letterCount : Int32) (si : Nat) (hsi : si < 8) (p1 : Int32) (fuel : Nat) (o : Int32 × Int32 × (Nat → Int32) × (Nat → Int32) × (Nat → Int32) × (Nat → Int32) × Int32 × (Nat → Int32) × Int32) (hF : fX6_comesTrue fuel s_size s_el r_guests r_kinds r_figures r_minutes r_settings r_hooks r_letters r_letterCount si p1 = some o) : zMi l D (zT ca) t yX6_comesTrue (.code yX6_comesTrue cX6_comesTrue 4 (some .boolean) :: zW) roX6_comesTrue [.ref (ad_s (2 * si)), .int p1, .ref (ad_r 0)] (wX6_sr ca ad_s ad_r s_holds s_kind s_figure s_sort s_size s_el r_guests r_kinds r_figures r_minutes r_settings r_hooks r_letters r_letterCount) (wX6_sr ca ad_s ad_r s_holds s_kind s_figure s_sort s_size s_el o.2.1 o.2.2.1 o.2.2.2.1 o.2.2.2.2.1 o.2.2.2.2.2.1 o.2.2.2.2.2.2.1 o.2.2.2.2.2.2.2.1 o.2.2.2.2.2.2.2.2) o.1 := by
  refine zMi_of (cc := cX6_comesTrue) (maxL := 4) (by decide) rfl (Nat.le_of_ble_eq_true rfl) ?_
  intro p e s m args below meth c A Q ls ⟨hx, hb, hml, hown, hts, hA, hK, hZ, hS⟩ hret hP hD hl
  have hts := fun w h => hts w (List.mem_cons_of_mem _ h)
  have hown : s.vm.findClass RX6 = some m.cls := hown
  have hl : lv_has ls 4 [(0, .ref (ad_s (2 * si))), (1, .int p1), (2, .ref (ad_r 0))] := hl
  have j166 : ∀ (r_guests : Int32) (r_kinds : Nat → Int32) (r_figures : Nat → Int32) (r_minutes : Nat → Int32) (r_settings : Nat → Int32) (r_hooks : Int32) (r_letters : Nat → Int32) (r_letterCount : Int32) (H : Heap) (locs : List Loc), fX6_comesTrue_J166 fuel s_size s_el si p1 r_guests r_kinds r_figures r_minutes r_settings r_hooks r_letters r_letterCount = some o → va_P D vwCl (wX6_sr ca ad_s ad_r s_holds s_kind s_figure s_sort s_size s_el r_guests r_kinds r_figures r_minutes r_settings r_hooks r_letters r_letterCount) H → va_D A (wX6_sr ca ad_s ad_r s_holds s_kind s_figure s_sort s_size s_el r_guests r_kinds r_figures r_minutes r_settings r_hooks r_letters r_letterCount) → va_S A s.heap H locs → ∀ ls : Array Slot, lv_has ls 4 [(0, .ref (ad_s (2 * si))), (1, .int p1), (2, .ref (ad_r 0))] → W p l e roX6_comesTrue s m args below meth c H locs 0 0 Q (F0 m 166 ls []) := by
    intro r_guests r_kinds r_figures r_minutes r_settings r_hooks r_letters r_letterCount H locs hF hP hD hS ls hl
    unfold fX6_comesTrue_J166 at hF
    refine lv_aload_n hx hb dX6_comesTrue_166 rfl (lv_at hl 2 rfl) ?_
    refine lv_aload_n hx hb dX6_comesTrue_167 rfl (lv_at hl 0 rfl) ?_
    refine lv_iload_n hx hb dX6_comesTrue_168 rfl (lv_at hl 1 rfl) ?_
    refine lv_iconst (v := 1) hx hb dX6_comesTrue_169 (by decide) ?_
    refine lv_iadd hx hb dX6_comesTrue_170 ?_
    refine lv_aload_n hx hb dX6_comesTrue_171 rfl (lv_at hl 0 rfl) ?_
    refine lv_iload_n hx hb dX6_comesTrue_172 rfl (lv_at hl 1 rfl) ?_
    obtain ⟨o_32, hc_32, hF⟩ := zb hF
    refine zcSR (rest := [.int (p1 + 1), .ref (ad_s (2 * si)), .ref (ad_r 0)]) (kX6_lettersBehind l D ca t ad_s s_holds s_kind s_figure s_sort s_size s_el si hsi p1 fuel _ hc_32) ⟨hx, hb, hml, hown, hts⟩ (zcwS hts zm_643 zm_642 zm_596 zm_641 rfl rfl zds_X6_lettersBehind ⟨Nat.le_of_ble_eq_true rfl, Nat.le_of_ble_eq_true rfl⟩) hA hK hZ hP hD hS [0, 1, 2, 3, 4, 5, 6, 7, 8, 9, 10, 11, 12, 13, 14, 15] rfl rfl rfl hl.1 (Nat.le_of_ble_eq_true rfl) dX6_comesTrue_173 rfl ?_
    obtain ⟨o_33, hc_33, hF⟩ := zb hF
    refine zcVv (rest := []) (ws' := (wX6_sr ca ad_s ad_r s_holds s_kind s_figure s_sort s_size s_el r_guests r_kinds r_figures r_minutes r_settings r_hooks o_33.1 o_33.2)) (kX5_takeLetters l D ca t ad_s ad_r s_holds s_kind s_figure s_sort s_size s_el r_guests r_kinds r_figures r_minutes r_settings r_hooks r_letters r_letterCount si hsi (p1 + 1) o_32 fuel _ hc_33) ⟨hx, hb, hml, hown, hts⟩ (zcwV hts zm_653 zm_616 zm_617 zm_387 zm_614 rfl rfl zdv_X5_takeLetters ⟨Nat.le_of_ble_eq_true rfl, Nat.le_of_ble_eq_true rfl⟩) hA hK hZ hP hD hS [0, 1, 2, 3, 4, 5, 6, 7, 8, 9, 10, 11, 12, 13, 14, 15, 16, 17, 18, 19, 20, 21] [] [0, 1, 2, 3, 4, 5, 6, 7, 8, 9, 10, 11, 12, 13, 14, 15, 16, 17, 18, 19, 20, 21] rfl rfl rfl rfl rfl rfl rfl 3 16 rfl rfl rfl hl.1 (Nat.le_of_ble_eq_true rfl) dX6_comesTrue_176 rfl (fun H locs hP hD hS => ?_)
    refine lv_iconst (v := 1) hx hb dX6_comesTrue_179 (by decide) ?_
    obtain rfl := Option.some.inj hF
    exact hret _ _ _ _ hP hD hS (zbool (Or.inr rfl)) dX6_comesTrue_180
  unfold fX6_comesTrue at hF
  refine lv_aload_n hx hb dX6_comesTrue_0 rfl (lv_at hl 0 rfl) ?_
  refine lv_iload_n hx hb dX6_comesTrue_1 rfl (lv_at hl 1 rfl) ?_
  refine lv_iconst (v := 1) hx hb dX6_comesTrue_2 (by decide) ?_
  refine lv_iadd hx hb dX6_comesTrue_3 ?_
  obtain ⟨o_1, hc_1, hF⟩ := zb hF
  refine zcSR (rest := []) (kX6_digitAt l D ca t ad_s s_holds s_kind s_figure s_sort s_size s_el si hsi (p1 + 1) fuel _ hc_1) ⟨hx, hb, hml, hown, hts⟩ (zcwS hts zm_600 zm_599 zm_596 zm_598 rfl rfl zds_X6_digitAt ⟨Nat.le_of_ble_eq_true rfl, Nat.le_of_ble_eq_true rfl⟩) hA hK hZ hP hD hS [0, 1, 2, 3, 4, 5, 6, 7, 8, 9, 10, 11, 12, 13, 14, 15] rfl rfl rfl hl.1 (Nat.le_of_ble_eq_true rfl) dX6_comesTrue_4 rfl ?_
  refine lv_istore_n (lv' := [(3, .int o_1), (0, .ref (ad_s (2 * si))), (1, .int p1), (2, .ref (ad_r 0))]) hx hb dX6_comesTrue_7 rfl hl (by decide) rfl (fun ls hl => ?_)
  refine lv_aload_n hx hb dX6_comesTrue_8 rfl (lv_at hl 1 rfl) ?_
  refine lv_iload_n hx hb dX6_comesTrue_9 rfl (lv_at hl 2 rfl) ?_
  obtain ⟨o_2, hc_2, hF⟩ := zb hF
  refine zcVR (rest := []) (kX7_signAt l D ca t ad_s s_holds s_kind s_figure s_sort s_size s_el si hsi p1 fuel _ hc_2) ⟨hx, hb, hml, hown, hts⟩ (zcwV hts zm_593 zm_591 zm_592 zm_422 zm_589 rfl rfl zdv_X7_signAt ⟨Nat.le_of_ble_eq_true rfl, Nat.le_of_ble_eq_true rfl⟩) hA hK hZ hP hD hS [0, 1, 2, 3, 4, 5, 6, 7, 8, 9, 10, 11, 12, 13, 14, 15] rfl rfl 4 (2 * si) rfl (zsh_at si hsi) rfl hl.1 (Nat.le_of_ble_eq_true rfl) dX6_comesTrue_10 rfl ?_
  by_cases c_3 : o_2 = 98
  · have hF := zt c_3 hF
    refine lv_tableIn (tgt := 128) (off := 115) hx hb dX6_comesTrue_13 (by rw [c_3]; decide) (by rw [c_3]; decide) (by rw [c_3]; rfl) (by decide) ?_
    refine lv_aload_n hx hb dX6_comesTrue_128 rfl (lv_at hl 3 rfl) ?_
    refine lv_iconst (v := 2) hx hb dX6_comesTrue_129 (by decide) ?_
    refine lv_iload_n hx hb dX6_comesTrue_130 rfl (lv_at hl 0 rfl) ?_
    obtain ⟨o_4, hc_4, hF⟩ := zb hF
    refine zcSi (rest := []) (ws' := (wX6_sr ca ad_s ad_r s_holds s_kind s_figure s_sort s_size s_el r_guests r_kinds r_figures r_minutes o_4.2 r_hooks r_letters r_letterCount)) (kX6_settles l D ca t ad_r r_guests r_kinds r_figures r_minutes r_settings r_hooks r_letters r_letterCount 2 o_1 fuel _ hc_4) ⟨hx, hb, hml, hown, hts⟩ (zcwS hts zm_646 zm_645 zm_596 zm_644 rfl rfl zds_X6_settles ⟨Nat.le_of_ble_eq_true rfl, Nat.le_of_ble_eq_true rfl⟩) hA hK hZ hP hD hS [16, 17, 18, 19, 20, 21] [0, 1, 2, 3, 4, 5, 6, 7, 8, 9, 10, 11, 12, 13, 14, 15] [0, 1, 2, 3, 4, 5, 6, 7, 8, 9, 10, 11, 12, 13, 14, 15, 16, 17, 18, 19, 20, 21] rfl rfl rfl rfl rfl rfl rfl rfl hl.1 (Nat.le_of_ble_eq_true rfl) dX6_comesTrue_131 rfl (fun H locs hP hD hS => ?_)
    obtain ⟨h_5, hF⟩ := zgp hF
    obtain rfl := Option.some.inj hF
    exact hret _ _ _ _ hP hD hS (zbool h_5) dX6_comesTrue_134
  · have hF := zf c_3 hF
    by_cases c_6 : o_2 = 99
    · have hF := zt c_6 hF
      refine lv_tableIn (tgt := 166) (off := 153) hx hb dX6_comesTrue_13 (by rw [c_6]; decide) (by rw [c_6]; decide) (by rw [c_6]; rfl) (by decide) ?_
      exact j166 r_guests r_kinds r_figures r_minutes r_settings r_hooks r_letters r_letterCount _ _ hF hP hD hS ls (lv_sub hl [1, 2, 3] rfl)
    · have hF := zf c_6 hF
      by_cases c_7 : o_2 = 100
      · have hF := zt c_7 hF
        refine lv_tableIn (tgt := 166) (off := 153) hx hb dX6_comesTrue_13 (by rw [c_7]; decide) (by rw [c_7]; decide) (by rw [c_7]; rfl) (by decide) ?_
        exact j166 r_guests r_kinds r_figures r_minutes r_settings r_hooks r_letters r_letterCount _ _ hF hP hD hS ls (lv_sub hl [1, 2, 3] rfl)
      · have hF := zf c_7 hF
        by_cases c_8 : o_2 = 101
        · have hF := zt c_8 hF
          refine lv_tableIn (tgt := 166) (off := 153) hx hb dX6_comesTrue_13 (by rw [c_8]; decide) (by rw [c_8]; decide) (by rw [c_8]; rfl) (by decide) ?_
          exact j166 r_guests r_kinds r_figures r_minutes r_settings r_hooks r_letters r_letterCount _ _ hF hP hD hS ls (lv_sub hl [1, 2, 3] rfl)
        · have hF := zf c_8 hF
          by_cases c_9 : o_2 = 102
          · have hF := zt c_9 hF
            refine lv_tableIn (tgt := 166) (off := 153) hx hb dX6_comesTrue_13 (by rw [c_9]; decide) (by rw [c_9]; decide) (by rw [c_9]; rfl) (by decide) ?_
            exact j166 r_guests r_kinds r_figures r_minutes r_settings r_hooks r_letters r_letterCount _ _ hF hP hD hS ls (lv_sub hl [1, 2, 3] rfl)
          · have hF := zf c_9 hF
            by_cases c_10 : o_2 = 103
            · have hF := zt c_10 hF
              refine lv_tableIn (tgt := 76) (off := 63) hx hb dX6_comesTrue_13 (by rw [c_10]; decide) (by rw [c_10]; decide) (by rw [c_10]; rfl) (by decide) ?_
              refine lv_iload_n hx hb dX6_comesTrue_76 rfl (lv_at hl 0 rfl) ?_
              obtain ⟨o_11, hc_11, hF⟩ := zb hF
              refine zcSR (rest := []) (kX1_isKind l D ca t o_1 fuel _ hc_11) ⟨hx, hb, hml, hown, hts⟩ (zcwS hts zm_647 zm_484 zm_394 zm_483 rfl rfl zds_X1_isKind ⟨Nat.le_of_ble_eq_true rfl, Nat.le_of_ble_eq_true rfl⟩) hA hK hZ hP hD hS [] rfl rfl rfl hl.1 (Nat.le_of_ble_eq_true rfl) dX6_comesTrue_77 rfl ?_
              refine lv_if_eq (tgt := 96) hx hb dX6_comesTrue_80 (by decide) (fun c_12 => ?_) (fun c_12 => ?_)
              · have hF := zt c_12 hF
                refine lv_iconst (v := 0) hx hb dX6_comesTrue_96 (by decide) ?_
                obtain rfl := Option.some.inj hF
                exact hret _ _ _ _ hP hD hS (zbool (Or.inl rfl)) dX6_comesTrue_97
              · have hF := zf c_12 hF
                refine lv_aload_n hx hb dX6_comesTrue_83 rfl (lv_at hl 1 rfl) ?_
                refine lv_iload_n hx hb dX6_comesTrue_84 rfl (lv_at hl 2 rfl) ?_
                refine lv_aload_n hx hb dX6_comesTrue_85 rfl (lv_at hl 3 rfl) ?_
                obtain ⟨o_13, hc_13, hF⟩ := zb hF
                refine zcSi (rest := []) (ws' := (wX6_sr ca ad_s ad_r s_holds s_kind s_figure s_sort s_size s_el o_13.2.1 o_13.2.2.1 o_13.2.2.2.1 o_13.2.2.2.2 r_settings r_hooks r_letters r_letterCount)) (kX6_isWelcome l D ca t ad_s ad_r s_holds s_kind s_figure s_sort s_size s_el r_guests r_kinds r_figures r_minutes r_settings r_hooks r_letters r_letterCount si hsi p1 fuel _ hc_13) ⟨hx, hb, hml, hown, hts⟩ (zcwS hts zm_650 zm_649 zm_596 zm_648 rfl rfl zds_X6_isWelcome ⟨Nat.le_of_ble_eq_true rfl, Nat.le_of_ble_eq_true rfl⟩) hA hK hZ hP hD hS [0, 1, 2, 3, 4, 5, 6, 7, 8, 9, 10, 11, 12, 13, 14, 15, 16, 17, 18, 19, 20, 21] [] [0, 1, 2, 3, 4, 5, 6, 7, 8, 9, 10, 11, 12, 13, 14, 15, 16, 17, 18, 19, 20, 21] rfl rfl rfl rfl rfl rfl rfl rfl hl.1 (Nat.le_of_ble_eq_true rfl) dX6_comesTrue_86 rfl (fun H locs hP hD hS => ?_)
                refine lv_if_eq (tgt := 96) hx hb dX6_comesTrue_89 (by decide) (fun c_14 => ?_) (fun c_14 => ?_)
                · have hF := zt c_14 hF
                  refine lv_iconst (v := 0) hx hb dX6_comesTrue_96 (by decide) ?_
                  obtain rfl := Option.some.inj hF
                  exact hret _ _ _ _ hP hD hS (zbool (Or.inl rfl)) dX6_comesTrue_97
                · have hF := zf c_14 hF
                  refine lv_iconst (v := 1) hx hb dX6_comesTrue_92 (by decide) ?_
                  refine lv_goto (tgt := 97) hx hb dX6_comesTrue_93 (by decide) ?_
                  obtain rfl := Option.some.inj hF
                  exact hret _ _ _ _ hP hD hS (zbool (Or.inr rfl)) dX6_comesTrue_97
            · have hF := zf c_10 hF
              by_cases c_15 : o_2 = 104
              · have hF := zt c_15 hF
                refine lv_tableIn (tgt := 98) (off := 85) hx hb dX6_comesTrue_13 (by rw [c_15]; decide) (by rw [c_15]; decide) (by rw [c_15]; rfl) (by decide) ?_
                refine lv_aload_n hx hb dX6_comesTrue_98 rfl (lv_at hl 3 rfl) ?_
                refine lv_iconst (v := 0) hx hb dX6_comesTrue_99 (by decide) ?_
                refine lv_iload_n hx hb dX6_comesTrue_100 rfl (lv_at hl 0 rfl) ?_
                obtain ⟨o_16, hc_16, hF⟩ := zb hF
                refine zcSi (rest := []) (ws' := (wX6_sr ca ad_s ad_r s_holds s_kind s_figure s_sort s_size s_el r_guests r_kinds r_figures r_minutes o_16.2 r_hooks r_letters r_letterCount)) (kX6_settles l D ca t ad_r r_guests r_kinds r_figures r_minutes r_settings r_hooks r_letters r_letterCount 0 o_1 fuel _ hc_16) ⟨hx, hb, hml, hown, hts⟩ (zcwS hts zm_646 zm_645 zm_596 zm_644 rfl rfl zds_X6_settles ⟨Nat.le_of_ble_eq_true rfl, Nat.le_of_ble_eq_true rfl⟩) hA hK hZ hP hD hS [16, 17, 18, 19, 20, 21] [0, 1, 2, 3, 4, 5, 6, 7, 8, 9, 10, 11, 12, 13, 14, 15] [0, 1, 2, 3, 4, 5, 6, 7, 8, 9, 10, 11, 12, 13, 14, 15, 16, 17, 18, 19, 20, 21] rfl rfl rfl rfl rfl rfl rfl rfl hl.1 (Nat.le_of_ble_eq_true rfl) dX6_comesTrue_101 rfl (fun H locs hP hD hS => ?_)
                refine lv_if_eq (tgt := 126) hx hb dX6_comesTrue_104 (by decide) (fun c_17 => ?_) (fun c_17 => ?_)
                · have hF := zt c_17 hF
                  refine lv_iconst (v := 0) hx hb dX6_comesTrue_126 (by decide) ?_
                  obtain rfl := Option.some.inj hF
                  exact hret _ _ _ _ hP hD hS (zbool (Or.inl rfl)) dX6_comesTrue_127
                · have hF := zf c_17 hF
                  refine lv_aload_n hx hb dX6_comesTrue_107 rfl (lv_at hl 3 rfl) ?_
                  refine lv_iconst (v := 1) hx hb dX6_comesTrue_108 (by decide) ?_
                  refine lv_aload_n hx hb dX6_comesTrue_109 rfl (lv_at hl 1 rfl) ?_
                  refine lv_iload_n hx hb dX6_comesTrue_110 rfl (lv_at hl 2 rfl) ?_
                  refine lv_iconst (v := 2) hx hb dX6_comesTrue_111 (by decide) ?_
                  refine lv_iadd hx hb dX6_comesTrue_112 ?_
                  obtain ⟨o_18, hc_18, hF⟩ := zb hF
                  refine zcSR (rest := [.int 1, .ref (ad_r 0)]) (kX6_digitAt l D ca t ad_s s_holds s_kind s_figure s_sort s_size s_el si hsi (p1 + 2) fuel _ hc_18) ⟨hx, hb, hml, hown, hts⟩ (zcwS hts zm_600 zm_599 zm_596 zm_598 rfl rfl zds_X6_digitAt ⟨Nat.le_of_ble_eq_true rfl, Nat.le_of_ble_eq_true rfl⟩) hA hK hZ hP hD hS [0, 1, 2, 3, 4, 5, 6, 7, 8, 9, 10, 11, 12, 13, 14, 15] rfl rfl rfl hl.1 (Nat.le_of_ble_eq_true rfl) dX6_comesTrue_113 rfl ?_
                  obtain ⟨o_19, hc_19, hF⟩ := zb hF
                  refine zcSi (rest := []) (ws' := (wX6_sr ca ad_s ad_r s_holds s_kind s_figure s_sort s_size s_el r_guests r_kinds r_figures r_minutes o_19.2 r_hooks r_letters r_letterCount)) (kX6_settles l D ca t ad_r r_guests r_kinds r_figures r_minutes o_16.2 r_hooks r_letters r_letterCount 1 o_18 fuel _ hc_19) ⟨hx, hb, hml, hown, hts⟩ (zcwS hts zm_646 zm_645 zm_596 zm_644 rfl rfl zds_X6_settles ⟨Nat.le_of_ble_eq_true rfl, Nat.le_of_ble_eq_true rfl⟩) hA hK hZ hP hD hS [16, 17, 18, 19, 20, 21] [0, 1, 2, 3, 4, 5, 6, 7, 8, 9, 10, 11, 12, 13, 14, 15] [0, 1, 2, 3, 4, 5, 6, 7, 8, 9, 10, 11, 12, 13, 14, 15, 16, 17, 18, 19, 20, 21] rfl rfl rfl rfl rfl rfl rfl rfl hl.1 (Nat.le_of_ble_eq_true rfl) dX6_comesTrue_116 rfl (fun H locs hP hD hS => ?_)
                  refine lv_if_eq (tgt := 126) hx hb dX6_comesTrue_119 (by decide) (fun c_20 => ?_) (fun c_20 => ?_)
                  · have hF := zt c_20 hF
                    refine lv_iconst (v := 0) hx hb dX6_comesTrue_126 (by decide) ?_
                    obtain rfl := Option.some.inj hF
                    exact hret _ _ _ _ hP hD hS (zbool (Or.inl rfl)) dX6_comesTrue_127
                  · have hF := zf c_20 hF
                    refine lv_iconst (v := 1) hx hb dX6_comesTrue_122 (by decide) ?_
                    refine lv_goto (tgt := 127) hx hb dX6_comesTrue_123 (by decide) ?_
                    obtain rfl := Option.some.inj hF
                    exact hret _ _ _ _ hP hD hS (zbool (Or.inr rfl)) dX6_comesTrue_127
              · have hF := zf c_15 hF
                by_cases c_21 : o_2 = 105
                · have hF := zt c_21 hF
                  refine lv_tableIn (tgt := 166) (off := 153) hx hb dX6_comesTrue_13 (by rw [c_21]; decide) (by rw [c_21]; decide) (by rw [c_21]; rfl) (by decide) ?_
                  exact j166 r_guests r_kinds r_figures r_minutes r_settings r_hooks r_letters r_letterCount _ _ hF hP hD hS ls (lv_sub hl [1, 2, 3] rfl)
                · have hF := zf c_21 hF
                  by_cases c_22 : o_2 = 106
                  · have hF := zt c_22 hF
                    refine lv_tableIn (tgt := 166) (off := 153) hx hb dX6_comesTrue_13 (by rw [c_22]; decide) (by rw [c_22]; decide) (by rw [c_22]; rfl) (by decide) ?_
                    exact j166 r_guests r_kinds r_figures r_minutes r_settings r_hooks r_letters r_letterCount _ _ hF hP hD hS ls (lv_sub hl [1, 2, 3] rfl)
                  · have hF := zf c_22 hF
                    by_cases c_23 : o_2 = 107
                    · have hF := zt c_23 hF
                      refine lv_tableIn (tgt := 142) (off := 129) hx hb dX6_comesTrue_13 (by rw [c_23]; decide) (by rw [c_23]; decide) (by rw [c_23]; rfl) (by decide) ?_
                      refine lv_aload_n hx hb dX6_comesTrue_142 rfl (lv_at hl 3 rfl) ?_
                      refine lv_iload_n hx hb dX6_comesTrue_143 rfl (lv_at hl 0 rfl) ?_
                      obtain ⟨o_24, hc_24, hF⟩ := zb hF
                      refine zcVR (rest := []) (kX5_hasGuest l D ca t ad_r r_guests r_kinds r_figures r_minutes r_settings r_hooks r_letters r_letterCount o_1 fuel _ hc_24) ⟨hx, hb, hml, hown, hts⟩ (zcwV hts zm_651 zm_455 zm_456 zm_387 zm_453 rfl rfl zdv_X5_hasGuest ⟨Nat.le_of_ble_eq_true rfl, Nat.le_of_ble_eq_true rfl⟩) hA hK hZ hP hD hS [16, 17, 18, 19, 20, 21] rfl rfl 3 16 rfl rfl rfl hl.1 (Nat.le_of_ble_eq_true rfl) dX6_comesTrue_144 rfl ?_
                      refine lv_if_eq (tgt := 164) hx hb dX6_comesTrue_147 (by decide) (fun c_25 => ?_) (fun c_25 => ?_)
                      · have hF := zt c_25 hF
                        refine lv_iconst (v := 0) hx hb dX6_comesTrue_164 (by decide) ?_
                        obtain rfl := Option.some.inj hF
                        exact hret _ _ _ _ hP hD hS (zbool (Or.inl rfl)) dX6_comesTrue_165
                      · have hF := zf c_25 hF
                        refine lv_aload_n hx hb dX6_comesTrue_150 rfl (lv_at hl 3 rfl) ?_
                        refine lv_iload_n hx hb dX6_comesTrue_151 rfl (lv_at hl 0 rfl) ?_
                        obtain ⟨o_26, hc_26, hF⟩ := zb hF
                        refine zcVi (rest := []) (ws' := (wX6_sr ca ad_s ad_r s_holds s_kind s_figure s_sort s_size s_el r_guests r_kinds r_figures r_minutes r_settings o_26.2 r_letters r_letterCount)) (kX5_toggleHook l D ca t ad_r r_guests r_kinds r_figures r_minutes r_settings r_hooks r_letters r_letterCount o_1 fuel _ hc_26) ⟨hx, hb, hml, hown, hts⟩ (zcwV hts zm_652 zm_464 zm_465 zm_387 zm_462 rfl rfl zdv_X5_toggleHook ⟨Nat.le_of_ble_eq_true rfl, Nat.le_of_ble_eq_true rfl⟩) hA hK hZ hP hD hS [16, 17, 18, 19, 20, 21] [0, 1, 2, 3, 4, 5, 6, 7, 8, 9, 10, 11, 12, 13, 14, 15] [0, 1, 2, 3, 4, 5, 6, 7, 8, 9, 10, 11, 12, 13, 14, 15, 16, 17, 18, 19, 20, 21] rfl rfl rfl rfl rfl rfl rfl 3 16 rfl rfl rfl hl.1 (Nat.le_of_ble_eq_true rfl) dX6_comesTrue_152 rfl (fun H locs hP hD hS => ?_)
                        refine lv_bipush (v := (-2)) hx hb dX6_comesTrue_155 (by decide) ?_
                        refine lv_icmp_eq (tgt := 164) hx hb dX6_comesTrue_157 (by decide) (fun c_27 => ?_) (fun c_27 => ?_)
                        · have hF := zt c_27 hF
                          refine lv_iconst (v := 0) hx hb dX6_comesTrue_164 (by decide) ?_
                          obtain rfl := Option.some.inj hF
                          exact hret _ _ _ _ hP hD hS (zbool (Or.inl rfl)) dX6_comesTrue_165
                        · have hF := zf c_27 hF
                          refine lv_iconst (v := 1) hx hb dX6_comesTrue_160 (by decide) ?_
                          refine lv_goto (tgt := 165) hx hb dX6_comesTrue_161 (by decide) ?_
                          obtain rfl := Option.some.inj hF
                          exact hret _ _ _ _ hP hD hS (zbool (Or.inr rfl)) dX6_comesTrue_165
                    · have hF := zf c_23 hF
                      by_cases c_28 : o_2 = 108
                      · have hF := zt c_28 hF
                        refine lv_tableIn (tgt := 166) (off := 153) hx hb dX6_comesTrue_13 (by rw [c_28]; decide) (by rw [c_28]; decide) (by rw [c_28]; rfl) (by decide) ?_
                        exact j166 r_guests r_kinds r_figures r_minutes r_settings r_hooks r_letters r_letterCount _ _ hF hP hD hS ls (lv_sub hl [1, 2, 3] rfl)
                      · have hF := zf c_28 hF
                        by_cases c_29 : o_2 = 109
                        · have hF := zt c_29 hF
                          refine lv_tableIn (tgt := 135) (off := 122) hx hb dX6_comesTrue_13 (by rw [c_29]; decide) (by rw [c_29]; decide) (by rw [c_29]; rfl) (by decide) ?_
                          refine lv_aload_n hx hb dX6_comesTrue_135 rfl (lv_at hl 3 rfl) ?_
                          refine lv_iconst (v := 3) hx hb dX6_comesTrue_136 (by decide) ?_
                          refine lv_iload_n hx hb dX6_comesTrue_137 rfl (lv_at hl 0 rfl) ?_
                          obtain ⟨o_30, hc_30, hF⟩ := zb hF
                          refine zcSi (rest := []) (ws' := (wX6_sr ca ad_s ad_r s_holds s_kind s_figure s_sort s_size s_el r_guests r_kinds r_figures r_minutes o_30.2 r_hooks r_letters r_letterCount)) (kX6_settles l D ca t ad_r r_guests r_kinds r_figures r_minutes r_settings r_hooks r_letters r_letterCount 3 o_1 fuel _ hc_30) ⟨hx, hb, hml, hown, hts⟩ (zcwS hts zm_646 zm_645 zm_596 zm_644 rfl rfl zds_X6_settles ⟨Nat.le_of_ble_eq_true rfl, Nat.le_of_ble_eq_true rfl⟩) hA hK hZ hP hD hS [16, 17, 18, 19, 20, 21] [0, 1, 2, 3, 4, 5, 6, 7, 8, 9, 10, 11, 12, 13, 14, 15] [0, 1, 2, 3, 4, 5, 6, 7, 8, 9, 10, 11, 12, 13, 14, 15, 16, 17, 18, 19, 20, 21] rfl rfl rfl rfl rfl rfl rfl rfl hl.1 (Nat.le_of_ble_eq_true rfl) dX6_comesTrue_138 rfl (fun H locs hP hD hS => ?_)
                          obtain ⟨h_31, hF⟩ := zgp hF
                          obtain rfl := Option.some.inj hF
                          exact hret _ _ _ _ hP hD hS (zbool h_31) dX6_comesTrue_141
                        · have hF := zf c_29 hF
                          refine lv_tableOut (tgt := 166) hx hb dX6_comesTrue_13 (ztab (lo := 98) (hi := 109) (fun k h1 h2 => by rcases (show k = 98 ∨ k = 99 ∨ k = 100 ∨ k = 101 ∨ k = 102 ∨ k = 103 ∨ k = 104 ∨ k = 105 ∨ k = 106 ∨ k = 107 ∨ k = 108 ∨ k = 109 by omega) with rfl | rfl | rfl | rfl | rfl | rfl | rfl | rfl | rfl | rfl | rfl | rfl <;> first | exact c_3 | exact c_6 | exact c_7 | exact c_8 | exact c_9 | exact c_10 | exact c_15 | exact c_21 | exact c_22 | exact c_23 | exact c_28 | exact c_29)) (by decide) ?_
                          exact j166 r_guests r_kinds r_figures r_minutes r_settings r_hooks r_letters r_letterCount _ _ hF hP hD hS ls (lv_sub hl [1, 2, 3] rfl)
theorem zds_X6_comesTrue : yX6_comesTrue.cls ≠ "java/lang/invoke/MethodHandle" ∧ yX6_comesTrue.cls ≠ "java/lang/invoke/VarHandle" ∧ (parseMethodDescriptor yX6_comesTrue.desc).map (fun d => d.parameters.length) = some 3 := by decide +kernel
theorem zds_X6_lengthOf : yX6_lengthOf.cls ≠ "java/lang/invoke/MethodHandle" ∧ yX6_lengthOf.cls ≠ "java/lang/invoke/VarHandle" ∧ (parseMethodDescriptor yX6_lengthOf.desc).map (fun d => d.parameters.length) = some 2 := by decide +kernel
abbrev roX6_senselessAt : Room := { frames := 5, cells := 0, slots := 0, locals := 110 }
set_option maxHeartbeats 4000000 in
set_option maxRecDepth 100000 in
theorem kX6_senselessAt (l : Launch) (D : va_G) (ca : Nat → ClassId) (t : Nat → Nat) (ad_s : Nat → Nat) (ad_r : Nat → Nat) (s_holds : Nat → Int32) (s_kind : Nat → Int32) (s_figure : Nat → Int32) (s_sort : Nat → Int32) (s_size : Nat → Int32) (s_el : Nat → Nat → Int32) (r_guests : Int32) (r_kinds : Nat → Int32) (r_figures : Nat → Int32) (r_minutes : Nat → Int32) (r_settings : Nat → Int32) (r_hooks : Int32) (r_letters : Nat → Int32) (r_letterCount : Int32) (si : Nat) (hsi : si < 8) (fuel : Nat) (o : Int32 × Int32 × (Nat → Int32) × (Nat → Int32) × (Nat → Int32) × (Nat → Int32) × Int32 × (Nat → Int32) × Int32) (hF : fX6_senselessAt fuel s_size s_el r_guests r_kinds r_figures r_minutes r_settings r_hooks r_letters r_letterCount si = some o) : zMi l D (zT ca) t yX6_senselessAt (.code yX6_senselessAt cX6_senselessAt 4 (some .int) :: zW) roX6_senselessAt [.ref (ad_s (2 * si)), .ref (ad_r 0)] (wX6_sr ca ad_s ad_r s_holds s_kind s_figure s_sort s_size s_el r_guests r_kinds r_figures r_minutes r_settings r_hooks r_letters r_letterCount) (wX6_sr ca ad_s ad_r s_holds s_kind s_figure s_sort s_size s_el o.2.1 o.2.2.1 o.2.2.2.1 o.2.2.2.2.1 o.2.2.2.2.2.1 o.2.2.2.2.2.2.1 o.2.2.2.2.2.2.2.1 o.2.2.2.2.2.2.2.2) o.1 := by
  refine zMi_of (cc := cX6_senselessAt) (maxL := 4) (by decide) rfl (Nat.le_of_ble_eq_true rfl) ?_
  intro p e s m args below meth c A Q ls ⟨hx, hb, hml, hown, hts, hA, hK, hZ, hS⟩ hret hP hD hl
  have hts := fun w h => hts w (List.mem_cons_of_mem _ h)
  have hown : s.vm.findClass RX6 = some m.cls := hown
  have hl : lv_has ls 4 [(0, .ref (ad_s (2 * si))), (1, .ref (ad_r 0))] := hl
  have hin7 := zin_X7
  have l4 : ∀ (n4 : Nat) (v2 : Int32) (v3 : Int32) (r_guests : Int32) (r_kinds : Nat → Int32) (r_figures : Nat → Int32) (r_minutes : Nat → Int32) (r_settings : Nat → Int32) (r_hooks : Int32) (r_letters : Nat → Int32) (r_letterCount : Int32) (H : Heap) (locs : List Loc), fX6_senselessAt_L4 fuel s_size s_el si n4 v2 v3 r_guests r_kinds r_figures r_minutes r_settings r_hooks r_letters r_letterCount = some o → va_P D vwCl (wX6_sr ca ad_s ad_r s_holds s_kind s_figure s_sort s_size s_el r_guests r_kinds r_figures r_minutes r_settings r_hooks r_letters r_letterCount) H → va_D A (wX6_sr ca ad_s ad_r s_holds s_kind s_figure s_sort s_size s_el r_guests r_kinds r_figures r_minutes r_settings r_hooks r_letters r_letterCount) → va_S A s.heap H locs → ∀ ls : Array Slot, lv_has ls 4 [(0, .ref (ad_s (2 * si))), (1, .ref (ad_r 0)), (2, .int v2), (3, .int v3)] → W p l e roX6_senselessAt s m args below meth c H locs 0 0 Q (F0 m 4 ls []) := by
    intro n4
    induction n4 with
    | zero =>
      intro v2 v3 r_guests r_kinds r_figures r_minutes r_settings r_hooks r_letters r_letterCount H locs hF
      rw [fX6_senselessAt_L4] at hF
      cases hF
    | succ n4 ih4 =>
      intro v2 v3 r_guests r_kinds r_figures r_minutes r_settings r_hooks r_letters r_letterCount H locs hF hP hD hS ls hl
      rw [fX6_senselessAt_L4] at hF
      refine lv_iload_n hx hb dX6_senselessAt_4 rfl (lv_at hl 3 rfl) ?_
      refine lv_bipush (v := 100) hx hb dX6_senselessAt_5 (by decide) ?_
      refine lv_icmp_ge (tgt := 43) hx hb dX6_senselessAt_7 (by decide) (fun c_1 => ?_) (fun c_1 => ?_)
      · have hF := zt c_1 hF
        refine lv_bipush (v := (-4)) hx hb dX6_senselessAt_43 (by decide) ?_
        obtain rfl := Option.some.inj hF
        exact hret _ _ _ _ hP hD hS rfl dX6_senselessAt_45
      · have hF := zf c_1 hF
        refine lv_iload_n hx hb dX6_senselessAt_10 rfl (lv_at hl 2 rfl) ?_
        refine lv_aload_n hx hb dX6_senselessAt_11 rfl (lv_at hl 0 rfl) ?_
        refine va_get (D := D) (ci := 4) (v := .int (s_size si)) (C := RX7) (T := TX7) (N := 6) hx hb hts hin7 hown hK hP (2 * si) (zsh_at si hsi) rfl 4 (by decide) (hts _ zm_406) (fun _ h9 => h9) rfl dX6_senselessAt_12 ?_
        refine lv_icmp_ge (tgt := 43) hx hb dX6_senselessAt_15 (by decide) (fun c_2 => ?_) (fun c_2 => ?_)
        · have hF := zt c_2 hF
          refine lv_bipush (v := (-4)) hx hb dX6_senselessAt_43 (by decide) ?_
          obtain rfl := Option.some.inj hF
          exact hret _ _ _ _ hP hD hS rfl dX6_senselessAt_45
        · have hF := zf c_2 hF
          refine lv_aload_n hx hb dX6_senselessAt_18 rfl (lv_at hl 0 rfl) ?_
          refine lv_iload_n hx hb dX6_senselessAt_19 rfl (lv_at hl 2 rfl) ?_
          refine lv_aload_n hx hb dX6_senselessAt_20 rfl (lv_at hl 1 rfl) ?_
          obtain ⟨o_3, hc_3, hF⟩ := zb hF
          refine zcSi (rest := []) (ws' := (wX6_sr ca ad_s ad_r s_holds s_kind s_figure s_sort s_size s_el o_3.2.1 o_3.2.2.1 o_3.2.2.2.1 o_3.2.2.2.2.1 o_3.2.2.2.2.2.1 o_3.2.2.2.2.2.2.1 o_3.2.2.2.2.2.2.2.1 o_3.2.2.2.2.2.2.2.2)) (kX6_comesTrue l D ca t ad_s ad_r s_holds s_kind s_figure s_sort s_size s_el r_guests r_kinds r_figures r_minutes r_settings r_hooks r_letters r_letterCount si hsi v2 fuel _ hc_3) ⟨hx, hb, hml, hown, hts⟩ (zcwS hts zm_690 zm_689 zm_596 zm_688 rfl rfl zds_X6_comesTrue ⟨Nat.le_of_ble_eq_true rfl, Nat.le_of_ble_eq_true rfl⟩) hA hK hZ hP hD hS [0, 1, 2, 3, 4, 5, 6, 7, 8, 9, 10, 11, 12, 13, 14, 15, 16, 17, 18, 19, 20, 21] [] [0, 1, 2, 3, 4, 5, 6, 7, 8, 9, 10, 11, 12, 13, 14, 15, 16, 17, 18, 19, 20, 21] rfl rfl rfl rfl rfl rfl rfl rfl hl.1 (Nat.le_of_ble_eq_true rfl) dX6_senselessAt_21 rfl (fun H locs hP hD hS => ?_)
          refine lv_if_ne (tgt := 29) hx hb dX6_senselessAt_24 (by decide) (fun c_4 => ?_) (fun c_4 => ?_)
          · have hF := zf c_4 hF
            refine lv_iload_n hx hb dX6_senselessAt_29 rfl (lv_at hl 2 rfl) ?_
            refine lv_aload_n hx hb dX6_senselessAt_30 rfl (lv_at hl 0 rfl) ?_
            refine lv_iload_n hx hb dX6_senselessAt_31 rfl (lv_at hl 2 rfl) ?_
            obtain ⟨o_5, hc_5, hF⟩ := zb hF
            refine zcSR (rest := [.int v2]) (kX6_lengthOf l D ca t ad_s s_holds s_kind s_figure s_sort s_size s_el si hsi v2 fuel _ hc_5) ⟨hx, hb, hml, hown, hts⟩ (zcwS hts zm_693 zm_692 zm_596 zm_691 rfl rfl zds_X6_lengthOf ⟨Nat.le_of_ble_eq_true rfl, Nat.le_of_ble_eq_true rfl⟩) hA hK hZ hP hD hS [0, 1, 2, 3, 4, 5, 6, 7, 8, 9, 10, 11, 12, 13, 14, 15] rfl rfl rfl hl.1 (Nat.le_of_ble_eq_true rfl) dX6_senselessAt_32 rfl ?_
            refine lv_iadd hx hb dX6_senselessAt_35 ?_
            refine z_let hF (fun v2_6 hF => ?_)
            refine lv_istore_n (lv' := [(2, .int v2_6), (0, .ref (ad_s (2 * si))), (1, .ref (ad_r 0)), (3, .int v3)]) hx hb dX6_senselessAt_36 rfl hl (by decide) rfl (fun ls hl => ?_)
            refine z_iinc (kv := 1) hx hb 3 dX6_senselessAt_37 hl rfl (by decide) (by decide) (fun g => [(3, .int g), (2, .int v2_6), (0, .ref (ad_s (2 * si))), (1, .ref (ad_r 0))]) (fun _ => rfl) hF (fun v3_7 ls hF hl => ?_)
            refine lv_goto (tgt := 4) hx hb dX6_senselessAt_40 (by decide) ?_
            exact ih4 v2_6 v3_7 o_3.2.1 o_3.2.2.1 o_3.2.2.2.1 o_3.2.2.2.2.1 o_3.2.2.2.2.2.1 o_3.2.2.2.2.2.2.1 o_3.2.2.2.2.2.2.2.1 o_3.2.2.2.2.2.2.2.2 _ _ hF hP hD hS ls (lv_sub hl [2, 3, 1, 0] rfl)
          · have hF := zt c_4 hF
            refine lv_iload_n hx hb dX6_senselessAt_27 rfl (lv_at hl 2 rfl) ?_
            obtain rfl := Option.some.inj hF
            exact hret _ _ _ _ hP hD hS rfl dX6_senselessAt_28
  unfold fX6_senselessAt at hF
  refine lv_iconst (v := 0) hx hb dX6_senselessAt_0 (by decide) ?_
  refine lv_istore_n (lv' := [(2, .int 0), (0, .ref (ad_s (2 * si))), (1, .ref (ad_r 0))]) hx hb dX6_senselessAt_1 rfl hl (by decide) rfl (fun ls hl => ?_)
  refine lv_iconst (v := 0) hx hb dX6_senselessAt_2 (by decide) ?_
  refine lv_istore_n (lv' := [(3, .int 0), (2, .int 0), (0, .ref (ad_s (2 * si))), (1, .ref (ad_r 0))]) hx hb dX6_senselessAt_3 rfl hl (by decide) rfl (fun ls hl => ?_)
  exact l4 fuel 0 0 r_guests r_kinds r_figures r_minutes r_settings r_hooks r_letters r_letterCount _ _ hF hP hD hS ls (lv_sub hl [2, 3, 1, 0] rfl)
theorem zds_X6_isDigit : yX6_isDigit.cls ≠ "java/lang/invoke/MethodHandle" ∧ yX6_isDigit.cls ≠ "java/lang/invoke/VarHandle" ∧ (parseMethodDescriptor yX6_isDigit.desc).map (fun d => d.parameters.length) = some 1 := by decide +kernel
abbrev roX6_brokenIn : Room := { frames := 4, cells := 0, slots := 0, locals := 86 }
set_option maxHeartbeats 4000000 in
set_option maxRecDepth 100000 in
theorem kX6_brokenIn (l : Launch) (D : va_G) (ca : Nat → ClassId) (t : Nat → Nat) (ad_s : Nat → Nat) (s_holds : Nat → Int32) (s_kind : Nat → Int32) (s_figure : Nat → Int32) (s_sort : Nat → Int32) (s_size : Nat → Int32) (s_el : Nat → Nat → Int32) (si : Nat) (hsi : si < 8) (p1 : Int32) (fuel : Nat) (o : Int32) (hF : fX6_brokenIn fuel s_size s_el si p1 = some o) : zRi l D (zT ca) t yX6_brokenIn (.code yX6_brokenIn cX6_brokenIn 5 (some .int) :: zW) roX6_brokenIn [.ref (ad_s (2 * si)), .int p1] (wX6_s ca ad_s s_holds s_kind s_figure s_sort s_size s_el) o := by
  refine zRi_of (cc := cX6_brokenIn) (maxL := 5) (by decide) rfl (Nat.le_of_ble_eq_true rfl) ?_
  intro p e s m args below meth c A Q ls ⟨hx, hb, hml, hown, hts, hA, hK, hZ, hS⟩ hret hP hD hl
  have hts := fun w h => hts w (List.mem_cons_of_mem _ h)
  have hown : s.vm.findClass RX6 = some m.cls := hown
  have hl : lv_has ls 5 [(0, .ref (ad_s (2 * si))), (1, .int p1)] := hl
  have j57 : fX6_brokenIn_J57 fuel s_size s_el si p1 = some o → ∀ ls : Array Slot, lv_has ls 5 [(0, .ref (ad_s (2 * si))), (1, .int p1)] → W p l e roX6_brokenIn s m args below meth c s.heap [] 0 0 Q (F0 m 57 ls []) := by
    intro hF ls hl
    unfold fX6_brokenIn_J57 at hF
    refine lv_iload_n hx hb dX6_brokenIn_57 rfl (lv_at hl 1 rfl) ?_
    refine lv_aload_n hx hb dX6_brokenIn_58 rfl (lv_at hl 0 rfl) ?_
    refine lv_iload_n hx hb dX6_brokenIn_59 rfl (lv_at hl 1 rfl) ?_
    obtain ⟨o_11, hc_11, hF⟩ := zb hF
    refine zcSR (rest := [.int p1]) (kX6_lengthOf l D ca t ad_s s_holds s_kind s_figure s_sort s_size s_el si hsi p1 fuel _ hc_11) ⟨hx, hb, hml, hown, hts⟩ (zcwS hts zm_693 zm_692 zm_596 zm_691 rfl rfl zds_X6_lengthOf ⟨Nat.le_of_ble_eq_true rfl, Nat.le_of_ble_eq_true rfl⟩) hA hK hZ hP hD hS [0, 1, 2, 3, 4, 5, 6, 7, 8, 9, 10, 11, 12, 13, 14, 15] rfl rfl rfl hl.1 (Nat.le_of_ble_eq_true rfl) dX6_brokenIn_60 rfl ?_
    refine lv_iadd hx hb dX6_brokenIn_63 ?_
    refine lv_iconst (v := 1) hx hb dX6_brokenIn_64 (by decide) ?_
    refine lv_isub hx hb dX6_brokenIn_65 ?_
    refine z_let hF (fun v4_12 hF => ?_)
    refine lv_istore (lv' := [(4, .int v4_12), (0, .ref (ad_s (2 * si))), (1, .int p1)]) hx hb dX6_brokenIn_66 hl (by decide) rfl (fun ls hl => ?_)
    refine lv_aload_n hx hb dX6_brokenIn_68 rfl (lv_at hl 1 rfl) ?_
    refine lv_iload hx hb dX6_brokenIn_69 (lv_at hl 0 rfl) ?_
    obtain ⟨o_13, hc_13, hF⟩ := zb hF
    refine zcVR (rest := []) (kX7_signAt l D ca t ad_s s_holds s_kind s_figure s_sort s_size s_el si hsi v4_12 fuel _ hc_13) ⟨hx, hb, hml, hown, hts⟩ (zcwV hts zm_593 zm_591 zm_592 zm_422 zm_589 rfl rfl zdv_X7_signAt ⟨Nat.le_of_ble_eq_true rfl, Nat.le_of_ble_eq_true rfl⟩) hA hK hZ hP hD hS [0, 1, 2, 3, 4, 5, 6, 7, 8, 9, 10, 11, 12, 13, 14, 15] rfl rfl 4 (2 * si) rfl (zsh_at si hsi) rfl hl.1 (Nat.le_of_ble_eq_true rfl) dX6_brokenIn_71 rfl ?_
    refine lv_bipush (v := 59) hx hb dX6_brokenIn_74 (by decide) ?_
    refine lv_icmp_ne (tgt := 84) hx hb dX6_brokenIn_76 (by decide) (fun c_14 => ?_) (fun c_14 => ?_)
    · have hF := zf c_14 hF
      refine lv_iload hx hb dX6_brokenIn_84 (lv_at hl 0 rfl) ?_
      obtain rfl := Option.some.inj hF
      exact hret _ _ rfl dX6_brokenIn_86
    · have hF := zt c_14 hF
      refine lv_bipush (v := (-4)) hx hb dX6_brokenIn_79 (by decide) ?_
      refine lv_goto (tgt := 86) hx hb dX6_brokenIn_81 (by decide) ?_
      obtain rfl := Option.some.inj hF
      exact hret _ _ rfl dX6_brokenIn_86
  have l28 : ∀ (n28 : Nat) (v3 : Int32) (v4 : Int32), fX6_brokenIn_L28 fuel s_size s_el si p1 n28 v3 v4 = some o → ∀ ls : Array Slot, lv_has ls 5 [(0, .ref (ad_s (2 * si))), (1, .int p1), (3, .int v3), (4, .int v4)] → W p l e roX6_brokenIn s m args below meth c s.heap [] 0 0 Q (F0 m 28 ls []) := by
    intro n28
    induction n28 with
    | zero =>
      intro v3 v4 hF
      rw [fX6_brokenIn_L28] at hF
      cases hF
    | succ n28 ih28 =>
      intro v3 v4 hF ls hl
      rw [fX6_brokenIn_L28] at hF
      refine lv_iload hx hb dX6_brokenIn_28 (lv_at hl 3 rfl) ?_
      refine lv_iload_n hx hb dX6_brokenIn_30 rfl (lv_at hl 1 rfl) ?_
      refine lv_iload_n hx hb dX6_brokenIn_31 rfl (lv_at hl 2 rfl) ?_
      refine lv_iadd hx hb dX6_brokenIn_32 ?_
      refine lv_icmp_gt (tgt := 57) hx hb dX6_brokenIn_33 (by decide) (fun c_6 => ?_) (fun c_6 => ?_)
      · have hF := zt c_6 hF
        exact j57 hF ls (lv_sub hl [0, 1] rfl)
      · have hF := zf c_6 hF
        refine lv_aload_n hx hb dX6_brokenIn_36 rfl (lv_at hl 0 rfl) ?_
        refine lv_iload hx hb dX6_brokenIn_37 (lv_at hl 3 rfl) ?_
        obtain ⟨o_7, hc_7, hF⟩ := zb hF
        refine zcVR (rest := []) (kX7_signAt l D ca t ad_s s_holds s_kind s_figure s_sort s_size s_el si hsi v4 fuel _ hc_7) ⟨hx, hb, hml, hown, hts⟩ (zcwV hts zm_593 zm_591 zm_592 zm_422 zm_589 rfl rfl zdv_X7_signAt ⟨Nat.le_of_ble_eq_true rfl, Nat.le_of_ble_eq_true rfl⟩) hA hK hZ hP hD hS [0, 1, 2, 3, 4, 5, 6, 7, 8, 9, 10, 11, 12, 13, 14, 15] rfl rfl 4 (2 * si) rfl (zsh_at si hsi) rfl hl.1 (Nat.le_of_ble_eq_true rfl) dX6_brokenIn_39 rfl ?_
        obtain ⟨o_8, hc_8, hF⟩ := zb hF
        refine zcSR (rest := []) (kX6_isDigit l D ca t o_7 fuel _ hc_8) ⟨hx, hb, hml, hown, hts⟩ (zcwS hts zm_696 zm_695 zm_596 zm_694 rfl rfl zds_X6_isDigit ⟨Nat.le_of_ble_eq_true rfl, Nat.le_of_ble_eq_true rfl⟩) hA hK hZ hP hD hS [] rfl rfl rfl hl.1 (Nat.le_of_ble_eq_true rfl) dX6_brokenIn_42 rfl ?_
        refine lv_if_ne (tgt := 51) hx hb dX6_brokenIn_45 (by decide) (fun c_9 => ?_) (fun c_9 => ?_)
        · have hF := zf c_9 hF
          refine z_iinc (kv := 1) hx hb 3 dX6_brokenIn_51 hl rfl (by decide) (by decide) (fun g => [(4, .int g), (0, .ref (ad_s (2 * si))), (1, .int p1), (3, .int v3)]) (fun _ => rfl) hF (fun v4_10 ls hF hl => ?_)
          refine lv_goto (tgt := 28) hx hb dX6_brokenIn_54 (by decide) ?_
          exact ih28 v3 v4_10 hF ls (lv_sub hl [1, 2, 3, 0] rfl)
        · have hF := zt c_9 hF
          refine lv_iload hx hb dX6_brokenIn_48 (lv_at hl 3 rfl) ?_
          obtain rfl := Option.some.inj hF
          exact hret _ _ rfl dX6_brokenIn_50
  have j23 : ∀ (v3 : Int32), fX6_brokenIn_J23 fuel s_size s_el si p1 v3 = some o → ∀ ls : Array Slot, lv_has ls 5 [(0, .ref (ad_s (2 * si))), (1, .int p1), (3, .int v3)] → W p l e roX6_brokenIn s m args below meth c s.heap [] 0 0 Q (F0 m 23 ls []) := by
    intro v3 hF ls hl
    unfold fX6_brokenIn_J23 at hF
    refine lv_iload_n hx hb dX6_brokenIn_23 rfl (lv_at hl 1 rfl) ?_
    refine lv_iconst (v := 1) hx hb dX6_brokenIn_24 (by decide) ?_
    refine lv_iadd hx hb dX6_brokenIn_25 ?_
    refine z_let hF (fun v4_5 hF => ?_)
    refine lv_istore (lv' := [(4, .int v4_5), (0, .ref (ad_s (2 * si))), (1, .int p1), (3, .int v3)]) hx hb dX6_brokenIn_26 hl (by decide) rfl (fun ls hl => ?_)
    exact l28 fuel v3 v4_5 hF ls (lv_sub hl [1, 2, 3, 0] rfl)
  unfold fX6_brokenIn at hF
  refine lv_aload_n hx hb dX6_brokenIn_0 rfl (lv_at hl 0 rfl) ?_
  refine lv_iload_n hx hb dX6_brokenIn_1 rfl (lv_at hl 1 rfl) ?_
  obtain ⟨o_1, hc_1, hF⟩ := zb hF
  refine zcVR (rest := []) (kX7_signAt l D ca t ad_s s_holds s_kind s_figure s_sort s_size s_el si hsi p1 fuel _ hc_1) ⟨hx, hb, hml, hown, hts⟩ (zcwV hts zm_593 zm_591 zm_592 zm_422 zm_589 rfl rfl zdv_X7_signAt ⟨Nat.le_of_ble_eq_true rfl, Nat.le_of_ble_eq_true rfl⟩) hA hK hZ hP hD hS [0, 1, 2, 3, 4, 5, 6, 7, 8, 9, 10, 11, 12, 13, 14, 15] rfl rfl 4 (2 * si) rfl (zsh_at si hsi) rfl hl.1 (Nat.le_of_ble_eq_true rfl) dX6_brokenIn_2 rfl ?_
  refine lv_istore_n (lv' := [(2, .int o_1), (0, .ref (ad_s (2 * si))), (1, .int p1)]) hx hb dX6_brokenIn_5 rfl hl (by decide) rfl (fun ls hl => ?_)
  refine lv_iload_n hx hb dX6_brokenIn_6 rfl (lv_at hl 0 rfl) ?_
  obtain ⟨o_2, hc_2, hF⟩ := zb hF
  refine zcSR (rest := []) (kX6_digitsBehind l D ca t o_1 fuel _ hc_2) ⟨hx, hb, hml, hown, hts⟩ (zcwS hts zm_640 zm_639 zm_596 zm_638 rfl rfl zds_X6_digitsBehind ⟨Nat.le_of_ble_eq_true rfl, Nat.le_of_ble_eq_true rfl⟩) hA hK hZ hP hD hS [] rfl rfl rfl hl.1 (Nat.le_of_ble_eq_true rfl) dX6_brokenIn_7 rfl ?_
  refine lv_istore_n (lv' := [(3, .int o_2), (2, .int o_1), (0, .ref (ad_s (2 * si))), (1, .int p1)]) hx hb dX6_brokenIn_10 rfl hl (by decide) rfl (fun ls hl => ?_)
  refine lv_iload_n hx hb dX6_brokenIn_11 rfl (lv_at hl 0 rfl) ?_
  refine lv_if_ne (tgt := 23) hx hb dX6_brokenIn_12 (by decide) (fun c_3 => ?_) (fun c_3 => ?_)
  · have hF := zf c_3 hF
    exact j23 o_2 hF ls (lv_sub hl [2, 3, 0] rfl)
  · have hF := zt c_3 hF
    refine lv_iload_n hx hb dX6_brokenIn_15 rfl (lv_at hl 1 rfl) ?_
    refine lv_bipush (v := 114) hx hb dX6_brokenIn_16 (by decide) ?_
    refine lv_icmp_eq (tgt := 23) hx hb dX6_brokenIn_18 (by decide) (fun c_4 => ?_) (fun c_4 => ?_)
    · have hF := zt c_4 hF
      exact j23 o_2 hF ls (lv_sub hl [2, 3, 0] rfl)
    · have hF := zf c_4 hF
      refine lv_iload_n hx hb dX6_brokenIn_21 rfl (lv_at hl 3 rfl) ?_
      obtain rfl := Option.some.inj hF
      exact hret _ _ rfl dX6_brokenIn_22
theorem zds_X6_brokenIn : yX6_brokenIn.cls ≠ "java/lang/invoke/MethodHandle" ∧ yX6_brokenIn.cls ≠ "java/lang/invoke/VarHandle" ∧ (parseMethodDescriptor yX6_brokenIn.desc).map (fun d => d.parameters.length) = some 2 := by decide +kernel
abbrev roX6_brokenAt : Room := { frames := 5, cells := 0, slots := 0, locals := 110 }
set_option maxHeartbeats 4000000 in
set_option maxRecDepth 100000 in
theorem kX6_brokenAt (l : Launch) (D : va_G) (ca : Nat → ClassId) (t : Nat → Nat) (ad_s : Nat → Nat) (s_holds : Nat → Int32) (s_kind : Nat → Int32) (s_figure : Nat → Int32) (s_sort : Nat → Int32) (s_size : Nat → Int32) (s_el : Nat → Nat → Int32) (si : Nat) (hsi : si < 8) (fuel : Nat) (o : Int32) (hF : fX6_brokenAt fuel s_size s_el si = some o) : zRi l D (zT ca) t yX6_brokenAt (.code yX6_brokenAt cX6_brokenAt 4 (some .int) :: zW) roX6_brokenAt [.ref (ad_s (2 * si))] (wX6_s ca ad_s s_holds s_kind s_figure s_sort s_size s_el) o := by
  refine zRi_of (cc := cX6_brokenAt) (maxL := 4) (by decide) rfl (Nat.le_of_ble_eq_true rfl) ?_
  intro p e s m args below meth c A Q ls ⟨hx, hb, hml, hown, hts, hA, hK, hZ, hS⟩ hret hP hD hl
  have hts := fun w h => hts w (List.mem_cons_of_mem _ h)
  have hown : s.vm.findClass RX6 = some m.cls := hown
  have hl : lv_has ls 4 [(0, .ref (ad_s (2 * si)))] := hl
  have hin7 := zin_X7
  have l4 : ∀ (n4 : Nat) (v1 : Int32) (v2 : Int32), fX6_brokenAt_L4 fuel s_size s_el si n4 v1 v2 = some o → ∀ ls : Array Slot, lv_has ls 4 [(0, .ref (ad_s (2 * si))), (1, .int v1), (2, .int v2)] → W p l e roX6_brokenAt s m args below meth c s.heap [] 0 0 Q (F0 m 4 ls []) := by
    intro n4
    induction n4 with
    | zero =>
      intro v1 v2 hF
      rw [fX6_brokenAt_L4] at hF
      cases hF
    | succ n4 ih4 =>
      have j22 : ∀ (v1 : Int32) (v2 : Int32), fX6_brokenAt_J22 fuel s_size s_el si (fX6_brokenAt_L4 fuel s_size s_el si n4) v1 v2 = some o → ∀ ls : Array Slot, lv_has ls 4 [(0, .ref (ad_s (2 * si))), (1, .int v1), (2, .int v2)] → W p l e roX6_brokenAt s m args below meth c s.heap [] 0 0 Q (F0 m 22 ls []) := by
        intro v1 v2 hF ls hl
        unfold fX6_brokenAt_J22 at hF
        refine lv_aload_n hx hb dX6_brokenAt_22 rfl (lv_at hl 0 rfl) ?_
        refine lv_iload_n hx hb dX6_brokenAt_23 rfl (lv_at hl 1 rfl) ?_
        obtain ⟨o_4, hc_4, hF⟩ := zb hF
        refine zcSR (rest := []) (kX6_brokenIn l D ca t ad_s s_holds s_kind s_figure s_sort s_size s_el si hsi v1 fuel _ hc_4) ⟨hx, hb, hml, hown, hts⟩ (zcwS hts zm_779 zm_778 zm_596 zm_777 rfl rfl zds_X6_brokenIn ⟨Nat.le_of_ble_eq_true rfl, Nat.le_of_ble_eq_true rfl⟩) hA hK hZ hP hD hS [0, 1, 2, 3, 4, 5, 6, 7, 8, 9, 10, 11, 12, 13, 14, 15] rfl rfl rfl hl.1 (Nat.le_of_ble_eq_true rfl) dX6_brokenAt_24 rfl ?_
        refine lv_istore_n (lv' := [(3, .int o_4), (0, .ref (ad_s (2 * si))), (1, .int v1), (2, .int v2)]) hx hb dX6_brokenAt_27 rfl hl (by decide) rfl (fun ls hl => ?_)
        refine lv_iload_n hx hb dX6_brokenAt_28 rfl (lv_at hl 0 rfl) ?_
        refine lv_bipush (v := (-4)) hx hb dX6_brokenAt_29 (by decide) ?_
        refine lv_icmp_eq (tgt := 36) hx hb dX6_brokenAt_31 (by decide) (fun c_5 => ?_) (fun c_5 => ?_)
        · have hF := zt c_5 hF
          refine lv_iload_n hx hb dX6_brokenAt_36 rfl (lv_at hl 2 rfl) ?_
          refine lv_aload_n hx hb dX6_brokenAt_37 rfl (lv_at hl 1 rfl) ?_
          refine lv_iload_n hx hb dX6_brokenAt_38 rfl (lv_at hl 2 rfl) ?_
          obtain ⟨o_6, hc_6, hF⟩ := zb hF
          refine zcSR (rest := [.int v1]) (kX6_lengthOf l D ca t ad_s s_holds s_kind s_figure s_sort s_size s_el si hsi v1 fuel _ hc_6) ⟨hx, hb, hml, hown, hts⟩ (zcwS hts zm_693 zm_692 zm_596 zm_691 rfl rfl zds_X6_lengthOf ⟨Nat.le_of_ble_eq_true rfl, Nat.le_of_ble_eq_true rfl⟩) hA hK hZ hP hD hS [0, 1, 2, 3, 4, 5, 6, 7, 8, 9, 10, 11, 12, 13, 14, 15] rfl rfl rfl hl.1 (Nat.le_of_ble_eq_true rfl) dX6_brokenAt_39 rfl ?_
          refine lv_iadd hx hb dX6_brokenAt_42 ?_
          refine z_let hF (fun v1_7 hF => ?_)
          refine lv_istore_n (lv' := [(1, .int v1_7), (3, .int o_4), (0, .ref (ad_s (2 * si))), (2, .int v2)]) hx hb dX6_brokenAt_43 rfl hl (by decide) rfl (fun ls hl => ?_)
          refine z_iinc (kv := 1) hx hb 3 dX6_brokenAt_44 hl rfl (by decide) (by decide) (fun g => [(2, .int g), (1, .int v1_7), (3, .int o_4), (0, .ref (ad_s (2 * si)))]) (fun _ => rfl) hF (fun v2_8 ls hF hl => ?_)
          refine lv_goto (tgt := 4) hx hb dX6_brokenAt_47 (by decide) ?_
          exact ih4 v1_7 v2_8 hF ls (lv_sub hl [3, 1, 0] rfl)
        · have hF := zf c_5 hF
          refine lv_iload_n hx hb dX6_brokenAt_34 rfl (lv_at hl 0 rfl) ?_
          obtain rfl := Option.some.inj hF
          exact hret _ _ rfl dX6_brokenAt_35
      intro v1 v2 hF ls hl
      rw [fX6_brokenAt_L4] at hF
      refine lv_iload_n hx hb dX6_brokenAt_4 rfl (lv_at hl 2 rfl) ?_
      refine lv_if_eq (tgt := 22) hx hb dX6_brokenAt_5 (by decide) (fun c_1 => ?_) (fun c_1 => ?_)
      · have hF := zt c_1 hF
        exact j22 v1 v2 hF ls (lv_sub hl [0, 1, 2] rfl)
      · have hF := zf c_1 hF
        refine lv_iload_n hx hb dX6_brokenAt_8 rfl (lv_at hl 2 rfl) ?_
        refine lv_bipush (v := 100) hx hb dX6_brokenAt_9 (by decide) ?_
        refine lv_icmp_ge (tgt := 50) hx hb dX6_brokenAt_11 (by decide) (fun c_2 => ?_) (fun c_2 => ?_)
        · have hF := zt c_2 hF
          refine lv_bipush (v := (-4)) hx hb dX6_brokenAt_50 (by decide) ?_
          obtain rfl := Option.some.inj hF
          exact hret _ _ rfl dX6_brokenAt_52
        · have hF := zf c_2 hF
          refine lv_iload_n hx hb dX6_brokenAt_14 rfl (lv_at hl 1 rfl) ?_
          refine lv_aload_n hx hb dX6_brokenAt_15 rfl (lv_at hl 0 rfl) ?_
          refine va_get (D := D) (ci := 4) (v := .int (s_size si)) (C := RX7) (T := TX7) (N := 6) hx hb hts hin7 hown hK hP (2 * si) (zsh_at si hsi) rfl 4 (by decide) (hts _ zm_406) (fun _ h9 => h9) rfl dX6_brokenAt_16 ?_
          refine lv_icmp_ge (tgt := 50) hx hb dX6_brokenAt_19 (by decide) (fun c_3 => ?_) (fun c_3 => ?_)
          · have hF := zt c_3 hF
            refine lv_bipush (v := (-4)) hx hb dX6_brokenAt_50 (by decide) ?_
            obtain rfl := Option.some.inj hF
            exact hret _ _ rfl dX6_brokenAt_52
          · have hF := zf c_3 hF
            exact j22 v1 v2 hF ls (lv_sub hl [0, 1, 2] rfl)
  unfold fX6_brokenAt at hF
  refine lv_iconst (v := 0) hx hb dX6_brokenAt_0 (by decide) ?_
  refine lv_istore_n (lv' := [(1, .int 0), (0, .ref (ad_s (2 * si)))]) hx hb dX6_brokenAt_1 rfl hl (by decide) rfl (fun ls hl => ?_)
  refine lv_iconst (v := 0) hx hb dX6_brokenAt_2 (by decide) ?_
  refine lv_istore_n (lv' := [(2, .int 0), (1, .int 0), (0, .ref (ad_s (2 * si)))]) hx hb dX6_brokenAt_3 rfl hl (by decide) rfl (fun ls hl => ?_)
  exact l4 fuel 0 0 hF ls (lv_sub hl [2, 1, 0] rfl)
