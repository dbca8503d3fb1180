def fX9_element (fuel : Nat) (s_holds s_size : Nat → Int32) (s_el : Nat → Nat → Int32) (p1 p2 : Int32) : Option (Int32 × Int64) :=
  (fX9_isShelf fuel p1).bind fun o_1 =>
  if o_1 = 0 then some (1, 0)
  else
    (fX9_refusalOf fuel s_holds p1 2).bind fun o_2 =>
    if o_2 = 0 then (
      zg (zin p1 8) <|
      (fX7_hasPlace fuel s_size p1.toNatClampNeg p2).bind fun o_3 =>
      if o_3 = 0 then some (2, 0)
      else zg (zin p2 100) <| some (0, (s_el p1.toNatClampNeg p2.toNatClampNeg).toInt64))
    else some (2, 0)
abbrev roX9_element : Room := { frames := 7, cells := 1, slots := 6, locals := 100 }
set_option maxHeartbeats 4000000 in
set_option maxRecDepth 100000 in
theorem kX9_element {l : Launch} (hst : l.stackTraces = false) (D : va_G) (ca : Nat → ClassId) (t : Nat → Nat) (ad_s ad_x ad_d ad_p ad_n ad_q : Nat → Nat) (s_holds s_kind s_figure s_sort s_size : Nat → Int32) (s_el : Nat → Nat → Int32) (x_hasPicture : Int32) (p1 p2 : Int32) (fuel : Nat) (o : Int32 × Int64) (hF : fX9_element fuel s_holds s_size s_el p1 p2 = some o) (sz : Nat) :
    vx_Met l yX9_element (.code yX9_element cX9_element 3 (some .long) :: zV) roX9_element (va_Pc [.ref (ad_x 0), .int p1, .int p2] (zPreX D (zT ca) t (wX9_sx ca ad_s ad_x ad_d ad_p ad_n ad_q s_holds s_kind s_figure s_sort s_size s_el x_hasPicture) sz)) (va_Ql (fun (x : Int64) (_ : Unit) => o = (0, x)) (fun _ _ => True) (fun _ => False)) (vx_X (fun (_ : Unit) => True) (fun E _ _ => (E = zEA ∧ o = (1, 0)) ∨ (E = zES ∧ o = (2, 0))) (fun _ => False)) 1 6 (va_A (wX9_sx ca ad_s ad_x ad_d ad_p ad_n ad_q s_holds s_kind s_figure s_sort s_size s_el x_hasPicture) sz) := by
  refine vx_ofW (cc := cX9_element) (maxL := 3) (ret := some .long) (by decide) rfl ?_
  intro p e s m args below meth c s₁ B hml hexc hv
  obtain ⟨rfl, ⟨hsz, hP, hK, hD0, hZ⟩, hX⟩ := hv
  have hx := B.exec
  have hb := B.bytes
  have hr := B.returns
  have hts := atoms_spec (ws := .code yX9_element cX9_element 3 (some .long) :: zV) B.pre
  have hts := fun w h => hts w (List.mem_cons_of_mem _ h)
  have htsW : ∀ w ∈ zW, w.before _ s = true := fun w h => hts w (zV_W w h)
  have hown : s.vm.findClass RX9 = some m.cls := findClass_of_methodNamed B.named
  have hlocks := B.notSynchronized
  subst hsz
  have hl := lv_entry [.ref (ad_x 0), .int p1, .int p2] (n := 3) (Nat.le_of_ble_eq_true rfl)
  rw [lg_entry_eq]
  have hl : lv_has _ 3 [(0, .ref (ad_x 0)), (1, .int p1), (2, .int p2)] := hl
  have hS : va_S (va_A (wX9_sx ca ad_s ad_x ad_d ad_p ad_n ad_q s_holds s_kind s_figure s_sort s_size s_el x_hasPicture) s.heap.size) s.heap s.heap [] := va_S.rf
  have hA : ∀ q, s.heap.size ≤ q → va_A (wX9_sx ca ad_s ad_x ad_d ad_p ad_n ad_q s_holds s_kind s_figure s_sort s_size s_el x_hasPicture) s.heap.size q := fun q h => Or.inr h
  have hD := hD0.self (sz := s.heap.size)
  have hin7 := zin_X7
  have hin9 := zin_X9
  show W p l e roX9_element s m _ below meth c s.heap [] 0 0 _ _
  unfold fX9_element at hF
  refine lv_iload_n hx hb dX9_element_0 rfl (lv_at hl 1 rfl) ?_
  obtain ⟨o_1, hc_1, hF⟩ := zb hF
  refine zcSR (rest := []) (kX9_isShelf l D ca t p1 fuel _ hc_1) ⟨hx, hb, hml, hown, htsW⟩ (zcwS htsW zm_8 zm_6 zm_7 zm_5 rfl rfl zds_X9_isShelf ⟨Nat.le_of_ble_eq_true rfl, Nat.le_of_ble_eq_true rfl⟩) hA hK hZ hP hD hS [] rfl rfl rfl hl.1 (Nat.le_of_ble_eq_true rfl) dX9_element_1 rfl ?_
  refine lv_if_ne (tgt := 18) hx hb dX9_element_4 (by decide) (fun c_1 => ?_) (fun c_1 => ?_)
  · have hF := zf c_1 hF
    obtain ⟨o_2, hc_2, hF⟩ := zb hF
    refine lv_aload_n hx hb dX9_element_18 rfl (lv_at hl 0 rfl) ?_
    refine lv_iload_n hx hb dX9_element_19 rfl (lv_at hl 1 rfl) ?_
    refine lv_iconst (v := 2) hx hb dX9_element_20 (by decide) ?_
    refine zcVR (rest := []) (kX9_refusalOf l D ca t ad_s ad_x ad_d ad_p ad_n ad_q s_holds s_kind s_figure s_sort s_size s_el x_hasPicture p1 2 fuel _ hc_2) ⟨hx, hb, hml, hown, htsW⟩ (zcwV htsW zm_12 zm_13 zm_14 zm_7 zm_11 rfl rfl zdv_X9_refusalOf ⟨Nat.le_of_ble_eq_true rfl, Nat.le_of_ble_eq_true rfl⟩) hA hK hZ hP hD hS [0, 1, 2, 3, 4, 5, 6, 7, 8, 9, 10, 11, 12, 13, 14, 15, 16, 17] rfl rfl 6 16 rfl rfl rfl hl.1 (Nat.le_of_ble_eq_true rfl) dX9_element_21 rfl ?_
    refine lv_if_ne (tgt := 40) hx hb dX9_element_24 (by decide) (fun c_2 => ?_) (fun c_2 => ?_)
    · have hF := zf c_2 hF
      obtain rfl := Option.some.inj hF
      obtain ⟨sa, hstr⟩ := hX.2.2.2.2.2.2
      exact vx_throwSW (own := RX9) (cls := zES) (text := "no row, or no such place") (names := zNm) (ik := 369) (is := 371) (ic := 373) (A := va_A (wX9_sx ca ad_s ad_x ad_d ad_p ad_n ad_q s_holds s_kind s_figure s_sort s_size s_el x_hasPicture) s.heap.size) hx hb hst hown (by decide) (by decide) (hts _ (zV_l 4 rfl)) (hts _ (zV_l 10 rfl)) hstr (zHat zAt5 hts hX) (zHok rfl rfl zAt5) hZ.2.2.2.2.1 hZ.2.2.2.2.2 hS (hl.1.trans hml.symm) dX9_element_40 dX9_element_43 dX9_element_44 dX9_element_47 dX9_element_50 (fun x hx => (hexc x hx).elim) (Nat.le_of_ble_eq_true rfl) (Nat.le_of_ble_eq_true rfl) (Nat.le_of_ble_eq_true rfl) (Nat.le_of_ble_eq_true rfl) hlocks (fun t hv h1 h2 => ⟨(), trivial, Or.inr ⟨rfl, rfl⟩, h1, fun q h _ => h2 q h⟩) (fun z h => by cases h) (Nat.le_refl _) (Nat.le_refl _)
    · have hF := zt c_2 hF
      obtain ⟨h_3, hF⟩ := zgi hF
      obtain ⟨o_3, hc_3, hF⟩ := zb hF
      refine lv_aload_n hx hb dX9_element_27 rfl (lv_at hl 0 rfl) ?_
      refine va_get (D := D) (ci := 6) (v := .ref (ad_x 1)) (C := RX9) (T := TX9) (N := 6) hx hb htsW hin9 hown hK hP 16 rfl rfl 3 (by decide) (htsW _ zm_9) (fun _ h9 => h9) rfl dX9_element_28 ?_
      refine lv_iload_n hx hb dX9_element_31 rfl (lv_at hl 1 rfl) ?_
      refine z_aald hx hb hK hP 17 3 rfl rfl rfl h_3 dX9_element_32 ?_
      refine lv_iload_n hx hb dX9_element_33 rfl (lv_at hl 2 rfl) ?_
      refine zcVR (rest := []) (kX7_hasPlace l D ca t ad_s s_holds s_kind s_figure s_sort s_size s_el p1.toNatClampNeg (zin_lt h_3) p2 fuel _ hc_3) ⟨hx, hb, hml, hown, htsW⟩ (zcwV htsW zm_498 zm_420 zm_421 zm_422 zm_418 rfl rfl zdv_X7_hasPlace ⟨Nat.le_of_ble_eq_true rfl, Nat.le_of_ble_eq_true rfl⟩) hA hK hZ hP hD hS [0, 1, 2, 3, 4, 5, 6, 7, 8, 9, 10, 11, 12, 13, 14, 15] rfl rfl 4 (2 * p1.toNatClampNeg) rfl (zsh_at p1.toNatClampNeg (zin_lt h_3)) rfl hl.1 (Nat.le_of_ble_eq_true rfl) dX9_element_34 rfl ?_
      refine lv_if_ne (tgt := 51) hx hb dX9_element_37 (by decide) (fun c_3 => ?_) (fun c_3 => ?_)
      · have hF := zf c_3 hF
        obtain ⟨h_4, hF⟩ := zgi hF
        refine lv_aload_n hx hb dX9_element_51 rfl (lv_at hl 0 rfl) ?_
        refine va_get (D := D) (ci := 6) (v := .ref (ad_x 1)) (C := RX9) (T := TX9) (N := 6) hx hb htsW hin9 hown hK hP 16 rfl rfl 3 (by decide) (htsW _ zm_9) (fun _ h9 => h9) rfl dX9_element_52 ?_
        refine lv_iload_n hx hb dX9_element_55 rfl (lv_at hl 1 rfl) ?_
        refine z_aald hx hb hK hP 17 3 rfl rfl rfl h_3 dX9_element_56 ?_
        refine va_get (D := D) (ci := 4) (v := .ref (ad_s (2 * p1.toNatClampNeg + 1))) (C := RX7) (T := TX7) (N := 6) hx hb htsW hin7 hown hK hP (2 * p1.toNatClampNeg) (zsh_at p1.toNatClampNeg (zin_lt h_3)) rfl 5 (by decide) (hts _ (zV_l 25 rfl)) (fun _ h9 => h9) rfl dX9_element_57 ?_
        refine lv_iload_n hx hb dX9_element_60 rfl (lv_at hl 2 rfl) ?_
        refine va_iald hx hb hK hP (2 * p1.toNatClampNeg + 1) 0 (zsh_el p1.toNatClampNeg (zin_lt h_3)) rfl h_4 dX9_element_61 ?_
        refine lv_i2l hx hb dX9_element_62 rfl ?_
        obtain rfl := Option.some.inj hF
        refine vx_ret ?_
        refine W.widen (k := 1) (n := 6) (Nat.zero_le _) (Nat.zero_le _) ?_
        exact W.lret hx hb hr (fun t ht hW => ⟨⟨_, (), rfl, rfl, trivial⟩, by rw [ht]; exact Nat.le_refl _, fun q _ _ => by rw [ht]⟩) hS.2.2 dX9_element_63
      · have hF := zt c_3 hF
        obtain rfl := Option.some.inj hF
        obtain ⟨sa, hstr⟩ := hX.2.2.2.2.2.2
        exact vx_throwSW (own := RX9) (cls := zES) (text := "no row, or no such place") (names := zNm) (ik := 369) (is := 371) (ic := 373) (A := va_A (wX9_sx ca ad_s ad_x ad_d ad_p ad_n ad_q s_holds s_kind s_figure s_sort s_size s_el x_hasPicture) s.heap.size) hx hb hst hown (by decide) (by decide) (hts _ (zV_l 4 rfl)) (hts _ (zV_l 10 rfl)) hstr (zHat zAt5 hts hX) (zHok rfl rfl zAt5) hZ.2.2.2.2.1 hZ.2.2.2.2.2 hS (hl.1.trans hml.symm) dX9_element_40 dX9_element_43 dX9_element_44 dX9_element_47 dX9_element_50 (fun x hx => (hexc x hx).elim) (Nat.le_of_ble_eq_true rfl) (Nat.le_of_ble_eq_true rfl) (Nat.le_of_ble_eq_true rfl) (Nat.le_of_ble_eq_true rfl) hlocks (fun t hv h1 h2 => ⟨(), trivial, Or.inr ⟨rfl, rfl⟩, h1, fun q h _ => h2 q h⟩) (fun z h => by cases h) (Nat.le_refl _) (Nat.le_refl _)
  · have hF := zt c_1 hF
    obtain rfl := Option.some.inj hF
    obtain ⟨sa, hstr⟩ := hX.2.2.2.2.2.1
    exact vx_throwSW (own := RX9) (cls := zEA) (text := "no such shelf") (names := zNm) (ik := 362) (is := 364) (ic := 366) (A := va_A (wX9_sx ca ad_s ad_x ad_d ad_p ad_n ad_q s_holds s_kind s_figure s_sort s_size s_el x_hasPicture) s.heap.size) hx hb hst hown (by decide) (by decide) (hts _ (zV_l 3 rfl)) (hts _ (zV_l 9 rfl)) hstr (zHat zAt4 hts hX) (zHok rfl rfl zAt4) hZ.2.2.2.2.1 hZ.2.2.2.2.2 hS (hl.1.trans hml.symm) dX9_element_7 dX9_element_10 dX9_element_11 dX9_element_14 dX9_element_17 (fun x hx => (hexc x hx).elim) (Nat.le_of_ble_eq_true rfl) (Nat.le_of_ble_eq_true rfl) (Nat.le_of_ble_eq_true rfl) (Nat.le_of_ble_eq_true rfl) hlocks (fun t hv h1 h2 => ⟨(), trivial, Or.inl ⟨rfl, rfl⟩, h1, fun q h _ => h2 q h⟩) (fun z h => by cases h) (Nat.le_refl _) (Nat.le_refl _)
abbrev roL_element : Room := { frames := 8, cells := 1, slots := 6, locals := 130 }
abbrev hhL_element : List (Nat × Nat × Nat × Nat) := [(0, 9, 12, 13), (0, 9, 16, 15)]
theorem zdv_X9_element : yX9_element.cls = RX9 ∧ yX9_element.cls ≠ "java/lang/invoke/MethodHandle" ∧ yX9_element.cls ≠ "java/lang/invoke/VarHandle" ∧ (parseMethodDescriptor yX9_element.desc).map (fun d => d.parameters.length) = some 2 := by decide +kernel
set_option maxHeartbeats 4000000 in
set_option maxRecDepth 100000 in
theorem kL_element {l : Launch} (hst : l.stackTraces = false) (D : va_G) (ca : Nat → ClassId) (t : Nat → Nat) (ad_s ad_x ad_d ad_p ad_n ad_q : Nat → Nat) (s_holds s_kind s_figure s_sort s_size : Nat → Int32) (s_el : Nat → Nat → Int32) (x_hasPicture : Int32) (ad_o : Nat) (o_out : Nat → Int64) (p1 p2 : Int32) (fuel : Nat) (o : Int32 × Int64) (hF : fX9_element fuel s_holds s_size s_el p1 p2 = some o) (sz : Nat) :
    Met l yL_element (.codeWith yL_element cL_element 5 (some .int) hhL_element :: zV) roL_element (va_Pc [.ref (ad_x 0), .int p1, .int p2, .ref ad_o] (zPreX D (zT ca) t ((wX9_sx ca ad_s ad_x ad_d ad_p ad_n ad_q s_holds s_kind s_figure s_sort s_size s_el x_hasPicture) ++ uL_o ca ad_o o_out) sz)) (va_Qi (fun (x : Int32) (_ : Unit) => x = o.1) (fun _ U => va_P D vwCl ((wX9_sx ca ad_s ad_x ad_d ad_p ad_n ad_q s_holds s_kind s_figure s_sort s_size s_el x_hasPicture) ++ uL_o ca ad_o (if o.1 = 0 then vp_updL o_out 0 o.2 else o_out)) U.heap) (va_A ((wX9_sx ca ad_s ad_x ad_d ad_p ad_n ad_q s_holds s_kind s_figure s_sort s_size s_el x_hasPicture) ++ uL_o ca ad_o o_out) sz)) 1 6 (va_A ((wX9_sx ca ad_s ad_x ad_d ad_p ad_n ad_q s_holds s_kind s_figure s_sort s_size s_el x_hasPicture) ++ uL_o ca ad_o o_out) sz) := by
  refine va_MetW (cc := cL_element) (maxL := 5) (ret := some .int) (hh := hhL_element) (by decide) rfl ?_
  intro p e s m args below meth c s₁ B hml hv
  obtain ⟨rfl, ⟨hsz, hP, hK, hD0, hZ⟩, hX⟩ := hv
  have hx := B.exec
  have hb := B.bytes
  have hr := B.returns
  have hts := atoms_spec (ws := .codeWith yL_element cL_element 5 (some .int) hhL_element :: zV) B.pre
  have hTb := vx_table (x := yL_element) B (hts _ List.mem_cons_self)
  have hts := fun w h => hts w (List.mem_cons_of_mem _ h)
  have htsW : ∀ w ∈ zW, w.before _ s = true := fun w h => hts w (zV_W w h)
  have hown : s.vm.findClass RL = some m.cls := findClass_of_methodNamed B.named
  have hlocks := B.notSynchronized
  subst hsz
  have hl := lv_entry [.ref (ad_x 0), .int p1, .int p2, .ref ad_o] (n := 5) (Nat.le_of_ble_eq_true rfl)
  rw [lg_entry_eq]
  have hl : lv_has _ 5 [(0, .ref (ad_x 0)), (1, .int p1), (2, .int p2), (3, .ref ad_o)] := hl
  have hS : va_S (va_A ((wX9_sx ca ad_s ad_x ad_d ad_p ad_n ad_q s_holds s_kind s_figure s_sort s_size s_el x_hasPicture) ++ uL_o ca ad_o o_out) s.heap.size) s.heap s.heap [] := va_S.rf
  have hA : ∀ q, s.heap.size ≤ q → va_A ((wX9_sx ca ad_s ad_x ad_d ad_p ad_n ad_q s_holds s_kind s_figure s_sort s_size s_el x_hasPicture) ++ uL_o ca ad_o o_out) s.heap.size q := fun q h => Or.inr h
  have hD := hD0.self (sz := s.heap.size)
  have hin7 := zin_X7
  have hin9 := zin_X9
  show W p l e roL_element s m _ below meth c s.heap [] 0 0 _ _
  have hPa : va_P D vwCl (wX9_sx ca ad_s ad_x ad_d ad_p ad_n ad_q s_holds s_kind s_figure s_sort s_size s_el x_hasPicture) s.heap := zPfst hP
  have hPb : va_P D vwCl (uL_o ca ad_o o_out) s.heap := zPsnd hP
  have hDa : va_D (va_A ((wX9_sx ca ad_s ad_x ad_d ad_p ad_n ad_q s_holds s_kind s_figure s_sort s_size s_el x_hasPicture) ++ uL_o ca ad_o o_out) s.heap.size) (wX9_sx ca ad_s ad_x ad_d ad_p ad_n ad_q s_holds s_kind s_figure s_sort s_size s_el x_hasPicture) := ⟨fun i j p q hi hj e => hD.1 i j p q (by rw [List.getElem?_append_left (List.getElem?_eq_some_iff.mp hi).1]; exact hi) (by rw [List.getElem?_append_left (List.getElem?_eq_some_iff.mp hj).1]; exact hj) e, fun k q hk => hD.2 k q (by rw [List.getElem?_append_left (List.getElem?_eq_some_iff.mp hk).1]; exact hk)⟩
  refine lv_aload_n hx hb dL_element_0 rfl (lv_at hl 3 rfl) ?_
  refine lv_iconst (v := 0) hx hb dL_element_1 (by decide) ?_
  refine lv_aload_n hx hb dL_element_2 rfl (lv_at hl 0 rfl) ?_
  refine lv_iload_n hx hb dL_element_3 rfl (lv_at hl 1 rfl) ?_
  refine lv_iload_n hx hb dL_element_4 rfl (lv_at hl 2 rfl) ?_
  have hend : ∀ (H1 : Heap) (locs1 : List Loc) (pc : Nat) (ls : Array Slot) (r : Int32), r = o.1 → va_P D vwCl ((wX9_sx ca ad_s ad_x ad_d ad_p ad_n ad_q s_holds s_kind s_figure s_sort s_size s_el x_hasPicture) ++ uL_o ca ad_o (if o.1 = 0 then vp_updL o_out 0 o.2 else o_out)) H1 → va_S (va_A ((wX9_sx ca ad_s ad_x ad_d ad_p ad_n ad_q s_holds s_kind s_figure s_sort s_size s_el x_hasPicture) ++ uL_o ca ad_o o_out) s.heap.size) s.heap H1 locs1 → decode cL_element pc = .ok (.ireturn, 1) → W p l e roL_element s m ([.ref (ad_x 0), .int p1, .int p2, .ref ad_o] : List Value).toArray below meth c H1 locs1 1 6 (MQ below (va_Qi (fun (x : Int32) (_ : Unit) => x = o.1) (fun _ U => va_P D vwCl ((wX9_sx ca ad_s ad_x ad_d ad_p ad_n ad_q s_holds s_kind s_figure s_sort s_size s_el x_hasPicture) ++ uL_o ca ad_o (if o.1 = 0 then vp_updL o_out 0 o.2 else o_out)) U.heap) (va_A ((wX9_sx ca ad_s ad_x ad_d ad_p ad_n ad_q s_holds s_kind s_figure s_sort s_size s_el x_hasPicture) ++ uL_o ca ad_o o_out) s.heap.size)) ([.ref (ad_x 0), .int p1, .int p2, .ref ad_o] : List Value).toArray s 1 6 (va_A ((wX9_sx ca ad_s ad_x ad_d ad_p ad_n ad_q s_holds s_kind s_figure s_sort s_size s_el x_hasPicture) ++ uL_o ca ad_o o_out) s.heap.size)) (F0 m pc ls [.int r]) := by
    intro H1 locs1 pc ls r hr1 h0 h3 hd
    exact W.zret (ty := .int) hx hb hr rfl (fun t ht hW => ⟨⟨r, (), rfl, hr1, by show va_P _ _ _ t.heap; rw [ht]; exact h0⟩, h3.F ht⟩) h3.2.2 hd
  refine vx_calll (rest := [.int 0, .ref ad_o]) (vx_runV (b := ad_x 0) (As := [.int p1, .int p2]) (rest := [.int 0, .ref ad_o]) ⟨hx, hb, hml, hown, hts⟩ (kX9_element hst D ca t ad_s ad_x ad_d ad_p ad_n ad_q s_holds s_kind s_figure s_sort s_size s_el x_hasPicture p1 p2 fuel o hF s.heap.size) (zcwVX (C := RX9) (n := 2) hts (zV_l 28 rfl) (zV_l 29 rfl) (zV_l 30 rfl) (zV_l 31 rfl) (zV_l 32 rfl) (fun w h => h) rfl rfl zdv_X9_element ⟨Nat.le_of_ble_eq_true rfl, Nat.le_of_ble_eq_true rfl⟩) ⟨zPreX.blind, va_recv (q0 := 16) hK hPa rfl rfl, fun U hU hW => ⟨rfl, (zcU (as := [.ref (ad_x 0), .int p1, .int p2]) hA hK hZ hPa hDa hS U hU hW).2, zXs.warm hW hX⟩⟩ rfl rfl hl.1 rfl (lv_room (Nat.le_of_ble_eq_true rfl)) dL_element_5 ⟨Nat.le_of_ble_eq_true rfl, Nat.le_of_ble_eq_true rfl⟩) hS (fun q _ h => h.elim) (fun q h => va_free hDa hS hA (List.range _) (zfull _) q h) (fun q _ h => h.elim) ?_ ?_
  · intro E ce q9 u tt H1 locs1 ht hvm hpx hE hz1 hk1 hS1 hce hcv hcl
    have hk2 : ∀ q : Nat, q < s.heap.size → H1[q]? = s.heap[q]? := fun q h => hk1 q h (fun z => z)
    have hP1 : va_P D vwCl ((wX9_sx ca ad_s ad_x ad_d ad_p ad_n ad_q s_holds s_kind s_figure s_sort s_size s_el x_hasPicture) ++ uL_o ca ad_o o_out) H1 := va_P.kept hP (fun k q hk => hk2 _ (vx_lt hP hk))
    rcases hE with ⟨rfl, rfl⟩ | ⟨rfl, rfl⟩
    · refine vx_catch (own := RL) (name := zEA) (E := zEA) hown [] ⟨0, 9, 12, 13⟩ [⟨0, 9, 16, 15⟩] (hTb.trans rfl) (fun z h => by cases h) (by decide) (by decide) (hts _ (zV_l 6 rfl)) (va_Nw.use rfl (hX.1 (.castable zEA zEA) (by decide +kernel))) hce hcv hcl ?_
      refine lv_astore (lv' := (4, .ref q9) :: [(0, .ref (ad_x 0)), (1, .int p1), (2, .int p2), (3, .ref ad_o)]) hx hb dL_element_12 hl (by decide) rfl (fun ls hl => ?_)
      refine lv_iconst (v := 1) hx hb dL_element_14 (by decide) ?_
      exact hend H1 locs1 _ _ _ rfl hP1 hS1 dL_element_15
    · refine vx_catch (own := RL) (name := zES) (E := zES) hown [⟨0, 9, 12, 13⟩] ⟨0, 9, 16, 15⟩ [] (hTb.trans rfl) ?_ (by decide) (by decide) (hts _ (zV_l 7 rfl)) (va_Nw.use rfl (hX.1 (.castable zES zES) (by decide +kernel))) hce hcv hcl ?_
      · intro z hz
        rcases List.mem_cons.mp hz with rfl | hz
        · exact Or.inr ⟨by decide, zEA, hts _ (zV_l 6 rfl), hX.2.1.2.2⟩
        · cases hz
      refine lv_astore (lv' := (4, .ref q9) :: [(0, .ref (ad_x 0)), (1, .int p1), (2, .int p2), (3, .ref ad_o)]) hx hb dL_element_16 hl (by decide) rfl (fun ls hl => ?_)
      refine lv_iconst (v := 2) hx hb dL_element_18 (by decide) ?_
      exact hend H1 locs1 _ _ _ rfl hP1 hS1 dL_element_19
  · intro r u tt H1 locs1 ht hvm hpx _ hz1 hk1 hS1
    have hk2 : ∀ q : Nat, q < s.heap.size → H1[q]? = s.heap[q]? := fun q h => hk1 q h (fun z => z)
    have hP1 : va_P D vwCl ((wX9_sx ca ad_s ad_x ad_d ad_p ad_n ad_q s_holds s_kind s_figure s_sort s_size s_el x_hasPicture) ++ uL_o ca ad_o o_out) H1 := va_P.kept hP (fun k q hk => hk2 _ (vx_lt hP hk))
    subst hpx
    refine va_last hx hb hK hP1 hD hS1 18 5 rfl rfl (zin_ok (by decide)) dL_element_8 (fun H2 locs2 hP2 hD2 hS2 => ?_)
    refine lv_goto (tgt := 20) hx hb dL_element_9 (by decide) ?_
    refine lv_iconst (v := 0) hx hb dL_element_20 (by decide) ?_
    exact hend H2 locs2 _ _ _ rfl (by rw [if_pos rfl]; exact hP2) hS2 dL_element_21
