def fX9_toss (fuel : Nat) (s_holds s_kind s_figure : Nat → Int32) (p1 : Int32) : Option Int32 :=
  (fX9_refusalOf fuel s_holds p1 1).bind fun o_1 =>
  if o_1 = 0 then (
    zg (zin p1 8) <|
    (fX1_isBlack fuel (s_kind p1.toNatClampNeg)).bind fun ob =>
    if s_kind p1.toNatClampNeg = 7 ∨ s_figure p1.toNatClampNeg = 0 then some (-15)
    else if s_kind p1.toNatClampNeg = 4 then
      (fX1_price fuel (s_kind p1.toNatClampNeg) (s_figure p1.toNatClampNeg)).bind fun pr => some (200 + pr)
    else if ob = 0 then some (s_figure p1.toNatClampNeg)
    else some (100 + s_figure p1.toNatClampNeg))
  else some o_1
abbrev roX9_toss : Room := { frames := 8, cells := 1, slots := 6, locals := 130 }
abbrev hhX9_toss : List (Nat × Nat × Nat × Nat) := [(34, 40, 43, 395), (34, 40, 56, 362), (34, 40, 64, 369)]
theorem zds_X1_fail : yX1_fail.cls ≠ "java/lang/invoke/MethodHandle" ∧ yX1_fail.cls ≠ "java/lang/invoke/VarHandle" ∧ (parseMethodDescriptor yX1_fail.desc).map (fun d => d.parameters.length) = some 2 := by decide +kernel
theorem zPn {D : va_G} {H : Heap} : va_P D vwCl [] H := fun k q h => by cases h
theorem zDn {A : Nat → Prop} : va_D A [] := ⟨fun i j p q h _ _ => absurd h (by simp), fun k q h => absurd h (by simp)⟩
set_option maxHeartbeats 4000000 in
set_option maxRecDepth 100000 in
theorem kX9_toss {l : Launch} (hst : l.stackTraces = false) (D : va_G) (ca : Nat → ClassId) (t : Nat → Nat) (ad_s ad_x ad_d ad_p ad_n ad_q : Nat → Nat) (s_holds s_kind s_figure s_sort s_size : Nat → Int32) (s_el : Nat → Nat → Int32) (x_hasPicture : Int32) (p1 : Int32) (fuel : Nat) (o : Int32) (hF : fX9_toss fuel s_holds s_kind s_figure p1 = some o) (sz : Nat) :
    Met l yX9_toss (.codeWith yX9_toss cX9_toss 6 (some .int) hhX9_toss :: zV) roX9_toss (va_Pc [.ref (ad_x 0), .int p1] (zPreX D (zT ca) t (wX9_sx ca ad_s ad_x ad_d ad_p ad_n ad_q s_holds s_kind s_figure s_sort s_size s_el x_hasPicture) sz)) (va_Qi (fun (x : Int32) (_ : Unit) => x = o) (fun _ _ => True) (fun _ => False)) 1 6 (va_A (wX9_sx ca ad_s ad_x ad_d ad_p ad_n ad_q s_holds s_kind s_figure s_sort s_size s_el x_hasPicture) sz) := by
  refine va_MetW (cc := cX9_toss) (maxL := 6) (ret := some .int) (hh := hhX9_toss) (by decide) rfl ?_
  intro p e s m args below meth c s₁ B hml hv
  obtain ⟨rfl, ⟨hsz, hP, hK, hD0, hZ⟩, hX⟩ := hv
  have hx := B.exec
  have hb := B.bytes
  have hr := B.returns
  have hts := atoms_spec (ws := .codeWith yX9_toss cX9_toss 6 (some .int) hhX9_toss :: zV) B.pre
  have hTb := vx_table (x := yX9_toss) B (hts _ List.mem_cons_self)
  have hts := fun w h => hts w (List.mem_cons_of_mem _ h)
  have htsW : ∀ w ∈ zW, w.before _ s = true := fun w h => hts w (zV_W w h)
  have hown : s.vm.findClass RX9 = some m.cls := findClass_of_methodNamed B.named
  have hlocks := B.notSynchronized
  subst hsz
  have hl := lv_entry [.ref (ad_x 0), .int p1] (n := 6) (Nat.le_of_ble_eq_true rfl)
  rw [lg_entry_eq]
  have hl : lv_has _ 6 [(0, .ref (ad_x 0)), (1, .int p1)] := hl
  have hS : va_S (va_A (wX9_sx ca ad_s ad_x ad_d ad_p ad_n ad_q s_holds s_kind s_figure s_sort s_size s_el x_hasPicture) s.heap.size) s.heap s.heap [] := va_S.rf
  have hA : ∀ q, s.heap.size ≤ q → va_A (wX9_sx ca ad_s ad_x ad_d ad_p ad_n ad_q s_holds s_kind s_figure s_sort s_size s_el x_hasPicture) s.heap.size q := fun q h => Or.inr h
  have hD := hD0.self (sz := s.heap.size)
  have hin7 := zin_X7
  have hin9 := zin_X9
  show W p l e roX9_toss s m _ below meth c s.heap [] 0 0 _ _
  unfold fX9_toss at hF
  have hend : ∀ (H1 : Heap) (locs1 : List Loc) (pc : Nat) (ls : Array Slot), s.heap.size ≤ H1.size → (∀ q : Nat, q < s.heap.size → H1[q]? = s.heap[q]?) → va_S (va_A (wX9_sx ca ad_s ad_x ad_d ad_p ad_n ad_q s_holds s_kind s_figure s_sort s_size s_el x_hasPicture) s.heap.size) s.heap H1 locs1 → decode cX9_toss pc = .ok (.ireturn, 1) → W p l e roX9_toss s m #[.ref (ad_x 0), .int p1] below meth c H1 locs1 1 6 (MQ below (va_Qi (fun (x : Int32) (_ : Unit) => x = o) (fun _ _ => True) (fun _ => False)) #[.ref (ad_x 0), .int p1] s 1 6 (va_A (wX9_sx ca ad_s ad_x ad_d ad_p ad_n ad_q s_holds s_kind s_figure s_sort s_size s_el x_hasPicture) s.heap.size)) (F0 m pc ls [.int o]) := by
    intro H1 locs1 pc ls h1 h2 h3 hd
    exact W.zret (ty := .int) hx hb hr rfl (fun t ht hW => ⟨⟨o, (), rfl, rfl, trivial⟩, by rw [ht]; exact h1, fun q hq _ => by rw [ht]; exact h2 q hq⟩) h3.2.2 hd
  refine lv_aload_n hx hb dX9_toss_0 rfl (lv_at hl 0 rfl) ?_
  refine lv_iload_n hx hb dX9_toss_1 rfl (lv_at hl 1 rfl) ?_
  refine lv_iconst (v := 1) hx hb dX9_toss_2 (by decide) ?_
  obtain ⟨o_1, hc_1, hF⟩ := zb hF
  refine zcVR (rest := []) (kX9_refusalOf l D ca t ad_s ad_x ad_d ad_p ad_n ad_q s_holds s_kind s_figure s_sort s_size s_el x_hasPicture p1 1 fuel _ hc_1) ⟨hx, hb, hml, hown, htsW⟩ (zcwV htsW zm_12 zm_13 zm_14 zm_7 zm_11 rfl rfl zdv_X9_refusalOf ⟨Nat.le_of_ble_eq_true rfl, Nat.le_of_ble_eq_true rfl⟩) hA hK hZ hP hD hS [0, 1, 2, 3, 4, 5, 6, 7, 8, 9, 10, 11, 12, 13, 14, 15, 16, 17] rfl rfl 6 16 rfl rfl rfl hl.1 (Nat.le_of_ble_eq_true rfl) dX9_toss_3 rfl ?_
  refine lv_istore_n (lv' := [(2, .int o_1), (0, .ref (ad_x 0)), (1, .int p1)]) hx hb dX9_toss_6 rfl hl (by decide) rfl (fun ls hl => ?_)
  refine lv_iload_n hx hb dX9_toss_7 rfl (lv_at hl 0 rfl) ?_
  refine lv_if_eq (tgt := 13) hx hb dX9_toss_8 (by decide) (fun c_2 => ?_) (fun c_2 => ?_)
  · have hF := zt c_2 hF
    obtain ⟨h_3, hF⟩ := zgi hF
    obtain ⟨ob, hob, hF⟩ := zb hF
    refine lv_aload_n hx hb dX9_toss_13 rfl (lv_at hl 1 rfl) ?_
    refine va_get (D := D) (ci := 6) (v := .ref (ad_x 1)) (C := RX9) (T := TX9) (N := 6) hx hb htsW hin9 hown hK hP 16 rfl rfl 3 (by decide) (htsW _ zm_9) (fun _ h9 => h9) rfl dX9_toss_14 ?_
    refine lv_iload_n hx hb dX9_toss_17 rfl (lv_at hl 2 rfl) ?_
    refine z_aald hx hb hK hP 17 3 rfl rfl rfl h_3 dX9_toss_18 ?_
    refine va_get (D := D) (ci := 4) (v := .int (s_kind p1.toNatClampNeg)) (C := RX7) (T := TX7) (N := 6) hx hb htsW hin7 hown hK hP (2 * p1.toNatClampNeg) (zsh_at p1.toNatClampNeg (zin_lt h_3)) rfl 1 (by decide) (hts _ (zV_l 23 rfl)) (fun _ h9 => h9) rfl dX9_toss_19 ?_
    refine lv_istore_n (lv' := [(3, .int (s_kind p1.toNatClampNeg)), (2, .int o_1), (0, .ref (ad_x 0)), (1, .int p1)]) hx hb dX9_toss_22 rfl hl (by decide) rfl (fun ls hl => ?_)
    refine lv_aload_n hx hb dX9_toss_23 rfl (lv_at hl 2 rfl) ?_
    refine va_get (D := D) (ci := 6) (v := .ref (ad_x 1)) (C := RX9) (T := TX9) (N := 6) hx hb htsW hin9 hown hK hP 16 rfl rfl 3 (by decide) (htsW _ zm_9) (fun _ h9 => h9) rfl dX9_toss_24 ?_
    refine lv_iload_n hx hb dX9_toss_27 rfl (lv_at hl 3 rfl) ?_
    refine z_aald hx hb hK hP 17 3 rfl rfl rfl h_3 dX9_toss_28 ?_
    refine va_get (D := D) (ci := 4) (v := .int (s_figure p1.toNatClampNeg)) (C := RX7) (T := TX7) (N := 6) hx hb htsW hin7 hown hK hP (2 * p1.toNatClampNeg) (zsh_at p1.toNatClampNeg (zin_lt h_3)) rfl 2 (by decide) (hts _ (zV_l 24 rfl)) (fun _ h9 => h9) rfl dX9_toss_29 ?_
    generalize s_kind p1.toNatClampNeg = k at hF hob hl ⊢
    generalize s_figure p1.toNatClampNeg = f at hF hl ⊢
    refine lv_istore (lv' := [(4, .int f), (3, .int k), (2, .int o_1), (0, .ref (ad_x 0)), (1, .int p1)]) hx hb dX9_toss_32 hl (by decide) rfl (fun ls hl => ?_)
    refine lv_iload_n hx hb dX9_toss_34 rfl (lv_at hl 1 rfl) ?_
    refine lv_iload hx hb dX9_toss_35 (lv_at hl 0 rfl) ?_
    refine vx_callv (rest := []) (vx_runS (As := [.int k, .int f]) (rest := []) ⟨hx, hb, hml, hown, hts⟩ (kX1_fail hst D ca t k f fuel ob hob s.heap.size) (zcwSX (n := 2) hts (zV_l 15 rfl) (zV_l 16 rfl) (zV_l 13 rfl) (zV_l 17 rfl) (fun w h => h) rfl rfl zds_X1_fail ⟨Nat.le_of_ble_eq_true rfl, Nat.le_of_ble_eq_true rfl⟩) ⟨zPreX.blind, fun U hU hW => ⟨rfl, (zcU (as := [.int k, .int f]) hA hK hZ zPn zDn hS U hU hW).2, zXs.warm hW hX⟩⟩ rfl rfl hl.1 rfl (lv_room (Nat.le_of_ble_eq_true rfl)) dX9_toss_37 ⟨Nat.le_of_ble_eq_true rfl, Nat.le_of_ble_eq_true rfl⟩) hS (fun q _ h => h.elim) (fun q h => h.elim) (fun q _ h => h.elim) ?_ ?_
    · intro E ce q9 u tt H1 locs1 ht hvm hpx hE hz1 hk1 hS1 hce hcv hcl
      rw [if_neg hpx] at hF
      have hk2 : ∀ q : Nat, q < s.heap.size → H1[q]? = s.heap[q]? := fun q h => hk1 q h (fun z => z)
      by_cases c_4 : k = 4
      · rw [if_pos c_4] at hF
        obtain ⟨pr, hpr, hF⟩ := zb hF
        rw [hE, show zEof k ob = zEU from if_pos c_4] at hcl
        refine vx_catch (own := RX9) (name := zEU) (E := zEU) hown [] ⟨34, 40, 43, 395⟩ [⟨34, 40, 56, 362⟩, ⟨34, 40, 64, 369⟩] (hTb.trans rfl) (fun z h => by cases h) (by decide) (by decide) (hts _ (zV_l 5 rfl)) (va_Nw.use rfl (hX.1 (.castable zEU zEU) (by decide +kernel))) hce hcv hcl ?_
        refine lv_astore (lv' := [(5, .ref q9), (4, .int f), (3, .int k), (2, .int o_1), (0, .ref (ad_x 0)), (1, .int p1)]) hx hb dX9_toss_43 hl (by decide) rfl (fun ls hl => ?_)
        refine lv_sipush (v := 200) hx hb dX9_toss_45 (by decide) ?_
        refine lv_iload_n hx hb dX9_toss_48 rfl (lv_at hl 2 rfl) ?_
        refine lv_iload hx hb dX9_toss_49 (lv_at hl 1 rfl) ?_
        refine zcSRK (rest := [.int 200]) (kX1_price l D ca t k f fuel _ hpr) ⟨hx, hb, hml, hown, htsW⟩ (zcwS htsW zm_511 zm_510 zm_394 zm_509 rfl rfl zds_X1_price ⟨Nat.le_of_ble_eq_true rfl, Nat.le_of_ble_eq_true rfl⟩) hA hK hZ zPn zDn hS1 rfl hl.1 (Nat.le_of_ble_eq_true rfl) dX9_toss_51 rfl ⟨Nat.le_of_ble_eq_true rfl, Nat.le_of_ble_eq_true rfl⟩ ?_
        refine lv_iadd hx hb dX9_toss_54 ?_
        obtain rfl := Option.some.inj hF
        exact hend H1 locs1 _ _ hz1 hk2 hS1 dX9_toss_55
      · rw [if_neg c_4] at hF
        by_cases c_5 : ob = 0
        · rw [if_pos c_5] at hF
          rw [hE, show zEof k ob = zES from (if_neg c_4).trans (if_pos c_5)] at hcl
          refine vx_catch (own := RX9) (name := zES) (E := zES) hown [⟨34, 40, 43, 395⟩, ⟨34, 40, 56, 362⟩] ⟨34, 40, 64, 369⟩ [] (hTb.trans rfl) ?_ (by decide) (by decide) (hts _ (zV_l 4 rfl)) (va_Nw.use rfl (hX.1 (.castable zES zES) (by decide +kernel))) hce hcv hcl ?_
          · intro z hz
            rcases List.mem_cons.mp hz with rfl | hz
            · exact Or.inr ⟨by decide, zEU, hts _ (zV_l 5 rfl), hX.2.1.2.1⟩
            · rcases List.mem_cons.mp hz with rfl | hz
              · exact Or.inr ⟨by decide, zEA, hts _ (zV_l 3 rfl), hX.2.1.2.2⟩
              · cases hz
          refine lv_astore (lv' := [(5, .ref q9), (4, .int f), (3, .int k), (2, .int o_1), (0, .ref (ad_x 0)), (1, .int p1)]) hx hb dX9_toss_64 hl (by decide) rfl (fun ls hl => ?_)
          refine lv_iload hx hb dX9_toss_66 (lv_at hl 1 rfl) ?_
          obtain rfl := Option.some.inj hF
          exact hend H1 locs1 _ _ hz1 hk2 hS1 dX9_toss_68
        · rw [if_neg c_5] at hF
          rw [hE, show zEof k ob = zEA from (if_neg c_4).trans (if_neg c_5)] at hcl
          refine vx_catch (own := RX9) (name := zEA) (E := zEA) hown [⟨34, 40, 43, 395⟩] ⟨34, 40, 56, 362⟩ [⟨34, 40, 64, 369⟩] (hTb.trans rfl) ?_ (by decide) (by decide) (hts _ (zV_l 3 rfl)) (va_Nw.use rfl (hX.1 (.castable zEA zEA) (by decide +kernel))) hce hcv hcl ?_
          · intro z hz
            rcases List.mem_cons.mp hz with rfl | hz
            · exact Or.inr ⟨by decide, zEU, hts _ (zV_l 5 rfl), hX.2.1.1⟩
            · cases hz
          refine lv_astore (lv' := [(5, .ref q9), (4, .int f), (3, .int k), (2, .int o_1), (0, .ref (ad_x 0)), (1, .int p1)]) hx hb dX9_toss_56 hl (by decide) rfl (fun ls hl => ?_)
          refine lv_bipush (v := 100) hx hb dX9_toss_58 (by decide) ?_
          refine lv_iload hx hb dX9_toss_60 (lv_at hl 1 rfl) ?_
          refine lv_iadd hx hb dX9_toss_62 ?_
          obtain rfl := Option.some.inj hF
          exact hend H1 locs1 _ _ hz1 hk2 hS1 dX9_toss_63
    · intro u tt H1 locs1 ht hvm hpx _ hz1 hk1 hS1
      rw [if_pos hpx] at hF
      refine lv_goto (tgt := 69) hx hb dX9_toss_40 (by decide) ?_
      refine lv_bipush (v := -15) hx hb dX9_toss_69 (by decide) ?_
      obtain rfl := Option.some.inj hF
      exact hend H1 locs1 _ _ hz1 (fun q h => hk1 q h (fun z => z)) hS1 dX9_toss_71
  · have hF := zf c_2 hF
    refine lv_iload_n hx hb dX9_toss_11 rfl (lv_at hl 0 rfl) ?_
    obtain rfl := Option.some.inj hF
    exact W.widen (k := 1) (n := 6) (Nat.zero_le _) (Nat.zero_le _) (hend s.heap [] _ _ (Nat.le_refl _) (fun q _ => rfl) hS dX9_toss_12)
