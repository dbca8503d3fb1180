abbrev roX1_fail : Room := { frames := 7, cells := 1, slots := 6, locals := 100 }
abbrev zEof (k ob : Int32) : String := if k = 4 then zEU else if ob = 0 then zES else zEA
set_option maxHeartbeats 4000000 in
set_option maxRecDepth 100000 in
theorem kX1_fail {l : Launch} (hst : l.stackTraces = false) (D : va_G) (ca : Nat → ClassId) (t : Nat → Nat) (k f : Int32) (fuel : Nat) (ob : Int32) (hB : fX1_isBlack fuel k = some ob) (sz : Nat) :
    vx_Met l yX1_fail (.code yX1_fail cX1_fail 2 none :: zV) roX1_fail (va_Pc [.int k, .int f] (zPreX D (zT ca) t [] sz)) (va_Qv (fun (_ : Unit) => k = 7 ∨ f = 0) (fun _ _ => True) (fun _ => False)) (vx_X (fun (_ : Unit) => ¬ (k = 7 ∨ f = 0)) (fun E _ _ => E = zEof k ob) (fun _ => False)) 1 6 (fun _ => False) := by
  refine vx_ofW (cc := cX1_fail) (maxL := 2) (ret := none) (by decide) rfl ?_
  intro p e s m args below meth c s₁ B hml hexc hv
  obtain ⟨rfl, ⟨hsz, hP, hK, hD0, hZ⟩, hX⟩ := hv
  have hx := B.exec
  have hb := B.bytes
  have hr := B.returns
  have hts := atoms_spec (ws := .code yX1_fail cX1_fail 2 none :: zV) B.pre
  have hts := fun w h => hts w (List.mem_cons_of_mem _ h)
  have hown : s.vm.findClass RX1 = some m.cls := findClass_of_methodNamed B.named
  have hlocks := B.notSynchronized
  subst hsz
  have hl := lv_entry [.int k, .int f] (n := 2) (Nat.le_of_ble_eq_true rfl)
  rw [lg_entry_eq]
  have hl : lv_has _ 2 [(0, .int k), (1, .int f)] := hl
  have hS : va_S (va_A [] s.heap.size) s.heap s.heap [] := va_S.rf
  have hA : ∀ q, s.heap.size ≤ q → va_A [] s.heap.size q := fun q h => Or.inr h
  show W p l e roX1_fail s m _ below meth c s.heap [] 0 0 _ _
  refine lv_iload_n hx hb dX1_fail_0 rfl (lv_at hl 0 rfl) ?_
  refine lv_bipush (v := 7) hx hb dX1_fail_1 (by decide) ?_
  refine lv_icmp_eq (tgt := 10) hx hb dX1_fail_3 (by decide) (fun c1 => ?_) (fun c1 => ?_)
  · refine vx_ret ?_
    refine W.widen (k := 1) (n := 6) (Nat.zero_le _) (Nat.zero_le _) ?_
    exact W.vret hx hb hr (fun t ht hW => ⟨⟨(), rfl, Or.inl c1, trivial⟩, by rw [ht]; exact Nat.le_refl _, fun q _ _ => by rw [ht]⟩) (fun q h => by cases h) dX1_fail_10
  refine lv_iload_n hx hb dX1_fail_6 rfl (lv_at hl 1 rfl) ?_
  refine lv_if_ne (tgt := 11) hx hb dX1_fail_7 (by decide) (fun c2 => ?_) (fun c2 => ?_)
  · have hno : ¬ (k = 7 ∨ f = 0) := fun h => h.elim c1 c2
    refine lv_iload_n hx hb dX1_fail_11 rfl (lv_at hl 0 rfl) ?_
    refine lv_iconst (v := 4) hx hb dX1_fail_12 (by decide) ?_
    refine lv_icmp_ne (tgt := 26) hx hb dX1_fail_13 (by decide) (fun c3 => ?_) (fun c3 => ?_)
    · refine lv_iload_n hx hb dX1_fail_26 rfl (lv_at hl 0 rfl) ?_
      refine zcSR (rest := []) (kX1_isBlack l D ca t k fuel _ hB) ⟨hx, hb, hml, hown, hts⟩ (zcwSX hts (zV_l 11 rfl) (zV_l 12 rfl) (zV_l 13 rfl) (zV_l 14 rfl) zV_W rfl rfl zds_X1_isBlack ⟨Nat.le_of_ble_eq_true rfl, Nat.le_of_ble_eq_true rfl⟩) hA hK hZ hP (hD0.self (sz := s.heap.size)) hS [] rfl rfl rfl hl.1 (Nat.le_of_ble_eq_true rfl) dX1_fail_27 rfl ?_
      refine lv_if_eq (tgt := 43) hx hb dX1_fail_30 (by decide) (fun c4 => ?_) (fun c4 => ?_)
      · have hE : zES = zEof k ob := by unfold zEof; rw [if_neg c3, if_pos c4]
        obtain ⟨sa, hstr⟩ := hX.2.2.2.2.1
        exact vx_throwS (own := RX1) (cls := zES) (text := "a coat fails") (names := zNm) (ik := 33) (is := 35) (ic := 37) (A := va_A [] s.heap.size) hx hb hst hown (by decide) (by decide) (hts _ (zV_l 2 rfl)) (hts _ (zV_l 10 rfl)) hstr (zHat zAt3 hts hX) (zHok rfl rfl zAt3) hZ.2.2.2.2.1 hZ.2.2.2.2.2 hS (hl.1.trans hml.symm) dX1_fail_43 dX1_fail_46 dX1_fail_47 dX1_fail_49 dX1_fail_52 (fun x hx => (hexc x hx).elim) (Nat.le_of_ble_eq_true rfl) (Nat.le_of_ble_eq_true rfl) (Nat.le_of_ble_eq_true rfl) (Nat.le_of_ble_eq_true rfl) hlocks (fun t hv h1 h2 => ⟨(), hno, hE, h1, fun q h _ => h2 q h⟩) (fun z h => by cases h) (Nat.le_refl _) (Nat.le_refl _)
      · have hE : zEA = zEof k ob := by unfold zEof; rw [if_neg c3, if_neg c4]
        obtain ⟨sa, hstr⟩ := hX.2.2.2.1
        exact vx_throwS (own := RX1) (cls := zEA) (text := "one black coat is like another") (names := zNm) (ik := 28) (is := 30) (ic := 32) (A := va_A [] s.heap.size) hx hb hst hown (by decide) (by decide) (hts _ (zV_l 1 rfl)) (hts _ (zV_l 9 rfl)) hstr (zHat zAt2 hts hX) (zHok rfl rfl zAt2) hZ.2.2.2.2.1 hZ.2.2.2.2.2 hS (hl.1.trans hml.symm) dX1_fail_33 dX1_fail_36 dX1_fail_37 dX1_fail_39 dX1_fail_42 (fun x hx => (hexc x hx).elim) (Nat.le_of_ble_eq_true rfl) (Nat.le_of_ble_eq_true rfl) (Nat.le_of_ble_eq_true rfl) (Nat.le_of_ble_eq_true rfl) hlocks (fun t hv h1 h2 => ⟨(), hno, hE, h1, fun q h _ => h2 q h⟩) (fun z h => by cases h) (Nat.le_refl _) (Nat.le_refl _)
    · have hE : zEU = zEof k ob := by unfold zEof; rw [if_pos c3]
      obtain ⟨sa, hstr⟩ := hX.2.2.1
      exact vx_throwS (own := RX1) (cls := zEU) (text := "a scarf is no coat") (names := zNm) (ik := 17) (is := 19) (ic := 21) (A := va_A [] s.heap.size) hx hb hst hown (by decide) (by decide) (hts _ (zV_l 0 rfl)) (hts _ (zV_l 8 rfl)) hstr (zHat zAt1 hts hX) (zHok rfl rfl zAt1) hZ.2.2.2.2.1 hZ.2.2.2.2.2 hS (hl.1.trans hml.symm) dX1_fail_16 dX1_fail_19 dX1_fail_20 dX1_fail_22 dX1_fail_25 (fun x hx => (hexc x hx).elim) (Nat.le_of_ble_eq_true rfl) (Nat.le_of_ble_eq_true rfl) (Nat.le_of_ble_eq_true rfl) (Nat.le_of_ble_eq_true rfl) hlocks (fun t hv h1 h2 => ⟨(), hno, hE, h1, fun q h _ => h2 q h⟩) (fun z h => by cases h) (Nat.le_refl _) (Nat.le_refl _)
  · refine vx_ret ?_
    refine W.widen (k := 1) (n := 6) (Nat.zero_le _) (Nat.zero_le _) ?_
    exact W.vret hx hb hr (fun t ht hW => ⟨⟨(), rfl, Or.inr c2, trivial⟩, by rw [ht]; exact Nat.le_refl _, fun q _ _ => by rw [ht]⟩) (fun q h => by cases h) dX1_fail_10
