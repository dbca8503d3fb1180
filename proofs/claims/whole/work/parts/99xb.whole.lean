set_option maxHeartbeats 4000000 in
set_option maxRecDepth 100000 in
theorem zeM {ca : Nat → ClassId} {u2 : Nat → Nat → Nat} : wM ca (u2 0) = (uL_M ca (u2 0) 0 zZ zZ zZ 2 9 0 0 0 0 zZ 0 0 0 0 0 zZ 0 zBegs zLets zZ 0 zZ 0 zZ zZ zZ zZ 0 zZ zZ zZ zZ zZ zZ zZ 0 0 zZ zZ 0 0 0 0 zZ zZ 0 zZ zZ 0 zZ zZ zZ zZ zZ zZ zZ 0) := rfl
set_option maxHeartbeats 4000000 in
set_option maxRecDepth 100000 in
theorem zeX {ca : Nat → ClassId} {u1 : Nat → Nat → Nat} : wX ca (u1 0) (u1 1) (u1 2) (u1 3) (u1 4) (u1 5) (u1 6) (u1 7) (u1 8) (u1 9) (u1 10) (u1 11) (u1 12 0) (u1 12 1) = ((uL_x ca (u1 3) (u1 0) (u1 1) (u1 2) (u1 4) (u1 7) 0) ++ ((uL_s ca (u1 3) zZ zZ zZ zZ zZ (fun _ => zZ)) ++ (((uL_q ca (u1 7) (u1 8) (u1 9) zZ zZ zZ 0 (-4) (-4) 0 0 0) ++ (((uL_m ca (u1 9) (u1 10) (u1 11) (u1 12 1) zZ zZ zZ zZ zZ zZ zZ zZ 0 0) ++ ((uL_z ca (u1 10) (u1 11) zZ zZ 1 (-4)) ++ (uL_c ca (u1 11) 1 (fun _ => zZ) zZ zZ))) ++ ((uL_t ca (u1 8) 0 zZ zZ zZ zSet 0 zZ 0) ++ []))) ++ (((uL_n ca (u1 4) (u1 5) (u1 6) (u1 12 0) zZ zZ zZ zZ zZ zZ zZ zZ 0 0) ++ ((uL_y ca (u1 5) (u1 6) zZ zZ 1 (-4)) ++ (uL_b ca (u1 6) 1 (fun _ => zZ) zZ zZ))) ++ ((uL_p ca (u1 2) 0 zZ zZ zZ zSet 0 zZ 0) ++ ((uL_d ca (u1 1) 0 zZ zZ zZ zSet 0 zZ 0) ++ [])))))) := rfl
set_option maxHeartbeats 4000000 in
set_option maxRecDepth 100000 in
theorem zf_s {ca : Nat → ClassId} {u1 : Nat → Nat → Nat} : ((uL_s ca (u1 3) zZ zZ zZ zZ zZ (fun _ => zZ))).map Prod.fst = (List.range 16).map (u1 3) := rfl
set_option maxHeartbeats 4000000 in
set_option maxRecDepth 100000 in
theorem zf_x {ca : Nat → ClassId} {u1 : Nat → Nat → Nat} : ((uL_x ca (u1 3) (u1 0) (u1 1) (u1 2) (u1 4) (u1 7) 0)).map Prod.fst = (List.range 2).map (u1 0) := rfl
set_option maxHeartbeats 4000000 in
set_option maxRecDepth 100000 in
theorem zf_d {ca : Nat → ClassId} {u1 : Nat → Nat → Nat} : ((uL_d ca (u1 1) 0 zZ zZ zZ zSet 0 zZ 0)).map Prod.fst = (List.range 6).map (u1 1) := rfl
set_option maxHeartbeats 4000000 in
set_option maxRecDepth 100000 in
theorem zf_p {ca : Nat → ClassId} {u1 : Nat → Nat → Nat} : ((uL_p ca (u1 2) 0 zZ zZ zZ zSet 0 zZ 0)).map Prod.fst = (List.range 6).map (u1 2) := rfl
set_option maxHeartbeats 4000000 in
set_option maxRecDepth 100000 in
theorem zf_n {ca : Nat → ClassId} {u1 : Nat → Nat → Nat} : ((uL_n ca (u1 4) (u1 5) (u1 6) (u1 12 0) zZ zZ zZ zZ zZ zZ zZ zZ 0 0)).map Prod.fst = (List.range 9).map (u1 4) := rfl
set_option maxHeartbeats 4000000 in
set_option maxRecDepth 100000 in
theorem zf_y {ca : Nat → ClassId} {u1 : Nat → Nat → Nat} : ((uL_y ca (u1 5) (u1 6) zZ zZ 1 (-4))).map Prod.fst = (List.range 3).map (u1 5) := rfl
set_option maxHeartbeats 4000000 in
set_option maxRecDepth 100000 in
theorem zf_b {ca : Nat → ClassId} {u1 : Nat → Nat → Nat} : ((uL_b ca (u1 6) 1 (fun _ => zZ) zZ zZ)).map Prod.fst = (List.range 7).map (u1 6) := rfl
set_option maxHeartbeats 4000000 in
set_option maxRecDepth 100000 in
theorem zf_q {ca : Nat → ClassId} {u1 : Nat → Nat → Nat} : ((uL_q ca (u1 7) (u1 8) (u1 9) zZ zZ zZ 0 (-4) (-4) 0 0 0)).map Prod.fst = (List.range 4).map (u1 7) := rfl
set_option maxHeartbeats 4000000 in
set_option maxRecDepth 100000 in
theorem zf_t {ca : Nat → ClassId} {u1 : Nat → Nat → Nat} : ((uL_t ca (u1 8) 0 zZ zZ zZ zSet 0 zZ 0)).map Prod.fst = (List.range 6).map (u1 8) := rfl
set_option maxHeartbeats 4000000 in
set_option maxRecDepth 100000 in
theorem zf_m {ca : Nat → ClassId} {u1 : Nat → Nat → Nat} : ((uL_m ca (u1 9) (u1 10) (u1 11) (u1 12 1) zZ zZ zZ zZ zZ zZ zZ zZ 0 0)).map Prod.fst = (List.range 9).map (u1 9) := rfl
set_option maxHeartbeats 4000000 in
set_option maxRecDepth 100000 in
theorem zf_z {ca : Nat → ClassId} {u1 : Nat → Nat → Nat} : ((uL_z ca (u1 10) (u1 11) zZ zZ 1 (-4))).map Prod.fst = (List.range 3).map (u1 10) := rfl
set_option maxHeartbeats 4000000 in
set_option maxRecDepth 100000 in
theorem zf_c {ca : Nat → ClassId} {u1 : Nat → Nat → Nat} : ((uL_c ca (u1 11) 1 (fun _ => zZ) zZ zZ)).map Prod.fst = (List.range 7).map (u1 11) := rfl
set_option maxHeartbeats 4000000 in
set_option maxRecDepth 100000 in
theorem zf_M {ca : Nat → ClassId} {u2 : Nat → Nat → Nat} : ((uL_M ca (u2 0) 0 zZ zZ zZ 2 9 0 0 0 0 zZ 0 0 0 0 0 zZ 0 zBegs zLets zZ 0 zZ 0 zZ zZ zZ zZ 0 zZ zZ zZ zZ zZ zZ zZ 0 0 zZ zZ 0 0 0 0 zZ zZ 0 zZ zZ 0 zZ zZ zZ zZ zZ zZ zZ 0)).map Prod.fst = (List.range 34).map (u2 0) := rfl
set_option maxHeartbeats 4000000 in
set_option maxRecDepth 100000 in
theorem zf_o {ca : Nat → ClassId} {q17 : Nat} : ((uL_o ca q17 (fun _ => 0))).map Prod.fst = [q17] := rfl
set_option maxHeartbeats 4000000 in
set_option maxRecDepth 100000 in
theorem zstart_U {A : Nat → Prop} {ca : Nat → ClassId} {u1 u2 : Nat → Nat → Nat} {q17 : Nat} (hD : va_D A ((uL_o ca q17 (fun _ => 0)) ++ ((uL_M ca (u2 0) 0 zZ zZ zZ 2 9 0 0 0 0 zZ 0 0 0 0 0 zZ 0 zBegs zLets zZ 0 zZ 0 zZ zZ zZ zZ 0 zZ zZ zZ zZ zZ zZ zZ 0 0 zZ zZ 0 0 0 0 zZ zZ 0 zZ zZ 0 zZ zZ zZ zZ zZ zZ zZ 0) ++ (((uL_x ca (u1 3) (u1 0) (u1 1) (u1 2) (u1 4) (u1 7) 0) ++ ((uL_s ca (u1 3) zZ zZ zZ zZ zZ (fun _ => zZ)) ++ (((uL_q ca (u1 7) (u1 8) (u1 9) zZ zZ zZ 0 (-4) (-4) 0 0 0) ++ (((uL_m ca (u1 9) (u1 10) (u1 11) (u1 12 1) zZ zZ zZ zZ zZ zZ zZ zZ 0 0) ++ ((uL_z ca (u1 10) (u1 11) zZ zZ 1 (-4)) ++ (uL_c ca (u1 11) 1 (fun _ => zZ) zZ zZ))) ++ ((uL_t ca (u1 8) 0 zZ zZ zZ zSet 0 zZ 0) ++ []))) ++ (((uL_n ca (u1 4) (u1 5) (u1 6) (u1 12 0) zZ zZ zZ zZ zZ zZ zZ zZ 0 0) ++ ((uL_y ca (u1 5) (u1 6) zZ zZ 1 (-4)) ++ (uL_b ca (u1 6) 1 (fun _ => zZ) zZ zZ))) ++ ((uL_p ca (u1 2) 0 zZ zZ zZ zSet 0 zZ 0) ++ ((uL_d ca (u1 1) 0 zZ zZ zZ zSet 0 zZ 0) ++ [])))))) ++ [])))) : zSt (aL (u1 3) (u1 0) (u1 1) (u1 2) (u1 4) (u1 5) (u1 6) (u1 7) (u1 8) (u1 9) (u1 10) (u1 11) (u2 0) q17) A :=
  zSt_of [13, 12, 1, 0, 7, 9, 10, 11, 8, 4, 5, 6, 3, 2] hD (by
    simp only [List.map_append, zf_o, zf_s, zf_x, zf_d, zf_p, zf_n, zf_y, zf_b, zf_q, zf_t, zf_m, zf_z, zf_c, zf_M, List.map_nil, List.append_nil, List.append_assoc, List.map_cons, List.flatten_cons, List.flatten_nil]
    rfl) (fun i hi => by
    match i, hi with
    | 0, hi => exact absurd (by decide) hi
    | 1, hi => exact absurd (by decide) hi
    | 2, hi => exact absurd (by decide) hi
    | 3, hi => exact absurd (by decide) hi
    | 4, hi => exact absurd (by decide) hi
    | 5, hi => exact absurd (by decide) hi
    | 6, hi => exact absurd (by decide) hi
    | 7, hi => exact absurd (by decide) hi
    | 8, hi => exact absurd (by decide) hi
    | 9, hi => exact absurd (by decide) hi
    | 10, hi => exact absurd (by decide) hi
    | 11, hi => exact absurd (by decide) hi
    | 12, hi => exact absurd (by decide) hi
    | 13, hi => exact absurd (by decide) hi
    | n + 14, _ => rfl)
set_option maxHeartbeats 8000000 in
set_option maxRecDepth 100000 in
theorem whole_start {p : Program} {e : Env} {s : State} {m : MethodId} {below : List Frame} {meth : Method} {c : Code} (l : Launch) (hst : l.stackTraces = false) {b L : Nat} {xs : Nat → Int32} (hL : L ≤ 3072) (C0 : lw_At p s m meth c b L xs) : W p l e room_1 s m #[Value.ref b] below meth c s.heap [] 0 0 (lw_Z below #[Value.ref b] s) (entryFrame m ([Value.ref b] : List Value).toArray 8) := by
  obtain ⟨hx, hb, hr, hml, hown, hts, hX, hbl, hlocks, hg⟩ := C0
  have hown : s.vm.findClass RL = some m.cls := hown
  obtain ⟨D, ca, hK, hO⟩ := zstart_K hts
  obtain ⟨A, hA0⟩ : ∃ A : Nat → Prop, ∀ q, A q ↔ s.heap.size ≤ q := ⟨fun q => s.heap.size ≤ q, fun _ => Iff.rfl⟩
  have hA : ∀ q, s.heap.size ≤ q → A q := fun q h => (hA0 q).mpr h
  obtain ⟨t, hE⟩ := zstart_E (A := A) hts hg (fun a h1 h2 => by have := (hA0 a).mp h2; omega)
  have hXs := zstart_X hts hg
  have hS : va_S A s.heap s.heap [] := va_S.rf
  have hbA : ¬ A b := fun h => by have := (hA0 b).mp h; omega
  have hP : va_P D vwCl [] s.heap := fun k q h => by simp at h
  have hD : va_D A [] := ⟨fun i j p q hi => by simp at hi, fun k q h => by simp at h⟩
  have hl := lv_entry [.ref b] (n := 8) (Nat.le_of_ble_eq_true rfl)
  rw [lg_entry_eq]
  generalize (lg_sl ([.ref b]) ++ List.replicate (8 - (lg_sl ([.ref b])).length) Slot.unset).toArray = ls at hl ⊢
  have hl : lv_has ls 8 [(0, .ref b)] := hl
  show W p l e room_1 s m _ below meth c s.heap [] 0 0 _ _
  refine zn_new [] ([]) (C := RX9) (T := TX9) (N := 6) (ci := 6) (fs := [.null, .null, .int 0, .null, .null, .null]) hx hb hts (fun w h => zW_in w (zin_X9 w h)) tyX9 tyX9_ok hown (zB_l 32 rfl) (zB_l 6 rfl) (zB_l 15 rfl) hK hP hD hS hA rfl zdf_X9 (Nat.le_of_ble_eq_true rfl) (Nat.le_of_ble_eq_true rfl) dL_law_0 (fun q0 H hP hD hS => ?_)
  refine W.widen (k := 1) (n := 6) (Nat.le_of_ble_eq_true rfl) (Nat.le_of_ble_eq_true rfl) ?_
  refine lv_dup hx hb dL_law_3 rfl ?_
  refine zn_init [] ([]) (kX9_init l D ca) ⟨hx, hb, hml, hown, hts⟩ (cwI 0 hts (zGL (zB_l 33 rfl) rfl) rfl rfl rfl (hts _ (zB_l 15 rfl)) (hts _ (zB_l 34 rfl)) (hts _ (zB_l 35 rfl)) rfl (by decide +kernel) ⟨(Nat.le_of_ble_eq_true rfl), (Nat.le_of_ble_eq_true rfl)⟩) hO hA hK hP hD hS hl.1 (Nat.le_of_ble_eq_true rfl) dL_law_4 ⟨(Nat.le_of_ble_eq_true rfl), (Nat.le_of_ble_eq_true rfl)⟩ (fun u1 H locs hu hP9 hD9 hS9 => ?_)
  clear hP hD hS
  subst hu
  have hP := hP9
  have hD := hD9
  have hS := hS9
  clear hP9 hD9 hS9
  refine W.widen (k := 90) (n := 1481) (Nat.le_of_ble_eq_true rfl) (Nat.le_of_ble_eq_true rfl) ?_
  refine lv_astore_n (lv' := [(1, .ref (u1 0 0)), (0, .ref b)]) hx hb dL_law_7 rfl hl (by decide) rfl (fun ls hl => ?_)
  have hP : va_P D vwCl (wX ca (u1 0) (u1 1) (u1 2) (u1 3) (u1 4) (u1 5) (u1 6) (u1 7) (u1 8) (u1 9) (u1 10) (u1 11) (u1 12 0) (u1 12 1) ++ []) H := hP
  have hD : va_D A (wX ca (u1 0) (u1 1) (u1 2) (u1 3) (u1 4) (u1 5) (u1 6) (u1 7) (u1 8) (u1 9) (u1 10) (u1 11) (u1 12 0) (u1 12 1) ++ []) := hD
  refine zn_new [] (wX ca (u1 0) (u1 1) (u1 2) (u1 3) (u1 4) (u1 5) (u1 6) (u1 7) (u1 8) (u1 9) (u1 10) (u1 11) (u1 12 0) (u1 12 1) ++ []) (C := RX10) (T := TX10) (N := 58) (ci := 7) (fs := zf10) hx hb hts (fun w h => zW_in w (zin_X10 w h)) tyX10 tyX10_ok hown (zB_l 36 rfl) (zB_l 7 rfl) (zB_l 37 rfl) hK hP hD hS hA rfl zdf_X10 (Nat.le_of_ble_eq_true rfl) (Nat.le_of_ble_eq_true rfl) dL_law_8 (fun q8 H hP hD hS => ?_)
  refine W.widen (k := 91) (n := 1539) (Nat.le_of_ble_eq_true rfl) (Nat.le_of_ble_eq_true rfl) ?_
  refine lv_dup hx hb dL_law_11 rfl ?_
  refine zn_init [] (wX ca (u1 0) (u1 1) (u1 2) (u1 3) (u1 4) (u1 5) (u1 6) (u1 7) (u1 8) (u1 9) (u1 10) (u1 11) (u1 12 0) (u1 12 1) ++ []) (kX10_init l D ca) ⟨hx, hb, hml, hown, hts⟩ (cwI 0 hts (zGL (zB_l 38 rfl) rfl) rfl rfl rfl (hts _ (zB_l 37 rfl)) (hts _ (zB_l 39 rfl)) (hts _ (zB_l 40 rfl)) rfl (by decide +kernel) ⟨(Nat.le_of_ble_eq_true rfl), (Nat.le_of_ble_eq_true rfl)⟩) hO hA hK hP hD hS hl.1 (Nat.le_of_ble_eq_true rfl) dL_law_12 ⟨(Nat.le_of_ble_eq_true rfl), (Nat.le_of_ble_eq_true rfl)⟩ (fun u2 H locs hu hP9 hD9 hS9 => ?_)
  clear hP hD hS
  subst hu
  have hP := hP9
  have hD := hD9
  have hS := hS9
  clear hP9 hD9 hS9
  refine W.widen (k := 124) (n := 2835) (Nat.le_of_ble_eq_true rfl) (Nat.le_of_ble_eq_true rfl) ?_
  refine lv_astore_n (lv' := [(2, .ref (u2 0 0)), (1, .ref (u1 0 0)), (0, .ref b)]) hx hb dL_law_15 rfl hl (by decide) rfl (fun ls hl => ?_)
  refine lv_iconst (v := 1) hx hb dL_law_16 (by decide) ?_
  have hP : va_P D vwCl (wM ca (u2 0) ++ (wX ca (u1 0) (u1 1) (u1 2) (u1 3) (u1 4) (u1 5) (u1 6) (u1 7) (u1 8) (u1 9) (u1 10) (u1 11) (u1 12 0) (u1 12 1) ++ [])) H := hP
  have hD : va_D A (wM ca (u2 0) ++ (wX ca (u1 0) (u1 1) (u1 2) (u1 3) (u1 4) (u1 5) (u1 6) (u1 7) (u1 8) (u1 9) (u1 10) (u1 11) (u1 12 0) (u1 12 1) ++ [])) := hD
  refine zn_newa [] (wM ca (u2 0) ++ (wX ca (u1 0) (u1 1) (u1 2) (u1 3) (u1 4) (u1 5) (u1 6) (u1 7) (u1 8) (u1 9) (u1 10) (u1 11) (u1 12 0) (u1 12 1) ++ [])) (k := 5) rfl hx hb hts (zB_l 13 rfl) rfl hK hP hD hS hA (n := 1) (N' := 1) (a0 := (1, .inr (.inl (fun _ => 0)))) (fun _ => rfl) (by decide) (by decide) (by decide) (Nat.le_of_ble_eq_true rfl) (Nat.le_of_ble_eq_true rfl) dL_law_17 (fun q17 H hP hD hS => ?_)
  refine W.widen (k := 125) (n := 2836) (Nat.le_of_ble_eq_true rfl) (Nat.le_of_ble_eq_true rfl) ?_
  refine lv_astore_n (lv' := [(3, .ref q17), (2, .ref (u2 0 0)), (1, .ref (u1 0 0)), (0, .ref b)]) hx hb dL_law_19 rfl hl (by decide) rfl (fun ls hl => ?_)
  refine lv_iconst (v := 0) hx hb dL_law_20 (by decide) ?_
  refine lv_istore (lv' := [(4, .int 0), (3, .ref q17), (2, .ref (u2 0 0)), (1, .ref (u1 0 0)), (0, .ref b)]) hx hb dL_law_21 hl (by decide) rfl (fun ls hl => ?_)
  have hP : va_P D vwCl ((uL_o ca q17 (fun _ => 0)) ++ (wM ca (u2 0) ++ (wX ca (u1 0) (u1 1) (u1 2) (u1 3) (u1 4) (u1 5) (u1 6) (u1 7) (u1 8) (u1 9) (u1 10) (u1 11) (u1 12 0) (u1 12 1) ++ []))) H := hP
  have hD : va_D A ((uL_o ca q17 (fun _ => 0)) ++ (wM ca (u2 0) ++ (wX ca (u1 0) (u1 1) (u1 2) (u1 3) (u1 4) (u1 5) (u1 6) (u1 7) (u1 8) (u1 9) (u1 10) (u1 11) (u1 12 0) (u1 12 1) ++ []))) := hD
  rw [zeM, zeX] at hP hD
  have hU : zSt (aL (u1 3) (u1 0) (u1 1) (u1 2) (u1 4) (u1 5) (u1 6) (u1 7) (u1 8) (u1 9) (u1 10) (u1 11) (u2 0) q17) A := zstart_U hD
  have h1 := hP
  have hP_o := zPfst h1
  have h1 := zPsnd h1
  have hP_M := zPfst h1
  have h1 := zPfst (zPsnd h1)
  have hP_x := zPfst h1
  have h1 := zPsnd h1
  have hP_s := zPfst h1
  have h1 := zPsnd h1
  have h2 := zPfst h1
  have h1 := zPsnd h1
  have hP_q := zPfst h2
  have h2 := zPsnd h2
  have h3 := zPfst h2
  have hP_t := zPfst (zPsnd h2)
  have hP_m := zPfst h3
  have hP_z := zPfst (zPsnd h3)
  have hP_c := zPsnd (zPsnd h3)
  have h3 := zPfst h1
  have h1 := zPsnd h1
  have hP_n := zPfst h3
  have hP_y := zPfst (zPsnd h3)
  have hP_b := zPsnd (zPsnd h3)
  have hP_p := zPfst h1
  have hP_d := zPfst (zPsnd h1)
  obtain ⟨w1, w2, w3, w4, w5, w6⟩ := zw0
  have hI : wJ D ca (u1 3) (u1 0) (u1 1) (u1 2) (u1 4) (u1 5) (u1 6) (u1 7) (u1 8) (u1 9) (u1 10) (u1 11) (u2 0) q17 r0 zZ zZ zZ zZ zZ (fun _ => zZ) 0 0 zZ zZ zZ zSet 0 zZ 0 0 zZ zZ zZ zSet 0 zZ 0 (u1 12 0) zZ zZ zZ zZ zZ zZ zZ zZ 0 0 zZ zZ 1 (-4) 1 (fun _ => zZ) zZ zZ zZ zZ zZ 0 (-4) (-4) 0 0 0 0 zZ zZ zZ zSet 0 zZ 0 (u1 12 1) zZ zZ zZ zZ zZ zZ zZ zZ 0 0 zZ zZ 1 (-4) 1 (fun _ => zZ) zZ zZ 0 zZ zZ zZ 2 9 0 0 0 0 zZ 0 0 0 0 0 zZ 0 zBegs zLets zZ 0 zZ 0 zZ zZ zZ zZ 0 zZ zZ zZ zZ zZ zZ zZ 0 0 zZ zZ 0 0 0 0 zZ zZ 0 zZ zZ 0 zZ zZ zZ zZ zZ zZ zZ 0 (fun _ => 0) H := ⟨w1, w2, w3, w4, Or.inl ⟨rfl, rfl⟩, w5, w6, hP_s, hP_x, hP_d, hP_p, hP_n, hP_y, hP_b, hP_q, hP_t, hP_m, hP_z, hP_c, hP_M, hP_o⟩
  have cx : lCx p s m c b L xs D ca t A (aL (u1 3) (u1 0) (u1 1) (u1 2) (u1 4) (u1 5) (u1 6) (u1 7) (u1 8) (u1 9) (u1 10) (u1 11) (u2 0) q17) := ⟨hx, hb, hml, hown, hts, hX, hbl, hbA, hA, hK, hE, hU⟩
  exact W.widen (k := 125 + 2 * 0) (n := 2836 + 12 * 0) (by decide) (by decide) (law_loop cx hr hlocks hL (fun q h => (hA0 q).mp h) (K0 := 125) (S0 := 2836) (by decide) (by decide) (lo_element cx hL hXs hst) (lo_toss cx hL hXs hst) 600 0 0 rfl (by omega) (by omega) H _ r0 zZ zZ zZ zZ zZ (fun _ => zZ) 0 0 zZ zZ zZ zSet 0 zZ 0 0 zZ zZ zZ zSet 0 zZ 0 (u1 12 0) zZ zZ zZ zZ zZ zZ zZ zZ 0 0 zZ zZ 1 (-4) 1 (fun _ => zZ) zZ zZ zZ zZ zZ 0 (-4) (-4) 0 0 0 0 zZ zZ zZ zSet 0 zZ 0 (u1 12 1) zZ zZ zZ zZ zZ zZ zZ zZ 0 0 zZ zZ 1 (-4) 1 (fun _ => zZ) zZ zZ 0 zZ zZ zZ 2 9 0 0 0 0 zZ 0 0 0 0 0 zZ 0 zBegs zLets zZ 0 zZ 0 zZ zZ zZ zZ 0 zZ zZ zZ zZ zZ zZ zZ 0 0 zZ zZ 0 0 0 0 zZ zZ 0 zZ zZ 0 zZ zZ zZ zZ zZ zZ zZ 0 (fun _ => 0) hI hS ls hl)
