def zB : List Cond := [Cond.instantiable RX0 4, Cond.instantiable RX2 5, Cond.instantiable RX3 15, Cond.instantiable RX5 8, Cond.instantiable RX7 6, Cond.instantiable RX8 11, Cond.instantiable RX9 6, Cond.instantiable RX10 58, Cond.arrayOver (.object RX7), Cond.arrayOver (.array .int), Cond.arrayClass .int, Cond.arrayClass .boolean, Cond.arrayClass .char, Cond.arrayClass .long, Cond.laysStatic RX9 "LETTERS" "[C", Cond.initialized RX9, Cond.laysStatic RX5 "LEAST" "[I", Cond.initialized RX5, Cond.laysStatic RX5 "MOST" "[I", Cond.methodLinkNest RX0 36 yX9_isHeap RX9, Cond.methodLinkNest RX2 52 yX9_isHeap RX9, Cond.methodLinkNest RX3 102 yX9_isHeap RX9, Cond.fieldLinkNest RX6 32 RX9 "LETTERS" "[C" RX9, Cond.fieldLinkNest RX8 128 RX9 "LETTERS" "[C" RX9, Cond.laysStatic Bundle.tN "UNASSIGNED_STACK" Bundle.steD, Cond.initialized Bundle.tN, Cond.laysStatic Bundle.tN "SUPPRESSED_SENTINEL" Bundle.listD, Cond.stringRef RX1 19 "a scarf is no coat", Cond.stringRef RX1 30 "one black coat is like another", Cond.stringRef RX1 35 "a coat fails", Cond.stringRef RX9 364 "no such shelf", Cond.stringRef RX9 371 "no row, or no such place", Cond.classLink RL 8 RX9, Cond.code yX9_init cX9_init 2 none, Cond.methodLink RL 17 yX9_init, Cond.instanceMethod yX9_init, Cond.classLink RL 18 RX10, Cond.initialized RX10, Cond.code yX10_init cX10_init 1 none, Cond.methodLink RL 20 yX10_init, Cond.instanceMethod yX10_init]
theorem zB_in : ∀ w ∈ zB, w ∈ lw_tbl := fun w h => of_decide_eq_true (List.all_eq_true.mp (by decide +kernel : (zB.all fun w => decide (w ∈ lw_tbl)) = true) w h)
theorem zB_l (i : Nat) {w : Cond} (h : zB[i]? = some w) : w ∈ lw_tbl := zB_in w (List.mem_of_getElem? h)
theorem zstart_arr {s : State} {args : Array Value} {ty : FieldType} (h : (Cond.arrayClass ty).before args s = true) : ∃ c, ArrOfT s c ty ∧ s.vm.findClass ("[" ++ ty.toString) = some c := by
  obtain ⟨c, k, comp, h1, h2, h3⟩ := Cond.arrayClass_spec h
  exact ⟨c, fun n z => ⟨fun k h => (by cases h), k, h2, comp, h3⟩, h1⟩
theorem zstart_K {s : State} {args : Array Value} (hts : ∀ w ∈ lw_tbl, w.before args s = true) : ∃ (D : va_G) (ca : Nat → ClassId), va_K D vwCl (zT ca) s ∧ zAO s := by
  obtain ⟨c0, i0, k0⟩ := u_known (C := RX0) (T := TX0) (N := 4) (n := 4) hts (fun w h => zW_in w (zin_X0 w h)) (hts _ (zB_l 0 rfl))
  obtain ⟨c1, i1, k1⟩ := u_known (C := RX2) (T := TX2) (N := 5) (n := 5) hts (fun w h => zW_in w (zin_X2 w h)) (hts _ (zB_l 1 rfl))
  obtain ⟨c2, i2, k2⟩ := u_known (C := RX3) (T := TX3) (N := 15) (n := 15) hts (fun w h => zW_in w (zin_X3 w h)) (hts _ (zB_l 2 rfl))
  obtain ⟨c3, i3, k3⟩ := u_known (C := RX5) (T := TX5) (N := 8) (n := 8) hts (fun w h => zW_in w (zin_X5 w h)) (hts _ (zB_l 3 rfl))
  obtain ⟨c4, i4, k4⟩ := u_known (C := RX7) (T := TX7) (N := 6) (n := 6) hts (fun w h => zW_in w (zin_X7 w h)) (hts _ (zB_l 4 rfl))
  obtain ⟨c5, i5, k5⟩ := u_known (C := RX8) (T := TX8) (N := 11) (n := 11) hts (fun w h => zW_in w (zin_X8 w h)) (hts _ (zB_l 5 rfl))
  obtain ⟨c6, i6, k6⟩ := u_known (C := RX9) (T := TX9) (N := 6) (n := 6) hts (fun w h => zW_in w (zin_X9 w h)) (hts _ (zB_l 6 rfl))
  obtain ⟨c7, i7, k7⟩ := u_known (C := RX10) (T := TX10) (N := 58) (n := 58) hts (fun w h => zW_in w (zin_X10 w h)) (hts _ (zB_l 7 rfl))
  have hO : zAO s := ⟨va_AO.of (hts _ (zB_l 8 rfl)), hts _ (zB_l 9 rfl), fun q hq => va_Nw.of rfl (hts _ (zNl_in q hq))⟩
  obtain ⟨a0, r0, n0⟩ := zstart_arr (hts _ (zB_l 10 rfl))
  obtain ⟨a1, r1, n1⟩ := zstart_arr (hts _ (zB_l 11 rfl))
  obtain ⟨a2, r2, n2⟩ := zstart_arr (hts _ (zB_l 12 rfl))
  obtain ⟨a5, r5, n5⟩ := zstart_arr (hts _ (zB_l 13 rfl))
  obtain ⟨m3, a3, kk3, f3, g3, h3, j3, n3⟩ := Cond.arrayOver_spec (va_AO.use (A := #[]) hO.1)
  obtain ⟨m4, a4, kk4, f4, g4, h4, j4, n4⟩ := arrayOver_specB hO.2.1
  refine ⟨(fun c => match c with | 0 => c0 | 1 => c1 | 2 => c2 | 3 => c3 | 4 => c4 | 5 => c5 | 6 => c6 | _ => c7, fun c => match c with | 0 => i0 | 1 => i1 | 2 => i2 | 3 => i3 | 4 => i4 | 5 => i5 | 6 => i6 | _ => i7), fun k => match k with | 0 => a0 | 1 => a1 | 2 => a2 | 3 => a3 | 4 => a4 | _ => a5, ⟨?_, ?_⟩, hO⟩
  · intro c q hq
    match c, hq with
    | 0, hq => have e : (RX0, TX0, 4) = q := Option.some.inj (show some (RX0, TX0, 4) = some q from hq); subst e; exact k0
    | 1, hq => have e : (RX2, TX2, 5) = q := Option.some.inj (show some (RX2, TX2, 5) = some q from hq); subst e; exact k1
    | 2, hq => have e : (RX3, TX3, 15) = q := Option.some.inj (show some (RX3, TX3, 15) = some q from hq); subst e; exact k2
    | 3, hq => have e : (RX5, TX5, 8) = q := Option.some.inj (show some (RX5, TX5, 8) = some q from hq); subst e; exact k3
    | 4, hq => have e : (RX7, TX7, 6) = q := Option.some.inj (show some (RX7, TX7, 6) = some q from hq); subst e; exact k4
    | 5, hq => have e : (RX8, TX8, 11) = q := Option.some.inj (show some (RX8, TX8, 11) = some q from hq); subst e; exact k5
    | 6, hq => have e : (RX9, TX9, 6) = q := Option.some.inj (show some (RX9, TX9, 6) = some q from hq); subst e; exact k6
    | 7, hq => have e : (RX10, TX10, 58) = q := Option.some.inj (show some (RX10, TX10, 58) = some q from hq); subst e; exact k7
    | n + 8, hq => cases (show (none : Option vw_C) = some q from hq)
  · intro k q hq
    match k, hq with
    | 0, hq => have e : (a0, (.int : FieldType)) = q := Option.some.inj (show some (a0, (.int : FieldType)) = some q from hq); subst e; exact ⟨r0, n0⟩
    | 1, hq => have e : (a1, (.boolean : FieldType)) = q := Option.some.inj (show some (a1, (.boolean : FieldType)) = some q from hq); subst e; exact ⟨r1, n1⟩
    | 2, hq => have e : (a2, (.char : FieldType)) = q := Option.some.inj (show some (a2, (.char : FieldType)) = some q from hq); subst e; exact ⟨r2, n2⟩
    | 3, hq => have e : (a3, (.object RX7 : FieldType)) = q := Option.some.inj (show some (a3, (.object RX7 : FieldType)) = some q from hq); subst e; exact ⟨fun n z => ⟨fun k h => (by cases h), kk3, h3, m3, j3⟩, ⟨kk3, m3, h3, j3, f3, n3⟩⟩
    | 4, hq => have e : (a4, (.array .int : FieldType)) = q := Option.some.inj (show some (a4, (.array .int : FieldType)) = some q from hq); subst e; exact ⟨fun n z => ⟨fun k h => (by cases h), kk4, h4, m4, j4⟩, n4⟩
    | 5, hq => have e : (a5, (.long : FieldType)) = q := Option.some.inj (show some (a5, (.long : FieldType)) = some q from hq); subst e; exact ⟨r5, n5⟩
    | n + 6, hq => cases (show (none : Option (ClassId × FieldType)) = some q from hq)
set_option maxHeartbeats 4000000 in
theorem zstart_E {s : State} {args : Array Value} {A : Nat → Prop} (hts : ∀ w ∈ lw_tbl, w.before args s = true) (hg : (Jvm.Cond.and given_1 narrow_1).before args s = true) (hA : ∀ a : Nat, a < s.heap.size → ¬ A a) : ∃ t : Nat → Nat, zE t A s s.heap := by
  have hs := flat_of_before _ hg
  obtain ⟨t0, e0, T0⟩ := va_Tof (tm := .static RX9 "LETTERS" "[C") (ty := .char) (N := 6) (f := fun j => .int (zLet j)) (A := A) (by decide) (hs _ (by decide +kernel)) (va_eqt (hs _ (by decide +kernel))) (fun j hj => by
    rcases (show j = 0 ∨ j = 1 ∨ j = 2 ∨ j = 3 ∨ j = 4 ∨ j = 5 by omega) with rfl | rfl | rfl | rfl | rfl | rfl <;> exact va_eqt (hs _ (by decide +kernel))) hA
  have Z0 := va_Zref (A := A) (hts _ (zB_l 14 rfl)) (hts _ (zB_l 15 rfl)) e0 hA
  obtain ⟨t1, e1, T1⟩ := va_Tof (tm := .static RX5 "LEAST" "[I") (ty := .int) (N := 4) (f := fun j => .int (zLeast j)) (A := A) (by decide) (hs _ (by decide +kernel)) (va_eqt (hs _ (by decide +kernel))) (fun j hj => by
    rcases (show j = 0 ∨ j = 1 ∨ j = 2 ∨ j = 3 by omega) with rfl | rfl | rfl | rfl <;> exact va_eqt (hs _ (by decide +kernel))) hA
  have Z1 := va_Zref (A := A) (hts _ (zB_l 16 rfl)) (hts _ (zB_l 17 rfl)) e1 hA
  obtain ⟨t2, e2, T2⟩ := va_Tof (tm := .static RX5 "MOST" "[I") (ty := .int) (N := 4) (f := fun j => .int (zMost j)) (A := A) (by decide) (hs _ (by decide +kernel)) (va_eqt (hs _ (by decide +kernel))) (fun j hj => by
    rcases (show j = 0 ∨ j = 1 ∨ j = 2 ∨ j = 3 by omega) with rfl | rfl | rfl | rfl <;> exact va_eqt (hs _ (by decide +kernel))) hA
  have Z2 := va_Zref (A := A) (hts _ (zB_l 18 rfl)) (hts _ (zB_l 17 rfl)) e2 hA
  refine ⟨fun k => match k with | 0 => t0 | 1 => t1 | _ => t2, ⟨va_Nw.of rfl (hts _ (zB_l 19 rfl)), va_Nw.of rfl (hts _ (zB_l 20 rfl)), va_Nw.of rfl (hts _ (zB_l 21 rfl)), va_Nw.of rfl (hts _ (zB_l 22 rfl)), va_Nw.of rfl (hts _ (zB_l 23 rfl))⟩, ⟨Z0, T0⟩, ⟨Z1, T1⟩, ⟨Z2, T2⟩, vx_Zqof (hts _ (zB_l 24 rfl)) (hts _ (zB_l 25 rfl)) (hs _ (by decide +kernel)) hA, vx_Zqof (hts _ (zB_l 26 rfl)) (hts _ (zB_l 25 rfl)) (hs _ (by decide +kernel)) hA⟩
theorem zstart_X {s : State} {args : Array Value} (hts : ∀ w ∈ lw_tbl, w.before args s = true) (hg : (Jvm.Cond.and given_1 narrow_1).before args s = true) : zXs s := by
  have hs := flat_of_before _ hg
  refine ⟨fun w hw => va_Nw.of (zXk_tab (zXw_k w hw)) (hts w (zAt_in w (List.mem_filter.mp hw).1)), ⟨va_Nc.of (hs _ (by decide +kernel)), va_Nc.of (hs _ (by decide +kernel)), va_Nc.of (hs _ (by decide +kernel))⟩, ?_, ?_, ?_, ?_, ?_⟩
  · obtain ⟨a, c, cell, k, q1, -⟩ := Cond.exactly_spec (args := args) (first := s) (o := none) (s := s) (idx := []) (t := .string RX1 19) (cls := "java/lang/String") (hs (.exactly (.string RX1 19) "java/lang/String") (by decide +kernel))
    exact ⟨a, vk_R.of (hts _ (zB_l 27 rfl)) q1⟩
  · obtain ⟨a, c, cell, k, q1, -⟩ := Cond.exactly_spec (args := args) (first := s) (o := none) (s := s) (idx := []) (t := .string RX1 30) (cls := "java/lang/String") (hs (.exactly (.string RX1 30) "java/lang/String") (by decide +kernel))
    exact ⟨a, vk_R.of (hts _ (zB_l 28 rfl)) q1⟩
  · obtain ⟨a, c, cell, k, q1, -⟩ := Cond.exactly_spec (args := args) (first := s) (o := none) (s := s) (idx := []) (t := .string RX1 35) (cls := "java/lang/String") (hs (.exactly (.string RX1 35) "java/lang/String") (by decide +kernel))
    exact ⟨a, vk_R.of (hts _ (zB_l 29 rfl)) q1⟩
  · obtain ⟨a, c, cell, k, q1, -⟩ := Cond.exactly_spec (args := args) (first := s) (o := none) (s := s) (idx := []) (t := .string RX9 364) (cls := "java/lang/String") (hs (.exactly (.string RX9 364) "java/lang/String") (by decide +kernel))
    exact ⟨a, vk_R.of (hts _ (zB_l 30 rfl)) q1⟩
  · obtain ⟨a, c, cell, k, q1, -⟩ := Cond.exactly_spec (args := args) (first := s) (o := none) (s := s) (idx := []) (t := .string RX9 371) (cls := "java/lang/String") (hs (.exactly (.string RX9 371) "java/lang/String") (by decide +kernel))
    exact ⟨a, vk_R.of (hts _ (zB_l 31 rfl)) q1⟩
def r0 : SR := (0, fun _ => 0, fun _ => 0, fun _ => 0, 2, 9, 0, 0, 0, [])
theorem zw0 : okT r0 ∧ cR r0 0 zZ zZ zZ zSet 0 zZ 0 ∧ mR r0 0 zZ zZ zZ 2 9 0 0 0 0 zZ ∧ cSH zZ zZ zZ zZ zZ (fun _ => zZ) zZ zZ zZ zZ zZ zZ ∧ mLet zLets ∧ mBeg zBegs := by
  refine ⟨⟨⟨by decide, fun i hi => absurd hi (Nat.not_lt_zero i), by decide, by decide, by decide, by decide, by decide, by decide, by decide, by decide, fun x hx => by cases hx⟩, fun i hi => absurd hi (Nat.not_lt_zero i), by decide, by decide⟩, ?_, ?_, ?_, ?_, ?_⟩
  · exact ⟨rfl, fun i hi => absurd hi (Nat.not_lt_zero i), by decide, by decide, by decide, by decide, rfl, fun i x h => (by cases (show (none : Option Nat) = some x from h)), rfl⟩
  · exact ⟨rfl, fun i hi => absurd hi (Nat.not_lt_zero i), rfl, rfl, rfl, rfl, rfl, rfl, fun i x h => (by cases (show (none : Option Nat) = some x from h))⟩
  · exact fun d hd => ⟨0, by decide, rfl, rfl, fun h => absurd h (by decide), fun h => absurd h (by decide)⟩
  · intro i hi
    rcases (show i = 0 ∨ i = 1 ∨ i = 2 ∨ i = 3 ∨ i = 4 ∨ i = 5 by omega) with rfl | rfl | rfl | rfl | rfl | rfl <;> decide
  · intro i hi
    rcases (show i = 0 ∨ i = 1 ∨ i = 2 ∨ i = 3 ∨ i = 4 ∨ i = 5 by omega) with rfl | rfl | rfl | rfl | rfl | rfl <;> decide
theorem zap {U : Nat → List Nat} : ∀ js : List Nat, ((js.map U).flatten).Nodup → (∀ i ∈ js, (U i).Nodup) ∧ ∀ i j, i ∈ js → j ∈ js → ∀ a, a ∈ U i → a ∈ U j → i = j
  | [], _ => ⟨fun i h => (by cases h), fun i j h => (by cases h)⟩
  | k :: js, h => by
    rw [List.map_cons, List.flatten_cons, List.nodup_append] at h
    obtain ⟨h1, h2⟩ := zap js h.2.1
    have hin : ∀ j a, j ∈ js → a ∈ U j → a ∈ (js.map U).flatten := fun j a hj ha => List.mem_flatten.mpr ⟨U j, List.mem_map.mpr ⟨j, hj, rfl⟩, ha⟩
    refine ⟨fun i hi => ?_, fun i j hi hj a ha hb => ?_⟩
    · rcases List.mem_cons.mp hi with rfl | hi
      · exact h.1
      · exact h1 i hi
    · rcases List.mem_cons.mp hi with ei | hi1
      · rcases List.mem_cons.mp hj with ej | hj1
        · rw [ei, ej]
        · rw [ei] at ha
          exact absurd rfl (h.2.2 a ha a (hin j a hj1 hb))
      · rcases List.mem_cons.mp hj with ej | hj1
        · rw [ej] at hb
          exact absurd rfl (h.2.2 a hb a (hin i a hi1 ha))
        · exact h2 i j hi1 hj1 a ha hb
theorem zSt_of {U : Nat → List Nat} {A : Nat → Prop} {ws : va_W} (js : List Nat) (hD : va_D A ws) (hw : ws.map Prod.fst = (js.map U).flatten) (he : ∀ i, i ∉ js → U i = []) : zSt U A := by
  obtain ⟨h1, h2⟩ := zD_iff.mp hD
  rw [hw] at h1
  obtain ⟨g1, g2⟩ := zap js h1
  refine ⟨fun i j a ha hb => ?_, fun j => ?_, fun j a ha => ?_⟩
  · by_cases hi : i ∈ js
    · by_cases hj : j ∈ js
      · exact g2 i j hi hj a ha hb
      · rw [he j hj] at hb; cases hb
    · rw [he i hi] at ha; cases ha
  · by_cases hj : j ∈ js
    · exact g1 j hj
    · rw [he j hj]; exact List.nodup_nil
  · by_cases hj : j ∈ js
    · have : a ∈ (js.map U).flatten := List.mem_flatten.mpr ⟨U j, List.mem_map.mpr ⟨j, hj, rfl⟩, ha⟩
      rw [← hw] at this
      obtain ⟨q, hq, rfl⟩ := List.mem_map.mp this
      exact h2 q hq
    · rw [he j hj] at ha; cases ha
theorem zGL {w : Cond} (h : w ∈ lw_tbl) (hg : goodWord w = true) : GoodIn lw_tbl (w :: zI) := fun v hv => by
  rcases List.mem_cons.mp hv with rfl | q
  · exact ⟨h, good_of_word hg⟩
  · exact ⟨zI_in v q, good_of_word (zI_ok v q)⟩
