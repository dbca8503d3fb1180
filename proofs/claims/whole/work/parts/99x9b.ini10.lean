abbrev roi_X10 : Room := { frames := 2, cells := 33, slots := 1296, locals := 32 }
def zB10 (p : Program) (s : State) (m : MethodId) (args : Array Value) (meth : Method) (c : Code) (A : Nat → Prop) (D : va_G) (ca : Nat → ClassId) (ls : Array Slot) (h0 : Nat) : Prop := p.tables.exec = Jvm.exec ∧ c.code = cX10_init ∧ s.vm.findClass RX10 = some m.cls ∧ (∀ w ∈ zI, w.before args s = true) ∧ (∀ q, s.heap.size ≤ q → A q) ∧ va_K D vwCl (zT ca) s ∧ meth.name = "<init>" ∧ lv_has ls 1 [(0, .ref h0)]
def zC10 (p : Program) (l : Launch) (e : Env) (s : State) (m : MethodId) (args : Array Value) (below : List Frame) (meth : Method) (c : Code) (A : Nat → Prop) (D : va_G) (ca : Nat → ClassId) (Q : State → Prop) (ls : Array Slot) (h0 : Nat) (pc cells slots : Nat) (f : List Value) (R : va_W) : Prop := ∀ (H : Heap) (locs : List Loc), f.length = 58 → va_P D vwCl ((h0, .inr (7, f)) :: R) H → va_D A ((h0, .inr (7, f)) :: R) → va_S A s.heap H locs → W p l e roi_X10 s m args below meth c H locs cells slots Q (F0 m pc ls [])
section
variable {p : Program} {l : Launch} {e : Env} {s : State} {m : MethodId} {args : Array Value} {below : List Frame} {meth : Method} {c : Code} {A : Nat → Prop} {D : va_G} {ca : Nat → ClassId} {Q : State → Prop} {ls : Array Slot} {h0 : Nat}
set_option maxRecDepth 100000 in
theorem s10_4 {f : List Value} {R : va_W} (B : zB10 p s m args meth c A D ca ls h0) (kk : ∀ q : Nat, zC10 p l e s m args below meth c A D ca Q ls h0 12 1 10 (f.set 1 (.ref q)) ((q, .inl (ca 0, 10, .inl zZ)) :: R)) : zC10 p l e s m args below meth c A D ca Q ls h0 4 0 0 f R := by
  obtain ⟨hx, hb, hown, hts, hA, hK, hin, hl⟩ := B
  intro H locs hfl hP hD hS
  refine lv_aload_n hx hb dX10_init_4 rfl (lv_at hl 0 rfl) ?_
  refine lv_bipush (v := 10) hx hb dX10_init_5 (by decide) ?_
  refine zn_newa ([(h0, .inr (7, f))]) (R) (k := 0) rfl hx hb hts zi_4 rfl hK hP hD hS hA (n := 10) (N' := 10) (a0 := (10, .inl zZ)) (fun _ => rfl) (by decide) (by decide) (by decide) (Nat.le_of_ble_eq_true rfl) (Nat.le_of_ble_eq_true rfl) dX10_init_7 (fun q H hP hD hS => ?_)
  have hP : va_P D vwCl ((h0, .inr (7, f)) :: (q, .inl (ca 0, 10, .inl zZ)) :: R) _ := hP
  have hD : va_D A ((h0, .inr (7, f)) :: (q, .inl (ca 0, 10, .inl zZ)) :: R) := hD
  refine W.widen (k := 1) (n := 10) (Nat.le_of_ble_eq_true rfl) (Nat.le_of_ble_eq_true rfl) ?_
  refine zn_put (C := RX10) (T := TX10) (N := 58) (ci := 7) (v := .ref q) (ref := "CoatsOnTheBedModel") true hx hb hts zI_X10 tyX10 tyX10_ok nmX10 hown hK hP hD hS rfl 1 (by decide) zi_99 (fun _ h9 => h9) rfl hin rfl rfl rfl (by rw [hfl]; decide) dX10_init_9 (fun H locs hP hD hS => ?_)
  exact kk q H locs (by rw [List.length_set]; exact hfl) hP hD hS
set_option maxRecDepth 100000 in
theorem s10_12 {f : List Value} {R : va_W} (B : zB10 p s m args meth c A D ca ls h0) (kk : ∀ q : Nat, zC10 p l e s m args below meth c A D ca Q ls h0 20 2 20 (f.set 2 (.ref q)) ((q, .inl (ca 0, 10, .inl zZ)) :: R)) : zC10 p l e s m args below meth c A D ca Q ls h0 12 1 10 f R := by
  obtain ⟨hx, hb, hown, hts, hA, hK, hin, hl⟩ := B
  intro H locs hfl hP hD hS
  refine lv_aload_n hx hb dX10_init_12 rfl (lv_at hl 0 rfl) ?_
  refine lv_bipush (v := 10) hx hb dX10_init_13 (by decide) ?_
  refine zn_newa ([(h0, .inr (7, f))]) (R) (k := 0) rfl hx hb hts zi_4 rfl hK hP hD hS hA (n := 10) (N' := 10) (a0 := (10, .inl zZ)) (fun _ => rfl) (by decide) (by decide) (by decide) (Nat.le_of_ble_eq_true rfl) (Nat.le_of_ble_eq_true rfl) dX10_init_15 (fun q H hP hD hS => ?_)
  have hP : va_P D vwCl ((h0, .inr (7, f)) :: (q, .inl (ca 0, 10, .inl zZ)) :: R) _ := hP
  have hD : va_D A ((h0, .inr (7, f)) :: (q, .inl (ca 0, 10, .inl zZ)) :: R) := hD
  refine W.widen (k := 2) (n := 20) (Nat.le_of_ble_eq_true rfl) (Nat.le_of_ble_eq_true rfl) ?_
  refine zn_put (C := RX10) (T := TX10) (N := 58) (ci := 7) (v := .ref q) (ref := "CoatsOnTheBedModel") true hx hb hts zI_X10 tyX10 tyX10_ok nmX10 hown hK hP hD hS rfl 2 (by decide) zi_100 (fun _ h9 => h9) rfl hin rfl rfl rfl (by rw [hfl]; decide) dX10_init_17 (fun H locs hP hD hS => ?_)
  exact kk q H locs (by rw [List.length_set]; exact hfl) hP hD hS
set_option maxRecDepth 100000 in
theorem s10_20 {f : List Value} {R : va_W} (B : zB10 p s m args meth c A D ca ls h0) (kk : ∀ q : Nat, zC10 p l e s m args below meth c A D ca Q ls h0 28 3 30 (f.set 3 (.ref q)) ((q, .inl (ca 0, 10, .inl zZ)) :: R)) : zC10 p l e s m args below meth c A D ca Q ls h0 20 2 20 f R := by
  obtain ⟨hx, hb, hown, hts, hA, hK, hin, hl⟩ := B
  intro H locs hfl hP hD hS
  refine lv_aload_n hx hb dX10_init_20 rfl (lv_at hl 0 rfl) ?_
  refine lv_bipush (v := 10) hx hb dX10_init_21 (by decide) ?_
  refine zn_newa ([(h0, .inr (7, f))]) (R) (k := 0) rfl hx hb hts zi_4 rfl hK hP hD hS hA (n := 10) (N' := 10) (a0 := (10, .inl zZ)) (fun _ => rfl) (by decide) (by decide) (by decide) (Nat.le_of_ble_eq_true rfl) (Nat.le_of_ble_eq_true rfl) dX10_init_23 (fun q H hP hD hS => ?_)
  have hP : va_P D vwCl ((h0, .inr (7, f)) :: (q, .inl (ca 0, 10, .inl zZ)) :: R) _ := hP
  have hD : va_D A ((h0, .inr (7, f)) :: (q, .inl (ca 0, 10, .inl zZ)) :: R) := hD
  refine W.widen (k := 3) (n := 30) (Nat.le_of_ble_eq_true rfl) (Nat.le_of_ble_eq_true rfl) ?_
  refine zn_put (C := RX10) (T := TX10) (N := 58) (ci := 7) (v := .ref q) (ref := "CoatsOnTheBedModel") true hx hb hts zI_X10 tyX10 tyX10_ok nmX10 hown hK hP hD hS rfl 3 (by decide) zi_101 (fun _ h9 => h9) rfl hin rfl rfl rfl (by rw [hfl]; decide) dX10_init_25 (fun H locs hP hD hS => ?_)
  exact kk q H locs (by rw [List.length_set]; exact hfl) hP hD hS
set_option maxRecDepth 100000 in
theorem s10_28 {f : List Value} {R : va_W} (B : zB10 p s m args meth c A D ca ls h0) (kk : zC10 p l e s m args below meth c A D ca Q ls h0 33 3 30 (f.set 4 (.int 2)) R) : zC10 p l e s m args below meth c A D ca Q ls h0 28 3 30 f R := by
  obtain ⟨hx, hb, hown, hts, hA, hK, hin, hl⟩ := B
  intro H locs hfl hP hD hS
  refine lv_aload_n hx hb dX10_init_28 rfl (lv_at hl 0 rfl) ?_
  refine lv_iconst (v := 2) hx hb dX10_init_29 (by decide) ?_
  refine zn_put (C := RX10) (T := TX10) (N := 58) (ci := 7) (v := .int 2) (ref := "CoatsOnTheBedModel") false hx hb hts zI_X10 tyX10 tyX10_ok nmX10 hown hK hP hD hS rfl 4 (by decide) zi_102 (fun _ h9 => h9) rfl hin rfl rfl rfl (by rw [hfl]; decide) dX10_init_30 (fun H locs hP hD hS => ?_)
  exact kk H locs (by rw [List.length_set]; exact hfl) hP hD hS
set_option maxRecDepth 100000 in
theorem s10_33 {f : List Value} {R : va_W} (B : zB10 p s m args meth c A D ca ls h0) (kk : zC10 p l e s m args below meth c A D ca Q ls h0 39 3 30 (f.set 5 (.int 9)) R) : zC10 p l e s m args below meth c A D ca Q ls h0 33 3 30 f R := by
  obtain ⟨hx, hb, hown, hts, hA, hK, hin, hl⟩ := B
  intro H locs hfl hP hD hS
  refine lv_aload_n hx hb dX10_init_33 rfl (lv_at hl 0 rfl) ?_
  refine lv_bipush (v := 9) hx hb dX10_init_34 (by decide) ?_
  refine zn_put (C := RX10) (T := TX10) (N := 58) (ci := 7) (v := .int 9) (ref := "CoatsOnTheBedModel") false hx hb hts zI_X10 tyX10 tyX10_ok nmX10 hown hK hP hD hS rfl 5 (by decide) zi_103 (fun _ h9 => h9) rfl hin rfl rfl rfl (by rw [hfl]; decide) dX10_init_36 (fun H locs hP hD hS => ?_)
  exact kk H locs (by rw [List.length_set]; exact hfl) hP hD hS
set_option maxRecDepth 100000 in
theorem s10_39 {f : List Value} {R : va_W} (B : zB10 p s m args meth c A D ca ls h0) (kk : ∀ q : Nat, zC10 p l e s m args below meth c A D ca Q ls h0 47 4 36 (f.set 10 (.ref q)) ((q, .inl (ca 0, 6, .inl zZ)) :: R)) : zC10 p l e s m args below meth c A D ca Q ls h0 39 3 30 f R := by
  obtain ⟨hx, hb, hown, hts, hA, hK, hin, hl⟩ := B
  intro H locs hfl hP hD hS
  refine lv_aload_n hx hb dX10_init_39 rfl (lv_at hl 0 rfl) ?_
  refine lv_bipush (v := 6) hx hb dX10_init_40 (by decide) ?_
  refine zn_newa ([(h0, .inr (7, f))]) (R) (k := 0) rfl hx hb hts zi_4 rfl hK hP hD hS hA (n := 6) (N' := 6) (a0 := (6, .inl zZ)) (fun _ => rfl) (by decide) (by decide) (by decide) (Nat.le_of_ble_eq_true rfl) (Nat.le_of_ble_eq_true rfl) dX10_init_42 (fun q H hP hD hS => ?_)
  have hP : va_P D vwCl ((h0, .inr (7, f)) :: (q, .inl (ca 0, 6, .inl zZ)) :: R) _ := hP
  have hD : va_D A ((h0, .inr (7, f)) :: (q, .inl (ca 0, 6, .inl zZ)) :: R) := hD
  refine W.widen (k := 4) (n := 36) (Nat.le_of_ble_eq_true rfl) (Nat.le_of_ble_eq_true rfl) ?_
  refine zn_put (C := RX10) (T := TX10) (N := 58) (ci := 7) (v := .ref q) (ref := "CoatsOnTheBedModel") true hx hb hts zI_X10 tyX10 tyX10_ok nmX10 hown hK hP hD hS rfl 10 (by decide) zi_104 (fun _ h9 => h9) rfl hin rfl rfl rfl (by rw [hfl]; decide) dX10_init_44 (fun H locs hP hD hS => ?_)
  exact kk q H locs (by rw [List.length_set]; exact hfl) hP hD hS
set_option maxRecDepth 100000 in
theorem s10_47 {f : List Value} {R : va_W} (B : zB10 p s m args meth c A D ca ls h0) (kk : ∀ q : Nat, zC10 p l e s m args below meth c A D ca Q ls h0 55 5 42 (f.set 16 (.ref q)) ((q, .inl (ca 0, 6, .inl zZ)) :: R)) : zC10 p l e s m args below meth c A D ca Q ls h0 47 4 36 f R := by
  obtain ⟨hx, hb, hown, hts, hA, hK, hin, hl⟩ := B
  intro H locs hfl hP hD hS
  refine lv_aload_n hx hb dX10_init_47 rfl (lv_at hl 0 rfl) ?_
  refine lv_bipush (v := 6) hx hb dX10_init_48 (by decide) ?_
  refine zn_newa ([(h0, .inr (7, f))]) (R) (k := 0) rfl hx hb hts zi_4 rfl hK hP hD hS hA (n := 6) (N' := 6) (a0 := (6, .inl zZ)) (fun _ => rfl) (by decide) (by decide) (by decide) (Nat.le_of_ble_eq_true rfl) (Nat.le_of_ble_eq_true rfl) dX10_init_50 (fun q H hP hD hS => ?_)
  have hP : va_P D vwCl ((h0, .inr (7, f)) :: (q, .inl (ca 0, 6, .inl zZ)) :: R) _ := hP
  have hD : va_D A ((h0, .inr (7, f)) :: (q, .inl (ca 0, 6, .inl zZ)) :: R) := hD
  refine W.widen (k := 5) (n := 42) (Nat.le_of_ble_eq_true rfl) (Nat.le_of_ble_eq_true rfl) ?_
  refine zn_put (C := RX10) (T := TX10) (N := 58) (ci := 7) (v := .ref q) (ref := "CoatsOnTheBedModel") true hx hb hts zI_X10 tyX10 tyX10_ok nmX10 hown hK hP hD hS rfl 16 (by decide) zi_105 (fun _ h9 => h9) rfl hin rfl rfl rfl (by rw [hfl]; decide) dX10_init_52 (fun H locs hP hD hS => ?_)
  exact kk q H locs (by rw [List.length_set]; exact hfl) hP hD hS
set_option maxRecDepth 100000 in
theorem s10_55 {f : List Value} {R : va_W} (B : zB10 p s m args meth c A D ca ls h0) (kk : ∀ q : Nat, zC10 p l e s m args below meth c A D ca Q ls h0 93 6 48 (f.set 18 (.ref q)) ((q, .inl (ca 2, 6, .inl (upd (upd (upd (upd (upd (upd zZ (0 : Int32).toNatClampNeg (vp_nar .char 103)) (1 : Int32).toNatClampNeg (vp_nar .char 104)) (2 : Int32).toNatClampNeg (vp_nar .char 98)) (3 : Int32).toNatClampNeg (vp_nar .char 109)) (4 : Int32).toNatClampNeg (vp_nar .char 107)) (5 : Int32).toNatClampNeg (vp_nar .char 114)))) :: R)) : zC10 p l e s m args below meth c A D ca Q ls h0 55 5 42 f R := by
  obtain ⟨hx, hb, hown, hts, hA, hK, hin, hl⟩ := B
  intro H locs hfl hP hD hS
  refine lv_aload_n hx hb dX10_init_55 rfl (lv_at hl 0 rfl) ?_
  refine lv_bipush (v := 6) hx hb dX10_init_56 (by decide) ?_
  refine zn_newa ([(h0, .inr (7, f))]) (R) (k := 2) rfl hx hb hts zi_106 rfl hK hP hD hS hA (n := 6) (N' := 6) (a0 := (6, .inl zZ)) (fun _ => rfl) (by decide) (by decide) (by decide) (Nat.le_of_ble_eq_true rfl) (Nat.le_of_ble_eq_true rfl) dX10_init_58 (fun q H hP hD hS => ?_)
  have hP : va_P D vwCl ((h0, .inr (7, f)) :: (q, .inl (ca 2, 6, .inl zZ)) :: R) _ := hP
  have hD : va_D A ((h0, .inr (7, f)) :: (q, .inl (ca 2, 6, .inl zZ)) :: R) := hD
  refine W.widen (k := 6) (n := 48) (Nat.le_of_ble_eq_true rfl) (Nat.le_of_ble_eq_true rfl) ?_
  refine lv_dup hx hb dX10_init_60 rfl ?_
  refine lv_iconst (v := 0) hx hb dX10_init_61 (by decide) ?_
  refine lv_bipush (v := 103) hx hb dX10_init_62 (by decide) ?_
  refine va_cast hx hb hK hP hD hS 1 2 rfl rfl (zin_ok (by decide)) dX10_init_64 (fun H locs hP hD hS => ?_)
  have hP : va_P D vwCl ((h0, .inr (7, f)) :: (q, .inl (ca 2, 6, .inl (upd zZ (0 : Int32).toNatClampNeg (vp_nar .char 103)))) :: R) _ := hP
  have hD : va_D A ((h0, .inr (7, f)) :: (q, .inl (ca 2, 6, .inl (upd zZ (0 : Int32).toNatClampNeg (vp_nar .char 103)))) :: R) := hD
  refine lv_dup hx hb dX10_init_65 rfl ?_
  refine lv_iconst (v := 1) hx hb dX10_init_66 (by decide) ?_
  refine lv_bipush (v := 104) hx hb dX10_init_67 (by decide) ?_
  refine va_cast hx hb hK hP hD hS 1 2 rfl rfl (zin_ok (by decide)) dX10_init_69 (fun H locs hP hD hS => ?_)
  have hP : va_P D vwCl ((h0, .inr (7, f)) :: (q, .inl (ca 2, 6, .inl (upd (upd zZ (0 : Int32).toNatClampNeg (vp_nar .char 103)) (1 : Int32).toNatClampNeg (vp_nar .char 104)))) :: R) _ := hP
  have hD : va_D A ((h0, .inr (7, f)) :: (q, .inl (ca 2, 6, .inl (upd (upd zZ (0 : Int32).toNatClampNeg (vp_nar .char 103)) (1 : Int32).toNatClampNeg (vp_nar .char 104)))) :: R) := hD
  refine lv_dup hx hb dX10_init_70 rfl ?_
  refine lv_iconst (v := 2) hx hb dX10_init_71 (by decide) ?_
  refine lv_bipush (v := 98) hx hb dX10_init_72 (by decide) ?_
  refine va_cast hx hb hK hP hD hS 1 2 rfl rfl (zin_ok (by decide)) dX10_init_74 (fun H locs hP hD hS => ?_)
  have hP : va_P D vwCl ((h0, .inr (7, f)) :: (q, .inl (ca 2, 6, .inl (upd (upd (upd zZ (0 : Int32).toNatClampNeg (vp_nar .char 103)) (1 : Int32).toNatClampNeg (vp_nar .char 104)) (2 : Int32).toNatClampNeg (vp_nar .char 98)))) :: R) _ := hP
  have hD : va_D A ((h0, .inr (7, f)) :: (q, .inl (ca 2, 6, .inl (upd (upd (upd zZ (0 : Int32).toNatClampNeg (vp_nar .char 103)) (1 : Int32).toNatClampNeg (vp_nar .char 104)) (2 : Int32).toNatClampNeg (vp_nar .char 98)))) :: R) := hD
  refine lv_dup hx hb dX10_init_75 rfl ?_
  refine lv_iconst (v := 3) hx hb dX10_init_76 (by decide) ?_
  refine lv_bipush (v := 109) hx hb dX10_init_77 (by decide) ?_
  refine va_cast hx hb hK hP hD hS 1 2 rfl rfl (zin_ok (by decide)) dX10_init_79 (fun H locs hP hD hS => ?_)
  have hP : va_P D vwCl ((h0, .inr (7, f)) :: (q, .inl (ca 2, 6, .inl (upd (upd (upd (upd zZ (0 : Int32).toNatClampNeg (vp_nar .char 103)) (1 : Int32).toNatClampNeg (vp_nar .char 104)) (2 : Int32).toNatClampNeg (vp_nar .char 98)) (3 : Int32).toNatClampNeg (vp_nar .char 109)))) :: R) _ := hP
  have hD : va_D A ((h0, .inr (7, f)) :: (q, .inl (ca 2, 6, .inl (upd (upd (upd (upd zZ (0 : Int32).toNatClampNeg (vp_nar .char 103)) (1 : Int32).toNatClampNeg (vp_nar .char 104)) (2 : Int32).toNatClampNeg (vp_nar .char 98)) (3 : Int32).toNatClampNeg (vp_nar .char 109)))) :: R) := hD
  refine lv_dup hx hb dX10_init_80 rfl ?_
  refine lv_iconst (v := 4) hx hb dX10_init_81 (by decide) ?_
  refine lv_bipush (v := 107) hx hb dX10_init_82 (by decide) ?_
  refine va_cast hx hb hK hP hD hS 1 2 rfl rfl (zin_ok (by decide)) dX10_init_84 (fun H locs hP hD hS => ?_)
  have hP : va_P D vwCl ((h0, .inr (7, f)) :: (q, .inl (ca 2, 6, .inl (upd (upd (upd (upd (upd zZ (0 : Int32).toNatClampNeg (vp_nar .char 103)) (1 : Int32).toNatClampNeg (vp_nar .char 104)) (2 : Int32).toNatClampNeg (vp_nar .char 98)) (3 : Int32).toNatClampNeg (vp_nar .char 109)) (4 : Int32).toNatClampNeg (vp_nar .char 107)))) :: R) _ := hP
  have hD : va_D A ((h0, .inr (7, f)) :: (q, .inl (ca 2, 6, .inl (upd (upd (upd (upd (upd zZ (0 : Int32).toNatClampNeg (vp_nar .char 103)) (1 : Int32).toNatClampNeg (vp_nar .char 104)) (2 : Int32).toNatClampNeg (vp_nar .char 98)) (3 : Int32).toNatClampNeg (vp_nar .char 109)) (4 : Int32).toNatClampNeg (vp_nar .char 107)))) :: R) := hD
  refine lv_dup hx hb dX10_init_85 rfl ?_
  refine lv_iconst (v := 5) hx hb dX10_init_86 (by decide) ?_
  refine lv_bipush (v := 114) hx hb dX10_init_87 (by decide) ?_
  refine va_cast hx hb hK hP hD hS 1 2 rfl rfl (zin_ok (by decide)) dX10_init_89 (fun H locs hP hD hS => ?_)
  have hP : va_P D vwCl ((h0, .inr (7, f)) :: (q, .inl (ca 2, 6, .inl (upd (upd (upd (upd (upd (upd zZ (0 : Int32).toNatClampNeg (vp_nar .char 103)) (1 : Int32).toNatClampNeg (vp_nar .char 104)) (2 : Int32).toNatClampNeg (vp_nar .char 98)) (3 : Int32).toNatClampNeg (vp_nar .char 109)) (4 : Int32).toNatClampNeg (vp_nar .char 107)) (5 : Int32).toNatClampNeg (vp_nar .char 114)))) :: R) _ := hP
  have hD : va_D A ((h0, .inr (7, f)) :: (q, .inl (ca 2, 6, .inl (upd (upd (upd (upd (upd (upd zZ (0 : Int32).toNatClampNeg (vp_nar .char 103)) (1 : Int32).toNatClampNeg (vp_nar .char 104)) (2 : Int32).toNatClampNeg (vp_nar .char 98)) (3 : Int32).toNatClampNeg (vp_nar .char 109)) (4 : Int32).toNatClampNeg (vp_nar .char 107)) (5 : Int32).toNatClampNeg (vp_nar .char 114)))) :: R) := hD
  refine zn_put (C := RX10) (T := TX10) (N := 58) (ci := 7) (v := .ref q) (ref := "CoatsOnTheBedModel") true hx hb hts zI_X10 tyX10 tyX10_ok nmX10 hown hK hP hD hS rfl 18 (by decide) zi_107 (fun _ h9 => h9) rfl hin rfl rfl rfl (by rw [hfl]; decide) dX10_init_90 (fun H locs hP hD hS => ?_)
  exact kk q H locs (by rw [List.length_set]; exact hfl) hP hD hS
set_option maxRecDepth 100000 in
theorem s10_93 {f : List Value} {R : va_W} (B : zB10 p s m args meth c A D ca ls h0) (kk : ∀ q : Nat, zC10 p l e s m args below meth c A D ca Q ls h0 131 7 54 (f.set 19 (.ref q)) ((q, .inl (ca 2, 6, .inl (upd (upd (upd (upd (upd (upd zZ (0 : Int32).toNatClampNeg (vp_nar .char 102)) (1 : Int32).toNatClampNeg (vp_nar .char 115)) (2 : Int32).toNatClampNeg (vp_nar .char 101)) (3 : Int32).toNatClampNeg (vp_nar .char 108)) (4 : Int32).toNatClampNeg (vp_nar .char 111)) (5 : Int32).toNatClampNeg (vp_nar .char 114)))) :: R)) : zC10 p l e s m args below meth c A D ca Q ls h0 93 6 48 f R := by
  obtain ⟨hx, hb, hown, hts, hA, hK, hin, hl⟩ := B
  intro H locs hfl hP hD hS
  refine lv_aload_n hx hb dX10_init_93 rfl (lv_at hl 0 rfl) ?_
  refine lv_bipush (v := 6) hx hb dX10_init_94 (by decide) ?_
  refine zn_newa ([(h0, .inr (7, f))]) (R) (k := 2) rfl hx hb hts zi_106 rfl hK hP hD hS hA (n := 6) (N' := 6) (a0 := (6, .inl zZ)) (fun _ => rfl) (by decide) (by decide) (by decide) (Nat.le_of_ble_eq_true rfl) (Nat.le_of_ble_eq_true rfl) dX10_init_96 (fun q H hP hD hS => ?_)
  have hP : va_P D vwCl ((h0, .inr (7, f)) :: (q, .inl (ca 2, 6, .inl zZ)) :: R) _ := hP
  have hD : va_D A ((h0, .inr (7, f)) :: (q, .inl (ca 2, 6, .inl zZ)) :: R) := hD
  refine W.widen (k := 7) (n := 54) (Nat.le_of_ble_eq_true rfl) (Nat.le_of_ble_eq_true rfl) ?_
  refine lv_dup hx hb dX10_init_98 rfl ?_
  refine lv_iconst (v := 0) hx hb dX10_init_99 (by decide) ?_
  refine lv_bipush (v := 102) hx hb dX10_init_100 (by decide) ?_
  refine va_cast hx hb hK hP hD hS 1 2 rfl rfl (zin_ok (by decide)) dX10_init_102 (fun H locs hP hD hS => ?_)
  have hP : va_P D vwCl ((h0, .inr (7, f)) :: (q, .inl (ca 2, 6, .inl (upd zZ (0 : Int32).toNatClampNeg (vp_nar .char 102)))) :: R) _ := hP
  have hD : va_D A ((h0, .inr (7, f)) :: (q, .inl (ca 2, 6, .inl (upd zZ (0 : Int32).toNatClampNeg (vp_nar .char 102)))) :: R) := hD
  refine lv_dup hx hb dX10_init_103 rfl ?_
  refine lv_iconst (v := 1) hx hb dX10_init_104 (by decide) ?_
  refine lv_bipush (v := 115) hx hb dX10_init_105 (by decide) ?_
  refine va_cast hx hb hK hP hD hS 1 2 rfl rfl (zin_ok (by decide)) dX10_init_107 (fun H locs hP hD hS => ?_)
  have hP : va_P D vwCl ((h0, .inr (7, f)) :: (q, .inl (ca 2, 6, .inl (upd (upd zZ (0 : Int32).toNatClampNeg (vp_nar .char 102)) (1 : Int32).toNatClampNeg (vp_nar .char 115)))) :: R) _ := hP
  have hD : va_D A ((h0, .inr (7, f)) :: (q, .inl (ca 2, 6, .inl (upd (upd zZ (0 : Int32).toNatClampNeg (vp_nar .char 102)) (1 : Int32).toNatClampNeg (vp_nar .char 115)))) :: R) := hD
  refine lv_dup hx hb dX10_init_108 rfl ?_
  refine lv_iconst (v := 2) hx hb dX10_init_109 (by decide) ?_
  refine lv_bipush (v := 101) hx hb dX10_init_110 (by decide) ?_
  refine va_cast hx hb hK hP hD hS 1 2 rfl rfl (zin_ok (by decide)) dX10_init_112 (fun H locs hP hD hS => ?_)
  have hP : va_P D vwCl ((h0, .inr (7, f)) :: (q, .inl (ca 2, 6, .inl (upd (upd (upd zZ (0 : Int32).toNatClampNeg (vp_nar .char 102)) (1 : Int32).toNatClampNeg (vp_nar .char 115)) (2 : Int32).toNatClampNeg (vp_nar .char 101)))) :: R) _ := hP
  have hD : va_D A ((h0, .inr (7, f)) :: (q, .inl (ca 2, 6, .inl (upd (upd (upd zZ (0 : Int32).toNatClampNeg (vp_nar .char 102)) (1 : Int32).toNatClampNeg (vp_nar .char 115)) (2 : Int32).toNatClampNeg (vp_nar .char 101)))) :: R) := hD
  refine lv_dup hx hb dX10_init_113 rfl ?_
  refine lv_iconst (v := 3) hx hb dX10_init_114 (by decide) ?_
  refine lv_bipush (v := 108) hx hb dX10_init_115 (by decide) ?_
  refine va_cast hx hb hK hP hD hS 1 2 rfl rfl (zin_ok (by decide)) dX10_init_117 (fun H locs hP hD hS => ?_)
  have hP : va_P D vwCl ((h0, .inr (7, f)) :: (q, .inl (ca 2, 6, .inl (upd (upd (upd (upd zZ (0 : Int32).toNatClampNeg (vp_nar .char 102)) (1 : Int32).toNatClampNeg (vp_nar .char 115)) (2 : Int32).toNatClampNeg (vp_nar .char 101)) (3 : Int32).toNatClampNeg (vp_nar .char 108)))) :: R) _ := hP
  have hD : va_D A ((h0, .inr (7, f)) :: (q, .inl (ca 2, 6, .inl (upd (upd (upd (upd zZ (0 : Int32).toNatClampNeg (vp_nar .char 102)) (1 : Int32).toNatClampNeg (vp_nar .char 115)) (2 : Int32).toNatClampNeg (vp_nar .char 101)) (3 : Int32).toNatClampNeg (vp_nar .char 108)))) :: R) := hD
  refine lv_dup hx hb dX10_init_118 rfl ?_
  refine lv_iconst (v := 4) hx hb dX10_init_119 (by decide) ?_
  refine lv_bipush (v := 111) hx hb dX10_init_120 (by decide) ?_
  refine va_cast hx hb hK hP hD hS 1 2 rfl rfl (zin_ok (by decide)) dX10_init_122 (fun H locs hP hD hS => ?_)
  have hP : va_P D vwCl ((h0, .inr (7, f)) :: (q, .inl (ca 2, 6, .inl (upd (upd (upd (upd (upd zZ (0 : Int32).toNatClampNeg (vp_nar .char 102)) (1 : Int32).toNatClampNeg (vp_nar .char 115)) (2 : Int32).toNatClampNeg (vp_nar .char 101)) (3 : Int32).toNatClampNeg (vp_nar .char 108)) (4 : Int32).toNatClampNeg (vp_nar .char 111)))) :: R) _ := hP
  have hD : va_D A ((h0, .inr (7, f)) :: (q, .inl (ca 2, 6, .inl (upd (upd (upd (upd (upd zZ (0 : Int32).toNatClampNeg (vp_nar .char 102)) (1 : Int32).toNatClampNeg (vp_nar .char 115)) (2 : Int32).toNatClampNeg (vp_nar .char 101)) (3 : Int32).toNatClampNeg (vp_nar .char 108)) (4 : Int32).toNatClampNeg (vp_nar .char 111)))) :: R) := hD
  refine lv_dup hx hb dX10_init_123 rfl ?_
  refine lv_iconst (v := 5) hx hb dX10_init_124 (by decide) ?_
  refine lv_bipush (v := 114) hx hb dX10_init_125 (by decide) ?_
  refine va_cast hx hb hK hP hD hS 1 2 rfl rfl (zin_ok (by decide)) dX10_init_127 (fun H locs hP hD hS => ?_)
  have hP : va_P D vwCl ((h0, .inr (7, f)) :: (q, .inl (ca 2, 6, .inl (upd (upd (upd (upd (upd (upd zZ (0 : Int32).toNatClampNeg (vp_nar .char 102)) (1 : Int32).toNatClampNeg (vp_nar .char 115)) (2 : Int32).toNatClampNeg (vp_nar .char 101)) (3 : Int32).toNatClampNeg (vp_nar .char 108)) (4 : Int32).toNatClampNeg (vp_nar .char 111)) (5 : Int32).toNatClampNeg (vp_nar .char 114)))) :: R) _ := hP
  have hD : va_D A ((h0, .inr (7, f)) :: (q, .inl (ca 2, 6, .inl (upd (upd (upd (upd (upd (upd zZ (0 : Int32).toNatClampNeg (vp_nar .char 102)) (1 : Int32).toNatClampNeg (vp_nar .char 115)) (2 : Int32).toNatClampNeg (vp_nar .char 101)) (3 : Int32).toNatClampNeg (vp_nar .char 108)) (4 : Int32).toNatClampNeg (vp_nar .char 111)) (5 : Int32).toNatClampNeg (vp_nar .char 114)))) :: R) := hD
  refine zn_put (C := RX10) (T := TX10) (N := 58) (ci := 7) (v := .ref q) (ref := "CoatsOnTheBedModel") true hx hb hts zI_X10 tyX10 tyX10_ok nmX10 hown hK hP hD hS rfl 19 (by decide) zi_108 (fun _ h9 => h9) rfl hin rfl rfl rfl (by rw [hfl]; decide) dX10_init_128 (fun H locs hP hD hS => ?_)
  exact kk q H locs (by rw [List.length_set]; exact hfl) hP hD hS
set_option maxRecDepth 100000 in
theorem s10_131 {f : List Value} {R : va_W} (B : zB10 p s m args meth c A D ca ls h0) (kk : ∀ q : Nat, zC10 p l e s m args below meth c A D ca Q ls h0 139 8 64 (f.set 20 (.ref q)) ((q, .inl (ca 0, 10, .inl zZ)) :: R)) : zC10 p l e s m args below meth c A D ca Q ls h0 131 7 54 f R := by
  obtain ⟨hx, hb, hown, hts, hA, hK, hin, hl⟩ := B
  intro H locs hfl hP hD hS
  refine lv_aload_n hx hb dX10_init_131 rfl (lv_at hl 0 rfl) ?_
  refine lv_bipush (v := 10) hx hb dX10_init_132 (by decide) ?_
  refine zn_newa ([(h0, .inr (7, f))]) (R) (k := 0) rfl hx hb hts zi_4 rfl hK hP hD hS hA (n := 10) (N' := 10) (a0 := (10, .inl zZ)) (fun _ => rfl) (by decide) (by decide) (by decide) (Nat.le_of_ble_eq_true rfl) (Nat.le_of_ble_eq_true rfl) dX10_init_134 (fun q H hP hD hS => ?_)
  have hP : va_P D vwCl ((h0, .inr (7, f)) :: (q, .inl (ca 0, 10, .inl zZ)) :: R) _ := hP
  have hD : va_D A ((h0, .inr (7, f)) :: (q, .inl (ca 0, 10, .inl zZ)) :: R) := hD
  refine W.widen (k := 8) (n := 64) (Nat.le_of_ble_eq_true rfl) (Nat.le_of_ble_eq_true rfl) ?_
  refine zn_put (C := RX10) (T := TX10) (N := 58) (ci := 7) (v := .ref q) (ref := "CoatsOnTheBedModel") true hx hb hts zI_X10 tyX10 tyX10_ok nmX10 hown hK hP hD hS rfl 20 (by decide) zi_109 (fun _ h9 => h9) rfl hin rfl rfl rfl (by rw [hfl]; decide) dX10_init_136 (fun H locs hP hD hS => ?_)
  exact kk q H locs (by rw [List.length_set]; exact hfl) hP hD hS
set_option maxRecDepth 100000 in
theorem s10_139 {f : List Value} {R : va_W} (B : zB10 p s m args meth c A D ca ls h0) (kk : ∀ q : Nat, zC10 p l e s m args below meth c A D ca Q ls h0 147 9 74 (f.set 22 (.ref q)) ((q, .inl (ca 0, 10, .inl zZ)) :: R)) : zC10 p l e s m args below meth c A D ca Q ls h0 139 8 64 f R := by
  obtain ⟨hx, hb, hown, hts, hA, hK, hin, hl⟩ := B
  intro H locs hfl hP hD hS
  refine lv_aload_n hx hb dX10_init_139 rfl (lv_at hl 0 rfl) ?_
  refine lv_bipush (v := 10) hx hb dX10_init_140 (by decide) ?_
  refine zn_newa ([(h0, .inr (7, f))]) (R) (k := 0) rfl hx hb hts zi_4 rfl hK hP hD hS hA (n := 10) (N' := 10) (a0 := (10, .inl zZ)) (fun _ => rfl) (by decide) (by decide) (by decide) (Nat.le_of_ble_eq_true rfl) (Nat.le_of_ble_eq_true rfl) dX10_init_142 (fun q H hP hD hS => ?_)
  have hP : va_P D vwCl ((h0, .inr (7, f)) :: (q, .inl (ca 0, 10, .inl zZ)) :: R) _ := hP
  have hD : va_D A ((h0, .inr (7, f)) :: (q, .inl (ca 0, 10, .inl zZ)) :: R) := hD
  refine W.widen (k := 9) (n := 74) (Nat.le_of_ble_eq_true rfl) (Nat.le_of_ble_eq_true rfl) ?_
  refine zn_put (C := RX10) (T := TX10) (N := 58) (ci := 7) (v := .ref q) (ref := "CoatsOnTheBedModel") true hx hb hts zI_X10 tyX10 tyX10_ok nmX10 hown hK hP hD hS rfl 22 (by decide) zi_110 (fun _ h9 => h9) rfl hin rfl rfl rfl (by rw [hfl]; decide) dX10_init_144 (fun H locs hP hD hS => ?_)
  exact kk q H locs (by rw [List.length_set]; exact hfl) hP hD hS
set_option maxRecDepth 100000 in
theorem s10_147 {f : List Value} {R : va_W} (B : zB10 p s m args meth c A D ca ls h0) (kk : ∀ q : Nat, zC10 p l e s m args below meth c A D ca Q ls h0 155 10 84 (f.set 24 (.ref q)) ((q, .inl (ca 0, 10, .inl zZ)) :: R)) : zC10 p l e s m args below meth c A D ca Q ls h0 147 9 74 f R := by
  obtain ⟨hx, hb, hown, hts, hA, hK, hin, hl⟩ := B
  intro H locs hfl hP hD hS
  refine lv_aload_n hx hb dX10_init_147 rfl (lv_at hl 0 rfl) ?_
  refine lv_bipush (v := 10) hx hb dX10_init_148 (by decide) ?_
  refine zn_newa ([(h0, .inr (7, f))]) (R) (k := 0) rfl hx hb hts zi_4 rfl hK hP hD hS hA (n := 10) (N' := 10) (a0 := (10, .inl zZ)) (fun _ => rfl) (by decide) (by decide) (by decide) (Nat.le_of_ble_eq_true rfl) (Nat.le_of_ble_eq_true rfl) dX10_init_150 (fun q H hP hD hS => ?_)
  have hP : va_P D vwCl ((h0, .inr (7, f)) :: (q, .inl (ca 0, 10, .inl zZ)) :: R) _ := hP
  have hD : va_D A ((h0, .inr (7, f)) :: (q, .inl (ca 0, 10, .inl zZ)) :: R) := hD
  refine W.widen (k := 10) (n := 84) (Nat.le_of_ble_eq_true rfl) (Nat.le_of_ble_eq_true rfl) ?_
  refine zn_put (C := RX10) (T := TX10) (N := 58) (ci := 7) (v := .ref q) (ref := "CoatsOnTheBedModel") true hx hb hts zI_X10 tyX10 tyX10_ok nmX10 hown hK hP hD hS rfl 24 (by decide) zi_111 (fun _ h9 => h9) rfl hin rfl rfl rfl (by rw [hfl]; decide) dX10_init_152 (fun H locs hP hD hS => ?_)
  exact kk q H locs (by rw [List.length_set]; exact hfl) hP hD hS
set_option maxRecDepth 100000 in
theorem s10_155 {f : List Value} {R : va_W} (B : zB10 p s m args meth c A D ca ls h0) (kk : ∀ q : Nat, zC10 p l e s m args below meth c A D ca Q ls h0 163 11 114 (f.set 25 (.ref q)) ((q, .inl (ca 0, 30, .inl zZ)) :: R)) : zC10 p l e s m args below meth c A D ca Q ls h0 155 10 84 f R := by
  obtain ⟨hx, hb, hown, hts, hA, hK, hin, hl⟩ := B
  intro H locs hfl hP hD hS
  refine lv_aload_n hx hb dX10_init_155 rfl (lv_at hl 0 rfl) ?_
  refine lv_bipush (v := 30) hx hb dX10_init_156 (by decide) ?_
  refine zn_newa ([(h0, .inr (7, f))]) (R) (k := 0) rfl hx hb hts zi_4 rfl hK hP hD hS hA (n := 30) (N' := 30) (a0 := (30, .inl zZ)) (fun _ => rfl) (by decide) (by decide) (by decide) (Nat.le_of_ble_eq_true rfl) (Nat.le_of_ble_eq_true rfl) dX10_init_158 (fun q H hP hD hS => ?_)
  have hP : va_P D vwCl ((h0, .inr (7, f)) :: (q, .inl (ca 0, 30, .inl zZ)) :: R) _ := hP
  have hD : va_D A ((h0, .inr (7, f)) :: (q, .inl (ca 0, 30, .inl zZ)) :: R) := hD
  refine W.widen (k := 11) (n := 114) (Nat.le_of_ble_eq_true rfl) (Nat.le_of_ble_eq_true rfl) ?_
  refine zn_put (C := RX10) (T := TX10) (N := 58) (ci := 7) (v := .ref q) (ref := "CoatsOnTheBedModel") true hx hb hts zI_X10 tyX10 tyX10_ok nmX10 hown hK hP hD hS rfl 25 (by decide) zi_112 (fun _ h9 => h9) rfl hin rfl rfl rfl (by rw [hfl]; decide) dX10_init_160 (fun H locs hP hD hS => ?_)
  exact kk q H locs (by rw [List.length_set]; exact hfl) hP hD hS
set_option maxRecDepth 100000 in
theorem s10_163 {f : List Value} {R : va_W} (B : zB10 p s m args meth c A D ca ls h0) (kk : ∀ q : Nat, zC10 p l e s m args below meth c A D ca Q ls h0 170 12 117 (f.set 26 (.ref q)) ((q, .inl (ca 0, 3, .inl zZ)) :: R)) : zC10 p l e s m args below meth c A D ca Q ls h0 163 11 114 f R := by
  obtain ⟨hx, hb, hown, hts, hA, hK, hin, hl⟩ := B
  intro H locs hfl hP hD hS
  refine lv_aload_n hx hb dX10_init_163 rfl (lv_at hl 0 rfl) ?_
  refine lv_iconst (v := 3) hx hb dX10_init_164 (by decide) ?_
  refine zn_newa ([(h0, .inr (7, f))]) (R) (k := 0) rfl hx hb hts zi_4 rfl hK hP hD hS hA (n := 3) (N' := 3) (a0 := (3, .inl zZ)) (fun _ => rfl) (by decide) (by decide) (by decide) (Nat.le_of_ble_eq_true rfl) (Nat.le_of_ble_eq_true rfl) dX10_init_165 (fun q H hP hD hS => ?_)
  have hP : va_P D vwCl ((h0, .inr (7, f)) :: (q, .inl (ca 0, 3, .inl zZ)) :: R) _ := hP
  have hD : va_D A ((h0, .inr (7, f)) :: (q, .inl (ca 0, 3, .inl zZ)) :: R) := hD
  refine W.widen (k := 12) (n := 117) (Nat.le_of_ble_eq_true rfl) (Nat.le_of_ble_eq_true rfl) ?_
  refine zn_put (C := RX10) (T := TX10) (N := 58) (ci := 7) (v := .ref q) (ref := "CoatsOnTheBedModel") true hx hb hts zI_X10 tyX10 tyX10_ok nmX10 hown hK hP hD hS rfl 26 (by decide) zi_113 (fun _ h9 => h9) rfl hin rfl rfl rfl (by rw [hfl]; decide) dX10_init_167 (fun H locs hP hD hS => ?_)
  exact kk q H locs (by rw [List.length_set]; exact hfl) hP hD hS
set_option maxRecDepth 100000 in
theorem s10_170 {f : List Value} {R : va_W} (B : zB10 p s m args meth c A D ca ls h0) (kk : ∀ q : Nat, zC10 p l e s m args below meth c A D ca Q ls h0 178 13 127 (f.set 27 (.ref q)) ((q, .inl (ca 0, 10, .inl zZ)) :: R)) : zC10 p l e s m args below meth c A D ca Q ls h0 170 12 117 f R := by
  obtain ⟨hx, hb, hown, hts, hA, hK, hin, hl⟩ := B
  intro H locs hfl hP hD hS
  refine lv_aload_n hx hb dX10_init_170 rfl (lv_at hl 0 rfl) ?_
  refine lv_bipush (v := 10) hx hb dX10_init_171 (by decide) ?_
  refine zn_newa ([(h0, .inr (7, f))]) (R) (k := 0) rfl hx hb hts zi_4 rfl hK hP hD hS hA (n := 10) (N' := 10) (a0 := (10, .inl zZ)) (fun _ => rfl) (by decide) (by decide) (by decide) (Nat.le_of_ble_eq_true rfl) (Nat.le_of_ble_eq_true rfl) dX10_init_173 (fun q H hP hD hS => ?_)
  have hP : va_P D vwCl ((h0, .inr (7, f)) :: (q, .inl (ca 0, 10, .inl zZ)) :: R) _ := hP
  have hD : va_D A ((h0, .inr (7, f)) :: (q, .inl (ca 0, 10, .inl zZ)) :: R) := hD
  refine W.widen (k := 13) (n := 127) (Nat.le_of_ble_eq_true rfl) (Nat.le_of_ble_eq_true rfl) ?_
  refine zn_put (C := RX10) (T := TX10) (N := 58) (ci := 7) (v := .ref q) (ref := "CoatsOnTheBedModel") true hx hb hts zI_X10 tyX10 tyX10_ok nmX10 hown hK hP hD hS rfl 27 (by decide) zi_114 (fun _ h9 => h9) rfl hin rfl rfl rfl (by rw [hfl]; decide) dX10_init_175 (fun H locs hP hD hS => ?_)
  exact kk q H locs (by rw [List.length_set]; exact hfl) hP hD hS
set_option maxRecDepth 100000 in
theorem s10_178 {f : List Value} {R : va_W} (B : zB10 p s m args meth c A D ca ls h0) (kk : ∀ q : Nat, zC10 p l e s m args below meth c A D ca Q ls h0 186 14 137 (f.set 29 (.ref q)) ((q, .inl (ca 0, 10, .inl zZ)) :: R)) : zC10 p l e s m args below meth c A D ca Q ls h0 178 13 127 f R := by
  obtain ⟨hx, hb, hown, hts, hA, hK, hin, hl⟩ := B
  intro H locs hfl hP hD hS
  refine lv_aload_n hx hb dX10_init_178 rfl (lv_at hl 0 rfl) ?_
  refine lv_bipush (v := 10) hx hb dX10_init_179 (by decide) ?_
  refine zn_newa ([(h0, .inr (7, f))]) (R) (k := 0) rfl hx hb hts zi_4 rfl hK hP hD hS hA (n := 10) (N' := 10) (a0 := (10, .inl zZ)) (fun _ => rfl) (by decide) (by decide) (by decide) (Nat.le_of_ble_eq_true rfl) (Nat.le_of_ble_eq_true rfl) dX10_init_181 (fun q H hP hD hS => ?_)
  have hP : va_P D vwCl ((h0, .inr (7, f)) :: (q, .inl (ca 0, 10, .inl zZ)) :: R) _ := hP
  have hD : va_D A ((h0, .inr (7, f)) :: (q, .inl (ca 0, 10, .inl zZ)) :: R) := hD
  refine W.widen (k := 14) (n := 137) (Nat.le_of_ble_eq_true rfl) (Nat.le_of_ble_eq_true rfl) ?_
  refine zn_put (C := RX10) (T := TX10) (N := 58) (ci := 7) (v := .ref q) (ref := "CoatsOnTheBedModel") true hx hb hts zI_X10 tyX10 tyX10_ok nmX10 hown hK hP hD hS rfl 29 (by decide) zi_115 (fun _ h9 => h9) rfl hin rfl rfl rfl (by rw [hfl]; decide) dX10_init_183 (fun H locs hP hD hS => ?_)
  exact kk q H locs (by rw [List.length_set]; exact hfl) hP hD hS
set_option maxRecDepth 100000 in
theorem s10_186 {f : List Value} {R : va_W} (B : zB10 p s m args meth c A D ca ls h0) (kk : ∀ q : Nat, zC10 p l e s m args below meth c A D ca Q ls h0 194 15 147 (f.set 30 (.ref q)) ((q, .inl (ca 0, 10, .inl zZ)) :: R)) : zC10 p l e s m args below meth c A D ca Q ls h0 186 14 137 f R := by
  obtain ⟨hx, hb, hown, hts, hA, hK, hin, hl⟩ := B
  intro H locs hfl hP hD hS
  refine lv_aload_n hx hb dX10_init_186 rfl (lv_at hl 0 rfl) ?_
  refine lv_bipush (v := 10) hx hb dX10_init_187 (by decide) ?_
  refine zn_newa ([(h0, .inr (7, f))]) (R) (k := 0) rfl hx hb hts zi_4 rfl hK hP hD hS hA (n := 10) (N' := 10) (a0 := (10, .inl zZ)) (fun _ => rfl) (by decide) (by decide) (by decide) (Nat.le_of_ble_eq_true rfl) (Nat.le_of_ble_eq_true rfl) dX10_init_189 (fun q H hP hD hS => ?_)
  have hP : va_P D vwCl ((h0, .inr (7, f)) :: (q, .inl (ca 0, 10, .inl zZ)) :: R) _ := hP
  have hD : va_D A ((h0, .inr (7, f)) :: (q, .inl (ca 0, 10, .inl zZ)) :: R) := hD
  refine W.widen (k := 15) (n := 147) (Nat.le_of_ble_eq_true rfl) (Nat.le_of_ble_eq_true rfl) ?_
  refine zn_put (C := RX10) (T := TX10) (N := 58) (ci := 7) (v := .ref q) (ref := "CoatsOnTheBedModel") true hx hb hts zI_X10 tyX10 tyX10_ok nmX10 hown hK hP hD hS rfl 30 (by decide) zi_116 (fun _ h9 => h9) rfl hin rfl rfl rfl (by rw [hfl]; decide) dX10_init_191 (fun H locs hP hD hS => ?_)
  exact kk q H locs (by rw [List.length_set]; exact hfl) hP hD hS
set_option maxRecDepth 100000 in
theorem s10_194 {f : List Value} {R : va_W} (B : zB10 p s m args meth c A D ca ls h0) (kk : ∀ q : Nat, zC10 p l e s m args below meth c A D ca Q ls h0 202 16 157 (f.set 31 (.ref q)) ((q, .inl (ca 0, 10, .inl zZ)) :: R)) : zC10 p l e s m args below meth c A D ca Q ls h0 194 15 147 f R := by
  obtain ⟨hx, hb, hown, hts, hA, hK, hin, hl⟩ := B
  intro H locs hfl hP hD hS
  refine lv_aload_n hx hb dX10_init_194 rfl (lv_at hl 0 rfl) ?_
  refine lv_bipush (v := 10) hx hb dX10_init_195 (by decide) ?_
  refine zn_newa ([(h0, .inr (7, f))]) (R) (k := 0) rfl hx hb hts zi_4 rfl hK hP hD hS hA (n := 10) (N' := 10) (a0 := (10, .inl zZ)) (fun _ => rfl) (by decide) (by decide) (by decide) (Nat.le_of_ble_eq_true rfl) (Nat.le_of_ble_eq_true rfl) dX10_init_197 (fun q H hP hD hS => ?_)
  have hP : va_P D vwCl ((h0, .inr (7, f)) :: (q, .inl (ca 0, 10, .inl zZ)) :: R) _ := hP
  have hD : va_D A ((h0, .inr (7, f)) :: (q, .inl (ca 0, 10, .inl zZ)) :: R) := hD
  refine W.widen (k := 16) (n := 157) (Nat.le_of_ble_eq_true rfl) (Nat.le_of_ble_eq_true rfl) ?_
  refine zn_put (C := RX10) (T := TX10) (N := 58) (ci := 7) (v := .ref q) (ref := "CoatsOnTheBedModel") true hx hb hts zI_X10 tyX10 tyX10_ok nmX10 hown hK hP hD hS rfl 31 (by decide) zi_117 (fun _ h9 => h9) rfl hin rfl rfl rfl (by rw [hfl]; decide) dX10_init_199 (fun H locs hP hD hS => ?_)
  exact kk q H locs (by rw [List.length_set]; exact hfl) hP hD hS
set_option maxRecDepth 100000 in
theorem s10_202 {f : List Value} {R : va_W} (B : zB10 p s m args meth c A D ca ls h0) (kk : ∀ q : Nat, zC10 p l e s m args below meth c A D ca Q ls h0 210 17 167 (f.set 32 (.ref q)) ((q, .inl (ca 0, 10, .inl zZ)) :: R)) : zC10 p l e s m args below meth c A D ca Q ls h0 202 16 157 f R := by
  obtain ⟨hx, hb, hown, hts, hA, hK, hin, hl⟩ := B
  intro H locs hfl hP hD hS
  refine lv_aload_n hx hb dX10_init_202 rfl (lv_at hl 0 rfl) ?_
  refine lv_bipush (v := 10) hx hb dX10_init_203 (by decide) ?_
  refine zn_newa ([(h0, .inr (7, f))]) (R) (k := 0) rfl hx hb hts zi_4 rfl hK hP hD hS hA (n := 10) (N' := 10) (a0 := (10, .inl zZ)) (fun _ => rfl) (by decide) (by decide) (by decide) (Nat.le_of_ble_eq_true rfl) (Nat.le_of_ble_eq_true rfl) dX10_init_205 (fun q H hP hD hS => ?_)
  have hP : va_P D vwCl ((h0, .inr (7, f)) :: (q, .inl (ca 0, 10, .inl zZ)) :: R) _ := hP
  have hD : va_D A ((h0, .inr (7, f)) :: (q, .inl (ca 0, 10, .inl zZ)) :: R) := hD
  refine W.widen (k := 17) (n := 167) (Nat.le_of_ble_eq_true rfl) (Nat.le_of_ble_eq_true rfl) ?_
  refine zn_put (C := RX10) (T := TX10) (N := 58) (ci := 7) (v := .ref q) (ref := "CoatsOnTheBedModel") true hx hb hts zI_X10 tyX10 tyX10_ok nmX10 hown hK hP hD hS rfl 32 (by decide) zi_118 (fun _ h9 => h9) rfl hin rfl rfl rfl (by rw [hfl]; decide) dX10_init_207 (fun H locs hP hD hS => ?_)
  exact kk q H locs (by rw [List.length_set]; exact hfl) hP hD hS
set_option maxRecDepth 100000 in
theorem s10_210 {f : List Value} {R : va_W} (B : zB10 p s m args meth c A D ca ls h0) (kk : ∀ q : Nat, zC10 p l e s m args below meth c A D ca Q ls h0 218 18 177 (f.set 33 (.ref q)) ((q, .inl (ca 0, 10, .inl zZ)) :: R)) : zC10 p l e s m args below meth c A D ca Q ls h0 210 17 167 f R := by
  obtain ⟨hx, hb, hown, hts, hA, hK, hin, hl⟩ := B
  intro H locs hfl hP hD hS
  refine lv_aload_n hx hb dX10_init_210 rfl (lv_at hl 0 rfl) ?_
  refine lv_bipush (v := 10) hx hb dX10_init_211 (by decide) ?_
  refine zn_newa ([(h0, .inr (7, f))]) (R) (k := 0) rfl hx hb hts zi_4 rfl hK hP hD hS hA (n := 10) (N' := 10) (a0 := (10, .inl zZ)) (fun _ => rfl) (by decide) (by decide) (by decide) (Nat.le_of_ble_eq_true rfl) (Nat.le_of_ble_eq_true rfl) dX10_init_213 (fun q H hP hD hS => ?_)
  have hP : va_P D vwCl ((h0, .inr (7, f)) :: (q, .inl (ca 0, 10, .inl zZ)) :: R) _ := hP
  have hD : va_D A ((h0, .inr (7, f)) :: (q, .inl (ca 0, 10, .inl zZ)) :: R) := hD
  refine W.widen (k := 18) (n := 177) (Nat.le_of_ble_eq_true rfl) (Nat.le_of_ble_eq_true rfl) ?_
  refine zn_put (C := RX10) (T := TX10) (N := 58) (ci := 7) (v := .ref q) (ref := "CoatsOnTheBedModel") true hx hb hts zI_X10 tyX10 tyX10_ok nmX10 hown hK hP hD hS rfl 33 (by decide) zi_119 (fun _ h9 => h9) rfl hin rfl rfl rfl (by rw [hfl]; decide) dX10_init_215 (fun H locs hP hD hS => ?_)
  exact kk q H locs (by rw [List.length_set]; exact hfl) hP hD hS
set_option maxRecDepth 100000 in
theorem s10_218 {f : List Value} {R : va_W} (B : zB10 p s m args meth c A D ca ls h0) (kk : ∀ q : Nat, zC10 p l e s m args below meth c A D ca Q ls h0 226 19 187 (f.set 34 (.ref q)) ((q, .inl (ca 1, 10, .inl zZ)) :: R)) : zC10 p l e s m args below meth c A D ca Q ls h0 218 18 177 f R := by
  obtain ⟨hx, hb, hown, hts, hA, hK, hin, hl⟩ := B
  intro H locs hfl hP hD hS
  refine lv_aload_n hx hb dX10_init_218 rfl (lv_at hl 0 rfl) ?_
  refine lv_bipush (v := 10) hx hb dX10_init_219 (by decide) ?_
  refine zn_newa ([(h0, .inr (7, f))]) (R) (k := 1) rfl hx hb hts zi_52 rfl hK hP hD hS hA (n := 10) (N' := 10) (a0 := (10, .inl zZ)) (fun _ => rfl) (by decide) (by decide) (by decide) (Nat.le_of_ble_eq_true rfl) (Nat.le_of_ble_eq_true rfl) dX10_init_221 (fun q H hP hD hS => ?_)
  have hP : va_P D vwCl ((h0, .inr (7, f)) :: (q, .inl (ca 1, 10, .inl zZ)) :: R) _ := hP
  have hD : va_D A ((h0, .inr (7, f)) :: (q, .inl (ca 1, 10, .inl zZ)) :: R) := hD
  refine W.widen (k := 19) (n := 187) (Nat.le_of_ble_eq_true rfl) (Nat.le_of_ble_eq_true rfl) ?_
  refine zn_put (C := RX10) (T := TX10) (N := 58) (ci := 7) (v := .ref q) (ref := "CoatsOnTheBedModel") true hx hb hts zI_X10 tyX10 tyX10_ok nmX10 hown hK hP hD hS rfl 34 (by decide) zi_120 (fun _ h9 => h9) rfl hin rfl rfl rfl (by rw [hfl]; decide) dX10_init_223 (fun H locs hP hD hS => ?_)
  exact kk q H locs (by rw [List.length_set]; exact hfl) hP hD hS
set_option maxRecDepth 100000 in
theorem s10_226 {f : List Value} {R : va_W} (B : zB10 p s m args meth c A D ca ls h0) (kk : ∀ q : Nat, zC10 p l e s m args below meth c A D ca Q ls h0 234 20 197 (f.set 35 (.ref q)) ((q, .inl (ca 0, 10, .inl zZ)) :: R)) : zC10 p l e s m args below meth c A D ca Q ls h0 226 19 187 f R := by
  obtain ⟨hx, hb, hown, hts, hA, hK, hin, hl⟩ := B
  intro H locs hfl hP hD hS
  refine lv_aload_n hx hb dX10_init_226 rfl (lv_at hl 0 rfl) ?_
  refine lv_bipush (v := 10) hx hb dX10_init_227 (by decide) ?_
  refine zn_newa ([(h0, .inr (7, f))]) (R) (k := 0) rfl hx hb hts zi_4 rfl hK hP hD hS hA (n := 10) (N' := 10) (a0 := (10, .inl zZ)) (fun _ => rfl) (by decide) (by decide) (by decide) (Nat.le_of_ble_eq_true rfl) (Nat.le_of_ble_eq_true rfl) dX10_init_229 (fun q H hP hD hS => ?_)
  have hP : va_P D vwCl ((h0, .inr (7, f)) :: (q, .inl (ca 0, 10, .inl zZ)) :: R) _ := hP
  have hD : va_D A ((h0, .inr (7, f)) :: (q, .inl (ca 0, 10, .inl zZ)) :: R) := hD
  refine W.widen (k := 20) (n := 197) (Nat.le_of_ble_eq_true rfl) (Nat.le_of_ble_eq_true rfl) ?_
  refine zn_put (C := RX10) (T := TX10) (N := 58) (ci := 7) (v := .ref q) (ref := "CoatsOnTheBedModel") true hx hb hts zI_X10 tyX10 tyX10_ok nmX10 hown hK hP hD hS rfl 35 (by decide) zi_121 (fun _ h9 => h9) rfl hin rfl rfl rfl (by rw [hfl]; decide) dX10_init_231 (fun H locs hP hD hS => ?_)
  exact kk q H locs (by rw [List.length_set]; exact hfl) hP hD hS
set_option maxRecDepth 100000 in
theorem s10_234 {f : List Value} {R : va_W} (B : zB10 p s m args meth c A D ca ls h0) (kk : ∀ q : Nat, zC10 p l e s m args below meth c A D ca Q ls h0 242 21 208 (f.set 38 (.ref q)) ((q, .inl (ca 0, 11, .inl zZ)) :: R)) : zC10 p l e s m args below meth c A D ca Q ls h0 234 20 197 f R := by
  obtain ⟨hx, hb, hown, hts, hA, hK, hin, hl⟩ := B
  intro H locs hfl hP hD hS
  refine lv_aload_n hx hb dX10_init_234 rfl (lv_at hl 0 rfl) ?_
  refine lv_bipush (v := 11) hx hb dX10_init_235 (by decide) ?_
  refine zn_newa ([(h0, .inr (7, f))]) (R) (k := 0) rfl hx hb hts zi_4 rfl hK hP hD hS hA (n := 11) (N' := 11) (a0 := (11, .inl zZ)) (fun _ => rfl) (by decide) (by decide) (by decide) (Nat.le_of_ble_eq_true rfl) (Nat.le_of_ble_eq_true rfl) dX10_init_237 (fun q H hP hD hS => ?_)
  have hP : va_P D vwCl ((h0, .inr (7, f)) :: (q, .inl (ca 0, 11, .inl zZ)) :: R) _ := hP
  have hD : va_D A ((h0, .inr (7, f)) :: (q, .inl (ca 0, 11, .inl zZ)) :: R) := hD
  refine W.widen (k := 21) (n := 208) (Nat.le_of_ble_eq_true rfl) (Nat.le_of_ble_eq_true rfl) ?_
  refine zn_put (C := RX10) (T := TX10) (N := 58) (ci := 7) (v := .ref q) (ref := "CoatsOnTheBedModel") true hx hb hts zI_X10 tyX10 tyX10_ok nmX10 hown hK hP hD hS rfl 38 (by decide) zi_122 (fun _ h9 => h9) rfl hin rfl rfl rfl (by rw [hfl]; decide) dX10_init_239 (fun H locs hP hD hS => ?_)
  exact kk q H locs (by rw [List.length_set]; exact hfl) hP hD hS
set_option maxRecDepth 100000 in
theorem s10_242 {f : List Value} {R : va_W} (B : zB10 p s m args meth c A D ca ls h0) (kk : ∀ q : Nat, zC10 p l e s m args below meth c A D ca Q ls h0 250 22 218 (f.set 39 (.ref q)) ((q, .inl (ca 0, 10, .inl zZ)) :: R)) : zC10 p l e s m args below meth c A D ca Q ls h0 242 21 208 f R := by
  obtain ⟨hx, hb, hown, hts, hA, hK, hin, hl⟩ := B
  intro H locs hfl hP hD hS
  refine lv_aload_n hx hb dX10_init_242 rfl (lv_at hl 0 rfl) ?_
  refine lv_bipush (v := 10) hx hb dX10_init_243 (by decide) ?_
  refine zn_newa ([(h0, .inr (7, f))]) (R) (k := 0) rfl hx hb hts zi_4 rfl hK hP hD hS hA (n := 10) (N' := 10) (a0 := (10, .inl zZ)) (fun _ => rfl) (by decide) (by decide) (by decide) (Nat.le_of_ble_eq_true rfl) (Nat.le_of_ble_eq_true rfl) dX10_init_245 (fun q H hP hD hS => ?_)
  have hP : va_P D vwCl ((h0, .inr (7, f)) :: (q, .inl (ca 0, 10, .inl zZ)) :: R) _ := hP
  have hD : va_D A ((h0, .inr (7, f)) :: (q, .inl (ca 0, 10, .inl zZ)) :: R) := hD
  refine W.widen (k := 22) (n := 218) (Nat.le_of_ble_eq_true rfl) (Nat.le_of_ble_eq_true rfl) ?_
  refine zn_put (C := RX10) (T := TX10) (N := 58) (ci := 7) (v := .ref q) (ref := "CoatsOnTheBedModel") true hx hb hts zI_X10 tyX10 tyX10_ok nmX10 hown hK hP hD hS rfl 39 (by decide) zi_123 (fun _ h9 => h9) rfl hin rfl rfl rfl (by rw [hfl]; decide) dX10_init_247 (fun H locs hP hD hS => ?_)
  exact kk q H locs (by rw [List.length_set]; exact hfl) hP hD hS
set_option maxRecDepth 100000 in
theorem s10_250 {f : List Value} {R : va_W} (B : zB10 p s m args meth c A D ca ls h0) (kk : ∀ q : Nat, zC10 p l e s m args below meth c A D ca Q ls h0 258 23 227 (f.set 44 (.ref q)) ((q, .inl (ca 0, 9, .inl zZ)) :: R)) : zC10 p l e s m args below meth c A D ca Q ls h0 250 22 218 f R := by
  obtain ⟨hx, hb, hown, hts, hA, hK, hin, hl⟩ := B
  intro H locs hfl hP hD hS
  refine lv_aload_n hx hb dX10_init_250 rfl (lv_at hl 0 rfl) ?_
  refine lv_bipush (v := 9) hx hb dX10_init_251 (by decide) ?_
  refine zn_newa ([(h0, .inr (7, f))]) (R) (k := 0) rfl hx hb hts zi_4 rfl hK hP hD hS hA (n := 9) (N' := 9) (a0 := (9, .inl zZ)) (fun _ => rfl) (by decide) (by decide) (by decide) (Nat.le_of_ble_eq_true rfl) (Nat.le_of_ble_eq_true rfl) dX10_init_253 (fun q H hP hD hS => ?_)
  have hP : va_P D vwCl ((h0, .inr (7, f)) :: (q, .inl (ca 0, 9, .inl zZ)) :: R) _ := hP
  have hD : va_D A ((h0, .inr (7, f)) :: (q, .inl (ca 0, 9, .inl zZ)) :: R) := hD
  refine W.widen (k := 23) (n := 227) (Nat.le_of_ble_eq_true rfl) (Nat.le_of_ble_eq_true rfl) ?_
  refine zn_put (C := RX10) (T := TX10) (N := 58) (ci := 7) (v := .ref q) (ref := "CoatsOnTheBedModel") true hx hb hts zI_X10 tyX10 tyX10_ok nmX10 hown hK hP hD hS rfl 44 (by decide) zi_124 (fun _ h9 => h9) rfl hin rfl rfl rfl (by rw [hfl]; decide) dX10_init_255 (fun H locs hP hD hS => ?_)
  exact kk q H locs (by rw [List.length_set]; exact hfl) hP hD hS
set_option maxRecDepth 100000 in
theorem s10_258 {f : List Value} {R : va_W} (B : zB10 p s m args meth c A D ca ls h0) (kk : ∀ q : Nat, zC10 p l e s m args below meth c A D ca Q ls h0 266 24 236 (f.set 45 (.ref q)) ((q, .inl (ca 0, 9, .inl zZ)) :: R)) : zC10 p l e s m args below meth c A D ca Q ls h0 258 23 227 f R := by
  obtain ⟨hx, hb, hown, hts, hA, hK, hin, hl⟩ := B
  intro H locs hfl hP hD hS
  refine lv_aload_n hx hb dX10_init_258 rfl (lv_at hl 0 rfl) ?_
  refine lv_bipush (v := 9) hx hb dX10_init_259 (by decide) ?_
  refine zn_newa ([(h0, .inr (7, f))]) (R) (k := 0) rfl hx hb hts zi_4 rfl hK hP hD hS hA (n := 9) (N' := 9) (a0 := (9, .inl zZ)) (fun _ => rfl) (by decide) (by decide) (by decide) (Nat.le_of_ble_eq_true rfl) (Nat.le_of_ble_eq_true rfl) dX10_init_261 (fun q H hP hD hS => ?_)
  have hP : va_P D vwCl ((h0, .inr (7, f)) :: (q, .inl (ca 0, 9, .inl zZ)) :: R) _ := hP
  have hD : va_D A ((h0, .inr (7, f)) :: (q, .inl (ca 0, 9, .inl zZ)) :: R) := hD
  refine W.widen (k := 24) (n := 236) (Nat.le_of_ble_eq_true rfl) (Nat.le_of_ble_eq_true rfl) ?_
  refine zn_put (C := RX10) (T := TX10) (N := 58) (ci := 7) (v := .ref q) (ref := "CoatsOnTheBedModel") true hx hb hts zI_X10 tyX10 tyX10_ok nmX10 hown hK hP hD hS rfl 45 (by decide) zi_125 (fun _ h9 => h9) rfl hin rfl rfl rfl (by rw [hfl]; decide) dX10_init_263 (fun H locs hP hD hS => ?_)
  exact kk q H locs (by rw [List.length_set]; exact hfl) hP hD hS
set_option maxRecDepth 100000 in
theorem s10_266 {f : List Value} {R : va_W} (B : zB10 p s m args meth c A D ca ls h0) (kk : ∀ q : Nat, zC10 p l e s m args below meth c A D ca Q ls h0 274 25 296 (f.set 47 (.ref q)) ((q, .inl (ca 0, 60, .inl zZ)) :: R)) : zC10 p l e s m args below meth c A D ca Q ls h0 266 24 236 f R := by
  obtain ⟨hx, hb, hown, hts, hA, hK, hin, hl⟩ := B
  intro H locs hfl hP hD hS
  refine lv_aload_n hx hb dX10_init_266 rfl (lv_at hl 0 rfl) ?_
  refine lv_bipush (v := 60) hx hb dX10_init_267 (by decide) ?_
  refine zn_newa ([(h0, .inr (7, f))]) (R) (k := 0) rfl hx hb hts zi_4 rfl hK hP hD hS hA (n := 60) (N' := 60) (a0 := (60, .inl zZ)) (fun _ => rfl) (by decide) (by decide) (by decide) (Nat.le_of_ble_eq_true rfl) (Nat.le_of_ble_eq_true rfl) dX10_init_269 (fun q H hP hD hS => ?_)
  have hP : va_P D vwCl ((h0, .inr (7, f)) :: (q, .inl (ca 0, 60, .inl zZ)) :: R) _ := hP
  have hD : va_D A ((h0, .inr (7, f)) :: (q, .inl (ca 0, 60, .inl zZ)) :: R) := hD
  refine W.widen (k := 25) (n := 296) (Nat.le_of_ble_eq_true rfl) (Nat.le_of_ble_eq_true rfl) ?_
  refine zn_put (C := RX10) (T := TX10) (N := 58) (ci := 7) (v := .ref q) (ref := "CoatsOnTheBedModel") true hx hb hts zI_X10 tyX10 tyX10_ok nmX10 hown hK hP hD hS rfl 47 (by decide) zi_126 (fun _ h9 => h9) rfl hin rfl rfl rfl (by rw [hfl]; decide) dX10_init_271 (fun H locs hP hD hS => ?_)
  exact kk q H locs (by rw [List.length_set]; exact hfl) hP hD hS
set_option maxRecDepth 100000 in
theorem s10_274 {f : List Value} {R : va_W} (B : zB10 p s m args meth c A D ca ls h0) (kk : ∀ q : Nat, zC10 p l e s m args below meth c A D ca Q ls h0 282 26 356 (f.set 48 (.ref q)) ((q, .inl (ca 0, 60, .inl zZ)) :: R)) : zC10 p l e s m args below meth c A D ca Q ls h0 274 25 296 f R := by
  obtain ⟨hx, hb, hown, hts, hA, hK, hin, hl⟩ := B
  intro H locs hfl hP hD hS
  refine lv_aload_n hx hb dX10_init_274 rfl (lv_at hl 0 rfl) ?_
  refine lv_bipush (v := 60) hx hb dX10_init_275 (by decide) ?_
  refine zn_newa ([(h0, .inr (7, f))]) (R) (k := 0) rfl hx hb hts zi_4 rfl hK hP hD hS hA (n := 60) (N' := 60) (a0 := (60, .inl zZ)) (fun _ => rfl) (by decide) (by decide) (by decide) (Nat.le_of_ble_eq_true rfl) (Nat.le_of_ble_eq_true rfl) dX10_init_277 (fun q H hP hD hS => ?_)
  have hP : va_P D vwCl ((h0, .inr (7, f)) :: (q, .inl (ca 0, 60, .inl zZ)) :: R) _ := hP
  have hD : va_D A ((h0, .inr (7, f)) :: (q, .inl (ca 0, 60, .inl zZ)) :: R) := hD
  refine W.widen (k := 26) (n := 356) (Nat.le_of_ble_eq_true rfl) (Nat.le_of_ble_eq_true rfl) ?_
  refine zn_put (C := RX10) (T := TX10) (N := 58) (ci := 7) (v := .ref q) (ref := "CoatsOnTheBedModel") true hx hb hts zI_X10 tyX10 tyX10_ok nmX10 hown hK hP hD hS rfl 48 (by decide) zi_127 (fun _ h9 => h9) rfl hin rfl rfl rfl (by rw [hfl]; decide) dX10_init_279 (fun H locs hP hD hS => ?_)
  exact kk q H locs (by rw [List.length_set]; exact hfl) hP hD hS
set_option maxRecDepth 100000 in
theorem s10_282 {f : List Value} {R : va_W} (B : zB10 p s m args meth c A D ca ls h0) (kk : ∀ q : Nat, zC10 p l e s m args below meth c A D ca Q ls h0 290 27 364 (f.set 50 (.ref q)) ((q, .inl (ca 0, 8, .inl zZ)) :: R)) : zC10 p l e s m args below meth c A D ca Q ls h0 282 26 356 f R := by
  obtain ⟨hx, hb, hown, hts, hA, hK, hin, hl⟩ := B
  intro H locs hfl hP hD hS
  refine lv_aload_n hx hb dX10_init_282 rfl (lv_at hl 0 rfl) ?_
  refine lv_bipush (v := 8) hx hb dX10_init_283 (by decide) ?_
  refine zn_newa ([(h0, .inr (7, f))]) (R) (k := 0) rfl hx hb hts zi_4 rfl hK hP hD hS hA (n := 8) (N' := 8) (a0 := (8, .inl zZ)) (fun _ => rfl) (by decide) (by decide) (by decide) (Nat.le_of_ble_eq_true rfl) (Nat.le_of_ble_eq_true rfl) dX10_init_285 (fun q H hP hD hS => ?_)
  have hP : va_P D vwCl ((h0, .inr (7, f)) :: (q, .inl (ca 0, 8, .inl zZ)) :: R) _ := hP
  have hD : va_D A ((h0, .inr (7, f)) :: (q, .inl (ca 0, 8, .inl zZ)) :: R) := hD
  refine W.widen (k := 27) (n := 364) (Nat.le_of_ble_eq_true rfl) (Nat.le_of_ble_eq_true rfl) ?_
  refine zn_put (C := RX10) (T := TX10) (N := 58) (ci := 7) (v := .ref q) (ref := "CoatsOnTheBedModel") true hx hb hts zI_X10 tyX10 tyX10_ok nmX10 hown hK hP hD hS rfl 50 (by decide) zi_128 (fun _ h9 => h9) rfl hin rfl rfl rfl (by rw [hfl]; decide) dX10_init_287 (fun H locs hP hD hS => ?_)
  exact kk q H locs (by rw [List.length_set]; exact hfl) hP hD hS
set_option maxRecDepth 100000 in
theorem s10_290 {f : List Value} {R : va_W} (B : zB10 p s m args meth c A D ca ls h0) (kk : ∀ q : Nat, zC10 p l e s m args below meth c A D ca Q ls h0 298 28 372 (f.set 51 (.ref q)) ((q, .inl (ca 0, 8, .inl zZ)) :: R)) : zC10 p l e s m args below meth c A D ca Q ls h0 290 27 364 f R := by
  obtain ⟨hx, hb, hown, hts, hA, hK, hin, hl⟩ := B
  intro H locs hfl hP hD hS
  refine lv_aload_n hx hb dX10_init_290 rfl (lv_at hl 0 rfl) ?_
  refine lv_bipush (v := 8) hx hb dX10_init_291 (by decide) ?_
  refine zn_newa ([(h0, .inr (7, f))]) (R) (k := 0) rfl hx hb hts zi_4 rfl hK hP hD hS hA (n := 8) (N' := 8) (a0 := (8, .inl zZ)) (fun _ => rfl) (by decide) (by decide) (by decide) (Nat.le_of_ble_eq_true rfl) (Nat.le_of_ble_eq_true rfl) dX10_init_293 (fun q H hP hD hS => ?_)
  have hP : va_P D vwCl ((h0, .inr (7, f)) :: (q, .inl (ca 0, 8, .inl zZ)) :: R) _ := hP
  have hD : va_D A ((h0, .inr (7, f)) :: (q, .inl (ca 0, 8, .inl zZ)) :: R) := hD
  refine W.widen (k := 28) (n := 372) (Nat.le_of_ble_eq_true rfl) (Nat.le_of_ble_eq_true rfl) ?_
  refine zn_put (C := RX10) (T := TX10) (N := 58) (ci := 7) (v := .ref q) (ref := "CoatsOnTheBedModel") true hx hb hts zI_X10 tyX10 tyX10_ok nmX10 hown hK hP hD hS rfl 51 (by decide) zi_129 (fun _ h9 => h9) rfl hin rfl rfl rfl (by rw [hfl]; decide) dX10_init_295 (fun H locs hP hD hS => ?_)
  exact kk q H locs (by rw [List.length_set]; exact hfl) hP hD hS
set_option maxRecDepth 100000 in
theorem s10_298 {f : List Value} {R : va_W} (B : zB10 p s m args meth c A D ca ls h0) (kk : ∀ q : Nat, zC10 p l e s m args below meth c A D ca Q ls h0 306 29 380 (f.set 52 (.ref q)) ((q, .inl (ca 0, 8, .inl zZ)) :: R)) : zC10 p l e s m args below meth c A D ca Q ls h0 298 28 372 f R := by
  obtain ⟨hx, hb, hown, hts, hA, hK, hin, hl⟩ := B
  intro H locs hfl hP hD hS
  refine lv_aload_n hx hb dX10_init_298 rfl (lv_at hl 0 rfl) ?_
  refine lv_bipush (v := 8) hx hb dX10_init_299 (by decide) ?_
  refine zn_newa ([(h0, .inr (7, f))]) (R) (k := 0) rfl hx hb hts zi_4 rfl hK hP hD hS hA (n := 8) (N' := 8) (a0 := (8, .inl zZ)) (fun _ => rfl) (by decide) (by decide) (by decide) (Nat.le_of_ble_eq_true rfl) (Nat.le_of_ble_eq_true rfl) dX10_init_301 (fun q H hP hD hS => ?_)
  have hP : va_P D vwCl ((h0, .inr (7, f)) :: (q, .inl (ca 0, 8, .inl zZ)) :: R) _ := hP
  have hD : va_D A ((h0, .inr (7, f)) :: (q, .inl (ca 0, 8, .inl zZ)) :: R) := hD
  refine W.widen (k := 29) (n := 380) (Nat.le_of_ble_eq_true rfl) (Nat.le_of_ble_eq_true rfl) ?_
  refine zn_put (C := RX10) (T := TX10) (N := 58) (ci := 7) (v := .ref q) (ref := "CoatsOnTheBedModel") true hx hb hts zI_X10 tyX10 tyX10_ok nmX10 hown hK hP hD hS rfl 52 (by decide) zi_130 (fun _ h9 => h9) rfl hin rfl rfl rfl (by rw [hfl]; decide) dX10_init_303 (fun H locs hP hD hS => ?_)
  exact kk q H locs (by rw [List.length_set]; exact hfl) hP hD hS
set_option maxRecDepth 100000 in
theorem s10_306 {f : List Value} {R : va_W} (B : zB10 p s m args meth c A D ca ls h0) (kk : ∀ q : Nat, zC10 p l e s m args below meth c A D ca Q ls h0 314 30 388 (f.set 53 (.ref q)) ((q, .inl (ca 0, 8, .inl zZ)) :: R)) : zC10 p l e s m args below meth c A D ca Q ls h0 306 29 380 f R := by
  obtain ⟨hx, hb, hown, hts, hA, hK, hin, hl⟩ := B
  intro H locs hfl hP hD hS
  refine lv_aload_n hx hb dX10_init_306 rfl (lv_at hl 0 rfl) ?_
  refine lv_bipush (v := 8) hx hb dX10_init_307 (by decide) ?_
  refine zn_newa ([(h0, .inr (7, f))]) (R) (k := 0) rfl hx hb hts zi_4 rfl hK hP hD hS hA (n := 8) (N' := 8) (a0 := (8, .inl zZ)) (fun _ => rfl) (by decide) (by decide) (by decide) (Nat.le_of_ble_eq_true rfl) (Nat.le_of_ble_eq_true rfl) dX10_init_309 (fun q H hP hD hS => ?_)
  have hP : va_P D vwCl ((h0, .inr (7, f)) :: (q, .inl (ca 0, 8, .inl zZ)) :: R) _ := hP
  have hD : va_D A ((h0, .inr (7, f)) :: (q, .inl (ca 0, 8, .inl zZ)) :: R) := hD
  refine W.widen (k := 30) (n := 388) (Nat.le_of_ble_eq_true rfl) (Nat.le_of_ble_eq_true rfl) ?_
  refine zn_put (C := RX10) (T := TX10) (N := 58) (ci := 7) (v := .ref q) (ref := "CoatsOnTheBedModel") true hx hb hts zI_X10 tyX10 tyX10_ok nmX10 hown hK hP hD hS rfl 53 (by decide) zi_131 (fun _ h9 => h9) rfl hin rfl rfl rfl (by rw [hfl]; decide) dX10_init_311 (fun H locs hP hD hS => ?_)
  exact kk q H locs (by rw [List.length_set]; exact hfl) hP hD hS
set_option maxRecDepth 100000 in
theorem s10_314 {f : List Value} {R : va_W} (B : zB10 p s m args meth c A D ca ls h0) (kk : ∀ q : Nat, zC10 p l e s m args below meth c A D ca Q ls h0 322 31 396 (f.set 54 (.ref q)) ((q, .inl (ca 0, 8, .inl zZ)) :: R)) : zC10 p l e s m args below meth c A D ca Q ls h0 314 30 388 f R := by
  obtain ⟨hx, hb, hown, hts, hA, hK, hin, hl⟩ := B
  intro H locs hfl hP hD hS
  refine lv_aload_n hx hb dX10_init_314 rfl (lv_at hl 0 rfl) ?_
  refine lv_bipush (v := 8) hx hb dX10_init_315 (by decide) ?_
  refine zn_newa ([(h0, .inr (7, f))]) (R) (k := 0) rfl hx hb hts zi_4 rfl hK hP hD hS hA (n := 8) (N' := 8) (a0 := (8, .inl zZ)) (fun _ => rfl) (by decide) (by decide) (by decide) (Nat.le_of_ble_eq_true rfl) (Nat.le_of_ble_eq_true rfl) dX10_init_317 (fun q H hP hD hS => ?_)
  have hP : va_P D vwCl ((h0, .inr (7, f)) :: (q, .inl (ca 0, 8, .inl zZ)) :: R) _ := hP
  have hD : va_D A ((h0, .inr (7, f)) :: (q, .inl (ca 0, 8, .inl zZ)) :: R) := hD
  refine W.widen (k := 31) (n := 396) (Nat.le_of_ble_eq_true rfl) (Nat.le_of_ble_eq_true rfl) ?_
  refine zn_put (C := RX10) (T := TX10) (N := 58) (ci := 7) (v := .ref q) (ref := "CoatsOnTheBedModel") true hx hb hts zI_X10 tyX10 tyX10_ok nmX10 hown hK hP hD hS rfl 54 (by decide) zi_132 (fun _ h9 => h9) rfl hin rfl rfl rfl (by rw [hfl]; decide) dX10_init_319 (fun H locs hP hD hS => ?_)
  exact kk q H locs (by rw [List.length_set]; exact hfl) hP hD hS
set_option maxRecDepth 100000 in
theorem s10_322 {f : List Value} {R : va_W} (B : zB10 p s m args meth c A D ca ls h0) (kk : ∀ q : Nat, zC10 p l e s m args below meth c A D ca Q ls h0 331 32 1196 (f.set 55 (.ref q)) ((q, .inl (ca 0, 800, .inl zZ)) :: R)) : zC10 p l e s m args below meth c A D ca Q ls h0 322 31 396 f R := by
  obtain ⟨hx, hb, hown, hts, hA, hK, hin, hl⟩ := B
  intro H locs hfl hP hD hS
  refine lv_aload_n hx hb dX10_init_322 rfl (lv_at hl 0 rfl) ?_
  refine lv_sipush (v := 800) hx hb dX10_init_323 (by decide) ?_
  refine zn_newa ([(h0, .inr (7, f))]) (R) (k := 0) rfl hx hb hts zi_4 rfl hK hP hD hS hA (n := 800) (N' := 800) (a0 := (800, .inl zZ)) (fun _ => rfl) (by decide) (by decide) (by decide) (Nat.le_of_ble_eq_true rfl) (Nat.le_of_ble_eq_true rfl) dX10_init_326 (fun q H hP hD hS => ?_)
  have hP : va_P D vwCl ((h0, .inr (7, f)) :: (q, .inl (ca 0, 800, .inl zZ)) :: R) _ := hP
  have hD : va_D A ((h0, .inr (7, f)) :: (q, .inl (ca 0, 800, .inl zZ)) :: R) := hD
  refine W.widen (k := 32) (n := 1196) (Nat.le_of_ble_eq_true rfl) (Nat.le_of_ble_eq_true rfl) ?_
  refine zn_put (C := RX10) (T := TX10) (N := 58) (ci := 7) (v := .ref q) (ref := "CoatsOnTheBedModel") true hx hb hts zI_X10 tyX10 tyX10_ok nmX10 hown hK hP hD hS rfl 55 (by decide) zi_133 (fun _ h9 => h9) rfl hin rfl rfl rfl (by rw [hfl]; decide) dX10_init_328 (fun H locs hP hD hS => ?_)
  exact kk q H locs (by rw [List.length_set]; exact hfl) hP hD hS
set_option maxRecDepth 100000 in
theorem s10_331 {f : List Value} {R : va_W} (B : zB10 p s m args meth c A D ca ls h0) (kk : ∀ q : Nat, zC10 p l e s m args below meth c A D ca Q ls h0 339 33 1296 (f.set 56 (.ref q)) ((q, .inl (ca 0, 100, .inl zZ)) :: R)) : zC10 p l e s m args below meth c A D ca Q ls h0 331 32 1196 f R := by
  obtain ⟨hx, hb, hown, hts, hA, hK, hin, hl⟩ := B
  intro H locs hfl hP hD hS
  refine lv_aload_n hx hb dX10_init_331 rfl (lv_at hl 0 rfl) ?_
  refine lv_bipush (v := 100) hx hb dX10_init_332 (by decide) ?_
  refine zn_newa ([(h0, .inr (7, f))]) (R) (k := 0) rfl hx hb hts zi_4 rfl hK hP hD hS hA (n := 100) (N' := 100) (a0 := (100, .inl zZ)) (fun _ => rfl) (by decide) (by decide) (by decide) (Nat.le_of_ble_eq_true rfl) (Nat.le_of_ble_eq_true rfl) dX10_init_334 (fun q H hP hD hS => ?_)
  have hP : va_P D vwCl ((h0, .inr (7, f)) :: (q, .inl (ca 0, 100, .inl zZ)) :: R) _ := hP
  have hD : va_D A ((h0, .inr (7, f)) :: (q, .inl (ca 0, 100, .inl zZ)) :: R) := hD
  refine W.widen (k := 33) (n := 1296) (Nat.le_of_ble_eq_true rfl) (Nat.le_of_ble_eq_true rfl) ?_
  refine zn_put (C := RX10) (T := TX10) (N := 58) (ci := 7) (v := .ref q) (ref := "CoatsOnTheBedModel") true hx hb hts zI_X10 tyX10 tyX10_ok nmX10 hown hK hP hD hS rfl 56 (by decide) zi_134 (fun _ h9 => h9) rfl hin rfl rfl rfl (by rw [hfl]; decide) dX10_init_336 (fun H locs hP hD hS => ?_)
  exact kk q H locs (by rw [List.length_set]; exact hfl) hP hD hS
end
set_option maxRecDepth 100000 in
theorem zfin10_0 (q4 : Nat) : List.set zf10 1 (.ref q4) = ([.int 0, .ref q4, .null, .null, .int 0, .int 0, .int 0, .int 0, .int 0, .int 0, .null, .int 0, .int 0, .int 0, .int 0, .int 0, .null, .int 0, .null, .null, .null, .int 0, .null, .int 0, .null, .null, .null, .null, .int 0, .null, .null, .null, .null, .null, .null, .null, .int 0, .int 0, .null, .null, .int 0, .int 0, .int 0, .int 0, .null, .null, .int 0, .null, .null, .int 0, .null, .null, .null, .null, .null, .null, .null, .int 0] : List Value) := rfl
set_option maxRecDepth 100000 in
theorem zfin10_1 (q4 q12 : Nat) : List.set ([.int 0, .ref q4, .null, .null, .int 0, .int 0, .int 0, .int 0, .int 0, .int 0, .null, .int 0, .int 0, .int 0, .int 0, .int 0, .null, .int 0, .null, .null, .null, .int 0, .null, .int 0, .null, .null, .null, .null, .int 0, .null, .null, .null, .null, .null, .null, .null, .int 0, .int 0, .null, .null, .int 0, .int 0, .int 0, .int 0, .null, .null, .int 0, .null, .null, .int 0, .null, .null, .null, .null, .null, .null, .null, .int 0] : List Value) 2 (.ref q12) = ([.int 0, .ref q4, .ref q12, .null, .int 0, .int 0, .int 0, .int 0, .int 0, .int 0, .null, .int 0, .int 0, .int 0, .int 0, .int 0, .null, .int 0, .null, .null, .null, .int 0, .null, .int 0, .null, .null, .null, .null, .int 0, .null, .null, .null, .null, .null, .null, .null, .int 0, .int 0, .null, .null, .int 0, .int 0, .int 0, .int 0, .null, .null, .int 0, .null, .null, .int 0, .null, .null, .null, .null, .null, .null, .null, .int 0] : List Value) := rfl
set_option maxRecDepth 100000 in
theorem zfin10_2 (q4 q12 q20 : Nat) : List.set ([.int 0, .ref q4, .ref q12, .null, .int 0, .int 0, .int 0, .int 0, .int 0, .int 0, .null, .int 0, .int 0, .int 0, .int 0, .int 0, .null, .int 0, .null, .null, .null, .int 0, .null, .int 0, .null, .null, .null, .null, .int 0, .null, .null, .null, .null, .null, .null, .null, .int 0, .int 0, .null, .null, .int 0, .int 0, .int 0, .int 0, .null, .null, .int 0, .null, .null, .int 0, .null, .null, .null, .null, .null, .null, .null, .int 0] : List Value) 3 (.ref q20) = ([.int 0, .ref q4, .ref q12, .ref q20, .int 0, .int 0, .int 0, .int 0, .int 0, .int 0, .null, .int 0, .int 0, .int 0, .int 0, .int 0, .null, .int 0, .null, .null, .null, .int 0, .null, .int 0, .null, .null, .null, .null, .int 0, .null, .null, .null, .null, .null, .null, .null, .int 0, .int 0, .null, .null, .int 0, .int 0, .int 0, .int 0, .null, .null, .int 0, .null, .null, .int 0, .null, .null, .null, .null, .null, .null, .null, .int 0] : List Value) := rfl
set_option maxRecDepth 100000 in
theorem zfin10_3 (q4 q12 q20 : Nat) : List.set ([.int 0, .ref q4, .ref q12, .ref q20, .int 0, .int 0, .int 0, .int 0, .int 0, .int 0, .null, .int 0, .int 0, .int 0, .int 0, .int 0, .null, .int 0, .null, .null, .null, .int 0, .null, .int 0, .null, .null, .null, .null, .int 0, .null, .null, .null, .null, .null, .null, .null, .int 0, .int 0, .null, .null, .int 0, .int 0, .int 0, .int 0, .null, .null, .int 0, .null, .null, .int 0, .null, .null, .null, .null, .null, .null, .null, .int 0] : List Value) 4 (.int 2) = ([.int 0, .ref q4, .ref q12, .ref q20, .int 2, .int 0, .int 0, .int 0, .int 0, .int 0, .null, .int 0, .int 0, .int 0, .int 0, .int 0, .null, .int 0, .null, .null, .null, .int 0, .null, .int 0, .null, .null, .null, .null, .int 0, .null, .null, .null, .null, .null, .null, .null, .int 0, .int 0, .null, .null, .int 0, .int 0, .int 0, .int 0, .null, .null, .int 0, .null, .null, .int 0, .null, .null, .null, .null, .null, .null, .null, .int 0] : List Value) := rfl
set_option maxRecDepth 100000 in
theorem zfin10_4 (q4 q12 q20 : Nat) : List.set ([.int 0, .ref q4, .ref q12, .ref q20, .int 2, .int 0, .int 0, .int 0, .int 0, .int 0, .null, .int 0, .int 0, .int 0, .int 0, .int 0, .null, .int 0, .null, .null, .null, .int 0, .null, .int 0, .null, .null, .null, .null, .int 0, .null, .null, .null, .null, .null, .null, .null, .int 0, .int 0, .null, .null, .int 0, .int 0, .int 0, .int 0, .null, .null, .int 0, .null, .null, .int 0, .null, .null, .null, .null, .null, .null, .null, .int 0] : List Value) 5 (.int 9) = ([.int 0, .ref q4, .ref q12, .ref q20, .int 2, .int 9, .int 0, .int 0, .int 0, .int 0, .null, .int 0, .int 0, .int 0, .int 0, .int 0, .null, .int 0, .null, .null, .null, .int 0, .null, .int 0, .null, .null, .null, .null, .int 0, .null, .null, .null, .null, .null, .null, .null, .int 0, .int 0, .null, .null, .int 0, .int 0, .int 0, .int 0, .null, .null, .int 0, .null, .null, .int 0, .null, .null, .null, .null, .null, .null, .null, .int 0] : List Value) := rfl
set_option maxRecDepth 100000 in
theorem zfin10_5 (q4 q12 q20 q39 : Nat) : List.set ([.int 0, .ref q4, .ref q12, .ref q20, .int 2, .int 9, .int 0, .int 0, .int 0, .int 0, .null, .int 0, .int 0, .int 0, .int 0, .int 0, .null, .int 0, .null, .null, .null, .int 0, .null, .int 0, .null, .null, .null, .null, .int 0, .null, .null, .null, .null, .null, .null, .null, .int 0, .int 0, .null, .null, .int 0, .int 0, .int 0, .int 0, .null, .null, .int 0, .null, .null, .int 0, .null, .null, .null, .null, .null, .null, .null, .int 0] : List Value) 10 (.ref q39) = ([.int 0, .ref q4, .ref q12, .ref q20, .int 2, .int 9, .int 0, .int 0, .int 0, .int 0, .ref q39, .int 0, .int 0, .int 0, .int 0, .int 0, .null, .int 0, .null, .null, .null, .int 0, .null, .int 0, .null, .null, .null, .null, .int 0, .null, .null, .null, .null, .null, .null, .null, .int 0, .int 0, .null, .null, .int 0, .int 0, .int 0, .int 0, .null, .null, .int 0, .null, .null, .int 0, .null, .null, .null, .null, .null, .null, .null, .int 0] : List Value) := rfl
set_option maxRecDepth 100000 in
theorem zfin10_6 (q4 q12 q20 q39 q47 : Nat) : List.set ([.int 0, .ref q4, .ref q12, .ref q20, .int 2, .int 9, .int 0, .int 0, .int 0, .int 0, .ref q39, .int 0, .int 0, .int 0, .int 0, .int 0, .null, .int 0, .null, .null, .null, .int 0, .null, .int 0, .null, .null, .null, .null, .int 0, .null, .null, .null, .null, .null, .null, .null, .int 0, .int 0, .null, .null, .int 0, .int 0, .int 0, .int 0, .null, .null, .int 0, .null, .null, .int 0, .null, .null, .null, .null, .null, .null, .null, .int 0] : List Value) 16 (.ref q47) = ([.int 0, .ref q4, .ref q12, .ref q20, .int 2, .int 9, .int 0, .int 0, .int 0, .int 0, .ref q39, .int 0, .int 0, .int 0, .int 0, .int 0, .ref q47, .int 0, .null, .null, .null, .int 0, .null, .int 0, .null, .null, .null, .null, .int 0, .null, .null, .null, .null, .null, .null, .null, .int 0, .int 0, .null, .null, .int 0, .int 0, .int 0, .int 0, .null, .null, .int 0, .null, .null, .int 0, .null, .null, .null, .null, .null, .null, .null, .int 0] : List Value) := rfl
set_option maxRecDepth 100000 in
theorem zfin10_7 (q4 q12 q20 q39 q47 q55 : Nat) : List.set ([.int 0, .ref q4, .ref q12, .ref q20, .int 2, .int 9, .int 0, .int 0, .int 0, .int 0, .ref q39, .int 0, .int 0, .int 0, .int 0, .int 0, .ref q47, .int 0, .null, .null, .null, .int 0, .null, .int 0, .null, .null, .null, .null, .int 0, .null, .null, .null, .null, .null, .null, .null, .int 0, .int 0, .null, .null, .int 0, .int 0, .int 0, .int 0, .null, .null, .int 0, .null, .null, .int 0, .null, .null, .null, .null, .null, .null, .null, .int 0] : List Value) 18 (.ref q55) = ([.int 0, .ref q4, .ref q12, .ref q20, .int 2, .int 9, .int 0, .int 0, .int 0, .int 0, .ref q39, .int 0, .int 0, .int 0, .int 0, .int 0, .ref q47, .int 0, .ref q55, .null, .null, .int 0, .null, .int 0, .null, .null, .null, .null, .int 0, .null, .null, .null, .null, .null, .null, .null, .int 0, .int 0, .null, .null, .int 0, .int 0, .int 0, .int 0, .null, .null, .int 0, .null, .null, .int 0, .null, .null, .null, .null, .null, .null, .null, .int 0] : List Value) := rfl
set_option maxRecDepth 100000 in
theorem zfin10_8 (q4 q12 q20 q39 q47 q55 q93 : Nat) : List.set ([.int 0, .ref q4, .ref q12, .ref q20, .int 2, .int 9, .int 0, .int 0, .int 0, .int 0, .ref q39, .int 0, .int 0, .int 0, .int 0, .int 0, .ref q47, .int 0, .ref q55, .null, .null, .int 0, .null, .int 0, .null, .null, .null, .null, .int 0, .null, .null, .null, .null, .null, .null, .null, .int 0, .int 0, .null, .null, .int 0, .int 0, .int 0, .int 0, .null, .null, .int 0, .null, .null, .int 0, .null, .null, .null, .null, .null, .null, .null, .int 0] : List Value) 19 (.ref q93) = ([.int 0, .ref q4, .ref q12, .ref q20, .int 2, .int 9, .int 0, .int 0, .int 0, .int 0, .ref q39, .int 0, .int 0, .int 0, .int 0, .int 0, .ref q47, .int 0, .ref q55, .ref q93, .null, .int 0, .null, .int 0, .null, .null, .null, .null, .int 0, .null, .null, .null, .null, .null, .null, .null, .int 0, .int 0, .null, .null, .int 0, .int 0, .int 0, .int 0, .null, .null, .int 0, .null, .null, .int 0, .null, .null, .null, .null, .null, .null, .null, .int 0] : List Value) := rfl
set_option maxRecDepth 100000 in
theorem zfin10_9 (q4 q12 q20 q39 q47 q55 q93 q131 : Nat) : List.set ([.int 0, .ref q4, .ref q12, .ref q20, .int 2, .int 9, .int 0, .int 0, .int 0, .int 0, .ref q39, .int 0, .int 0, .int 0, .int 0, .int 0, .ref q47, .int 0, .ref q55, .ref q93, .null, .int 0, .null, .int 0, .null, .null, .null, .null, .int 0, .null, .null, .null, .null, .null, .null, .null, .int 0, .int 0, .null, .null, .int 0, .int 0, .int 0, .int 0, .null, .null, .int 0, .null, .null, .int 0, .null, .null, .null, .null, .null, .null, .null, .int 0] : List Value) 20 (.ref q131) = ([.int 0, .ref q4, .ref q12, .ref q20, .int 2, .int 9, .int 0, .int 0, .int 0, .int 0, .ref q39, .int 0, .int 0, .int 0, .int 0, .int 0, .ref q47, .int 0, .ref q55, .ref q93, .ref q131, .int 0, .null, .int 0, .null, .null, .null, .null, .int 0, .null, .null, .null, .null, .null, .null, .null, .int 0, .int 0, .null, .null, .int 0, .int 0, .int 0, .int 0, .null, .null, .int 0, .null, .null, .int 0, .null, .null, .null, .null, .null, .null, .null, .int 0] : List Value) := rfl
set_option maxRecDepth 100000 in
theorem zfin10_10 (q4 q12 q20 q39 q47 q55 q93 q131 q139 : Nat) : List.set ([.int 0, .ref q4, .ref q12, .ref q20, .int 2, .int 9, .int 0, .int 0, .int 0, .int 0, .ref q39, .int 0, .int 0, .int 0, .int 0, .int 0, .ref q47, .int 0, .ref q55, .ref q93, .ref q131, .int 0, .null, .int 0, .null, .null, .null, .null, .int 0, .null, .null, .null, .null, .null, .null, .null, .int 0, .int 0, .null, .null, .int 0, .int 0, .int 0, .int 0, .null, .null, .int 0, .null, .null, .int 0, .null, .null, .null, .null, .null, .null, .null, .int 0] : List Value) 22 (.ref q139) = ([.int 0, .ref q4, .ref q12, .ref q20, .int 2, .int 9, .int 0, .int 0, .int 0, .int 0, .ref q39, .int 0, .int 0, .int 0, .int 0, .int 0, .ref q47, .int 0, .ref q55, .ref q93, .ref q131, .int 0, .ref q139, .int 0, .null, .null, .null, .null, .int 0, .null, .null, .null, .null, .null, .null, .null, .int 0, .int 0, .null, .null, .int 0, .int 0, .int 0, .int 0, .null, .null, .int 0, .null, .null, .int 0, .null, .null, .null, .null, .null, .null, .null, .int 0] : List Value) := rfl
set_option maxRecDepth 100000 in
theorem zfin10_11 (q4 q12 q20 q39 q47 q55 q93 q131 q139 q147 : Nat) : List.set ([.int 0, .ref q4, .ref q12, .ref q20, .int 2, .int 9, .int 0, .int 0, .int 0, .int 0, .ref q39, .int 0, .int 0, .int 0, .int 0, .int 0, .ref q47, .int 0, .ref q55, .ref q93, .ref q131, .int 0, .ref q139, .int 0, .null, .null, .null, .null, .int 0, .null, .null, .null, .null, .null, .null, .null, .int 0, .int 0, .null, .null, .int 0, .int 0, .int 0, .int 0, .null, .null, .int 0, .null, .null, .int 0, .null, .null, .null, .null, .null, .null, .null, .int 0] : List Value) 24 (.ref q147) = ([.int 0, .ref q4, .ref q12, .ref q20, .int 2, .int 9, .int 0, .int 0, .int 0, .int 0, .ref q39, .int 0, .int 0, .int 0, .int 0, .int 0, .ref q47, .int 0, .ref q55, .ref q93, .ref q131, .int 0, .ref q139, .int 0, .ref q147, .null, .null, .null, .int 0, .null, .null, .null, .null, .null, .null, .null, .int 0, .int 0, .null, .null, .int 0, .int 0, .int 0, .int 0, .null, .null, .int 0, .null, .null, .int 0, .null, .null, .null, .null, .null, .null, .null, .int 0] : List Value) := rfl
set_option maxRecDepth 100000 in
theorem zfin10_12 (q4 q12 q20 q39 q47 q55 q93 q131 q139 q147 q155 : Nat) : List.set ([.int 0, .ref q4, .ref q12, .ref q20, .int 2, .int 9, .int 0, .int 0, .int 0, .int 0, .ref q39, .int 0, .int 0, .int 0, .int 0, .int 0, .ref q47, .int 0, .ref q55, .ref q93, .ref q131, .int 0, .ref q139, .int 0, .ref q147, .null, .null, .null, .int 0, .null, .null, .null, .null, .null, .null, .null, .int 0, .int 0, .null, .null, .int 0, .int 0, .int 0, .int 0, .null, .null, .int 0, .null, .null, .int 0, .null, .null, .null, .null, .null, .null, .null, .int 0] : List Value) 25 (.ref q155) = ([.int 0, .ref q4, .ref q12, .ref q20, .int 2, .int 9, .int 0, .int 0, .int 0, .int 0, .ref q39, .int 0, .int 0, .int 0, .int 0, .int 0, .ref q47, .int 0, .ref q55, .ref q93, .ref q131, .int 0, .ref q139, .int 0, .ref q147, .ref q155, .null, .null, .int 0, .null, .null, .null, .null, .null, .null, .null, .int 0, .int 0, .null, .null, .int 0, .int 0, .int 0, .int 0, .null, .null, .int 0, .null, .null, .int 0, .null, .null, .null, .null, .null, .null, .null, .int 0] : List Value) := rfl
set_option maxRecDepth 100000 in
theorem zfin10_13 (q4 q12 q20 q39 q47 q55 q93 q131 q139 q147 q155 q163 : Nat) : List.set ([.int 0, .ref q4, .ref q12, .ref q20, .int 2, .int 9, .int 0, .int 0, .int 0, .int 0, .ref q39, .int 0, .int 0, .int 0, .int 0, .int 0, .ref q47, .int 0, .ref q55, .ref q93, .ref q131, .int 0, .ref q139, .int 0, .ref q147, .ref q155, .null, .null, .int 0, .null, .null, .null, .null, .null, .null, .null, .int 0, .int 0, .null, .null, .int 0, .int 0, .int 0, .int 0, .null, .null, .int 0, .null, .null, .int 0, .null, .null, .null, .null, .null, .null, .null, .int 0] : List Value) 26 (.ref q163) = ([.int 0, .ref q4, .ref q12, .ref q20, .int 2, .int 9, .int 0, .int 0, .int 0, .int 0, .ref q39, .int 0, .int 0, .int 0, .int 0, .int 0, .ref q47, .int 0, .ref q55, .ref q93, .ref q131, .int 0, .ref q139, .int 0, .ref q147, .ref q155, .ref q163, .null, .int 0, .null, .null, .null, .null, .null, .null, .null, .int 0, .int 0, .null, .null, .int 0, .int 0, .int 0, .int 0, .null, .null, .int 0, .null, .null, .int 0, .null, .null, .null, .null, .null, .null, .null, .int 0] : List Value) := rfl
set_option maxRecDepth 100000 in
theorem zfin10_14 (q4 q12 q20 q39 q47 q55 q93 q131 q139 q147 q155 q163 q170 : Nat) : List.set ([.int 0, .ref q4, .ref q12, .ref q20, .int 2, .int 9, .int 0, .int 0, .int 0, .int 0, .ref q39, .int 0, .int 0, .int 0, .int 0, .int 0, .ref q47, .int 0, .ref q55, .ref q93, .ref q131, .int 0, .ref q139, .int 0, .ref q147, .ref q155, .ref q163, .null, .int 0, .null, .null, .null, .null, .null, .null, .null, .int 0, .int 0, .null, .null, .int 0, .int 0, .int 0, .int 0, .null, .null, .int 0, .null, .null, .int 0, .null, .null, .null, .null, .null, .null, .null, .int 0] : List Value) 27 (.ref q170) = ([.int 0, .ref q4, .ref q12, .ref q20, .int 2, .int 9, .int 0, .int 0, .int 0, .int 0, .ref q39, .int 0, .int 0, .int 0, .int 0, .int 0, .ref q47, .int 0, .ref q55, .ref q93, .ref q131, .int 0, .ref q139, .int 0, .ref q147, .ref q155, .ref q163, .ref q170, .int 0, .null, .null, .null, .null, .null, .null, .null, .int 0, .int 0, .null, .null, .int 0, .int 0, .int 0, .int 0, .null, .null, .int 0, .null, .null, .int 0, .null, .null, .null, .null, .null, .null, .null, .int 0] : List Value) := rfl
set_option maxRecDepth 100000 in
theorem zfin10_15 (q4 q12 q20 q39 q47 q55 q93 q131 q139 q147 q155 q163 q170 q178 : Nat) : List.set ([.int 0, .ref q4, .ref q12, .ref q20, .int 2, .int 9, .int 0, .int 0, .int 0, .int 0, .ref q39, .int 0, .int 0, .int 0, .int 0, .int 0, .ref q47, .int 0, .ref q55, .ref q93, .ref q131, .int 0, .ref q139, .int 0, .ref q147, .ref q155, .ref q163, .ref q170, .int 0, .null, .null, .null, .null, .null, .null, .null, .int 0, .int 0, .null, .null, .int 0, .int 0, .int 0, .int 0, .null, .null, .int 0, .null, .null, .int 0, .null, .null, .null, .null, .null, .null, .null, .int 0] : List Value) 29 (.ref q178) = ([.int 0, .ref q4, .ref q12, .ref q20, .int 2, .int 9, .int 0, .int 0, .int 0, .int 0, .ref q39, .int 0, .int 0, .int 0, .int 0, .int 0, .ref q47, .int 0, .ref q55, .ref q93, .ref q131, .int 0, .ref q139, .int 0, .ref q147, .ref q155, .ref q163, .ref q170, .int 0, .ref q178, .null, .null, .null, .null, .null, .null, .int 0, .int 0, .null, .null, .int 0, .int 0, .int 0, .int 0, .null, .null, .int 0, .null, .null, .int 0, .null, .null, .null, .null, .null, .null, .null, .int 0] : List Value) := rfl
set_option maxRecDepth 100000 in
theorem zfin10_16 (q4 q12 q20 q39 q47 q55 q93 q131 q139 q147 q155 q163 q170 q178 q186 : Nat) : List.set ([.int 0, .ref q4, .ref q12, .ref q20, .int 2, .int 9, .int 0, .int 0, .int 0, .int 0, .ref q39, .int 0, .int 0, .int 0, .int 0, .int 0, .ref q47, .int 0, .ref q55, .ref q93, .ref q131, .int 0, .ref q139, .int 0, .ref q147, .ref q155, .ref q163, .ref q170, .int 0, .ref q178, .null, .null, .null, .null, .null, .null, .int 0, .int 0, .null, .null, .int 0, .int 0, .int 0, .int 0, .null, .null, .int 0, .null, .null, .int 0, .null, .null, .null, .null, .null, .null, .null, .int 0] : List Value) 30 (.ref q186) = ([.int 0, .ref q4, .ref q12, .ref q20, .int 2, .int 9, .int 0, .int 0, .int 0, .int 0, .ref q39, .int 0, .int 0, .int 0, .int 0, .int 0, .ref q47, .int 0, .ref q55, .ref q93, .ref q131, .int 0, .ref q139, .int 0, .ref q147, .ref q155, .ref q163, .ref q170, .int 0, .ref q178, .ref q186, .null, .null, .null, .null, .null, .int 0, .int 0, .null, .null, .int 0, .int 0, .int 0, .int 0, .null, .null, .int 0, .null, .null, .int 0, .null, .null, .null, .null, .null, .null, .null, .int 0] : List Value) := rfl
set_option maxRecDepth 100000 in
theorem zfin10_17 (q4 q12 q20 q39 q47 q55 q93 q131 q139 q147 q155 q163 q170 q178 q186 q194 : Nat) : List.set ([.int 0, .ref q4, .ref q12, .ref q20, .int 2, .int 9, .int 0, .int 0, .int 0, .int 0, .ref q39, .int 0, .int 0, .int 0, .int 0, .int 0, .ref q47, .int 0, .ref q55, .ref q93, .ref q131, .int 0, .ref q139, .int 0, .ref q147, .ref q155, .ref q163, .ref q170, .int 0, .ref q178, .ref q186, .null, .null, .null, .null, .null, .int 0, .int 0, .null, .null, .int 0, .int 0, .int 0, .int 0, .null, .null, .int 0, .null, .null, .int 0, .null, .null, .null, .null, .null, .null, .null, .int 0] : List Value) 31 (.ref q194) = ([.int 0, .ref q4, .ref q12, .ref q20, .int 2, .int 9, .int 0, .int 0, .int 0, .int 0, .ref q39, .int 0, .int 0, .int 0, .int 0, .int 0, .ref q47, .int 0, .ref q55, .ref q93, .ref q131, .int 0, .ref q139, .int 0, .ref q147, .ref q155, .ref q163, .ref q170, .int 0, .ref q178, .ref q186, .ref q194, .null, .null, .null, .null, .int 0, .int 0, .null, .null, .int 0, .int 0, .int 0, .int 0, .null, .null, .int 0, .null, .null, .int 0, .null, .null, .null, .null, .null, .null, .null, .int 0] : List Value) := rfl
set_option maxRecDepth 100000 in
theorem zfin10_18 (q4 q12 q20 q39 q47 q55 q93 q131 q139 q147 q155 q163 q170 q178 q186 q194 q202 : Nat) : List.set ([.int 0, .ref q4, .ref q12, .ref q20, .int 2, .int 9, .int 0, .int 0, .int 0, .int 0, .ref q39, .int 0, .int 0, .int 0, .int 0, .int 0, .ref q47, .int 0, .ref q55, .ref q93, .ref q131, .int 0, .ref q139, .int 0, .ref q147, .ref q155, .ref q163, .ref q170, .int 0, .ref q178, .ref q186, .ref q194, .null, .null, .null, .null, .int 0, .int 0, .null, .null, .int 0, .int 0, .int 0, .int 0, .null, .null, .int 0, .null, .null, .int 0, .null, .null, .null, .null, .null, .null, .null, .int 0] : List Value) 32 (.ref q202) = ([.int 0, .ref q4, .ref q12, .ref q20, .int 2, .int 9, .int 0, .int 0, .int 0, .int 0, .ref q39, .int 0, .int 0, .int 0, .int 0, .int 0, .ref q47, .int 0, .ref q55, .ref q93, .ref q131, .int 0, .ref q139, .int 0, .ref q147, .ref q155, .ref q163, .ref q170, .int 0, .ref q178, .ref q186, .ref q194, .ref q202, .null, .null, .null, .int 0, .int 0, .null, .null, .int 0, .int 0, .int 0, .int 0, .null, .null, .int 0, .null, .null, .int 0, .null, .null, .null, .null, .null, .null, .null, .int 0] : List Value) := rfl
set_option maxRecDepth 100000 in
theorem zfin10_19 (q4 q12 q20 q39 q47 q55 q93 q131 q139 q147 q155 q163 q170 q178 q186 q194 q202 q210 : Nat) : List.set ([.int 0, .ref q4, .ref q12, .ref q20, .int 2, .int 9, .int 0, .int 0, .int 0, .int 0, .ref q39, .int 0, .int 0, .int 0, .int 0, .int 0, .ref q47, .int 0, .ref q55, .ref q93, .ref q131, .int 0, .ref q139, .int 0, .ref q147, .ref q155, .ref q163, .ref q170, .int 0, .ref q178, .ref q186, .ref q194, .ref q202, .null, .null, .null, .int 0, .int 0, .null, .null, .int 0, .int 0, .int 0, .int 0, .null, .null, .int 0, .null, .null, .int 0, .null, .null, .null, .null, .null, .null, .null, .int 0] : List Value) 33 (.ref q210) = ([.int 0, .ref q4, .ref q12, .ref q20, .int 2, .int 9, .int 0, .int 0, .int 0, .int 0, .ref q39, .int 0, .int 0, .int 0, .int 0, .int 0, .ref q47, .int 0, .ref q55, .ref q93, .ref q131, .int 0, .ref q139, .int 0, .ref q147, .ref q155, .ref q163, .ref q170, .int 0, .ref q178, .ref q186, .ref q194, .ref q202, .ref q210, .null, .null, .int 0, .int 0, .null, .null, .int 0, .int 0, .int 0, .int 0, .null, .null, .int 0, .null, .null, .int 0, .null, .null, .null, .null, .null, .null, .null, .int 0] : List Value) := rfl
set_option maxRecDepth 100000 in
theorem zfin10_20 (q4 q12 q20 q39 q47 q55 q93 q131 q139 q147 q155 q163 q170 q178 q186 q194 q202 q210 q218 : Nat) : List.set ([.int 0, .ref q4, .ref q12, .ref q20, .int 2, .int 9, .int 0, .int 0, .int 0, .int 0, .ref q39, .int 0, .int 0, .int 0, .int 0, .int 0, .ref q47, .int 0, .ref q55, .ref q93, .ref q131, .int 0, .ref q139, .int 0, .ref q147, .ref q155, .ref q163, .ref q170, .int 0, .ref q178, .ref q186, .ref q194, .ref q202, .ref q210, .null, .null, .int 0, .int 0, .null, .null, .int 0, .int 0, .int 0, .int 0, .null, .null, .int 0, .null, .null, .int 0, .null, .null, .null, .null, .null, .null, .null, .int 0] : List Value) 34 (.ref q218) = ([.int 0, .ref q4, .ref q12, .ref q20, .int 2, .int 9, .int 0, .int 0, .int 0, .int 0, .ref q39, .int 0, .int 0, .int 0, .int 0, .int 0, .ref q47, .int 0, .ref q55, .ref q93, .ref q131, .int 0, .ref q139, .int 0, .ref q147, .ref q155, .ref q163, .ref q170, .int 0, .ref q178, .ref q186, .ref q194, .ref q202, .ref q210, .ref q218, .null, .int 0, .int 0, .null, .null, .int 0, .int 0, .int 0, .int 0, .null, .null, .int 0, .null, .null, .int 0, .null, .null, .null, .null, .null, .null, .null, .int 0] : List Value) := rfl
set_option maxRecDepth 100000 in
theorem zfin10_21 (q4 q12 q20 q39 q47 q55 q93 q131 q139 q147 q155 q163 q170 q178 q186 q194 q202 q210 q218 q226 : Nat) : List.set ([.int 0, .ref q4, .ref q12, .ref q20, .int 2, .int 9, .int 0, .int 0, .int 0, .int 0, .ref q39, .int 0, .int 0, .int 0, .int 0, .int 0, .ref q47, .int 0, .ref q55, .ref q93, .ref q131, .int 0, .ref q139, .int 0, .ref q147, .ref q155, .ref q163, .ref q170, .int 0, .ref q178, .ref q186, .ref q194, .ref q202, .ref q210, .ref q218, .null, .int 0, .int 0, .null, .null, .int 0, .int 0, .int 0, .int 0, .null, .null, .int 0, .null, .null, .int 0, .null, .null, .null, .null, .null, .null, .null, .int 0] : List Value) 35 (.ref q226) = ([.int 0, .ref q4, .ref q12, .ref q20, .int 2, .int 9, .int 0, .int 0, .int 0, .int 0, .ref q39, .int 0, .int 0, .int 0, .int 0, .int 0, .ref q47, .int 0, .ref q55, .ref q93, .ref q131, .int 0, .ref q139, .int 0, .ref q147, .ref q155, .ref q163, .ref q170, .int 0, .ref q178, .ref q186, .ref q194, .ref q202, .ref q210, .ref q218, .ref q226, .int 0, .int 0, .null, .null, .int 0, .int 0, .int 0, .int 0, .null, .null, .int 0, .null, .null, .int 0, .null, .null, .null, .null, .null, .null, .null, .int 0] : List Value) := rfl
set_option maxRecDepth 100000 in
theorem zfin10_22 (q4 q12 q20 q39 q47 q55 q93 q131 q139 q147 q155 q163 q170 q178 q186 q194 q202 q210 q218 q226 q234 : Nat) : List.set ([.int 0, .ref q4, .ref q12, .ref q20, .int 2, .int 9, .int 0, .int 0, .int 0, .int 0, .ref q39, .int 0, .int 0, .int 0, .int 0, .int 0, .ref q47, .int 0, .ref q55, .ref q93, .ref q131, .int 0, .ref q139, .int 0, .ref q147, .ref q155, .ref q163, .ref q170, .int 0, .ref q178, .ref q186, .ref q194, .ref q202, .ref q210, .ref q218, .ref q226, .int 0, .int 0, .null, .null, .int 0, .int 0, .int 0, .int 0, .null, .null, .int 0, .null, .null, .int 0, .null, .null, .null, .null, .null, .null, .null, .int 0] : List Value) 38 (.ref q234) = ([.int 0, .ref q4, .ref q12, .ref q20, .int 2, .int 9, .int 0, .int 0, .int 0, .int 0, .ref q39, .int 0, .int 0, .int 0, .int 0, .int 0, .ref q47, .int 0, .ref q55, .ref q93, .ref q131, .int 0, .ref q139, .int 0, .ref q147, .ref q155, .ref q163, .ref q170, .int 0, .ref q178, .ref q186, .ref q194, .ref q202, .ref q210, .ref q218, .ref q226, .int 0, .int 0, .ref q234, .null, .int 0, .int 0, .int 0, .int 0, .null, .null, .int 0, .null, .null, .int 0, .null, .null, .null, .null, .null, .null, .null, .int 0] : List Value) := rfl
set_option maxRecDepth 100000 in
theorem zfin10_23 (q4 q12 q20 q39 q47 q55 q93 q131 q139 q147 q155 q163 q170 q178 q186 q194 q202 q210 q218 q226 q234 q242 : Nat) : List.set ([.int 0, .ref q4, .ref q12, .ref q20, .int 2, .int 9, .int 0, .int 0, .int 0, .int 0, .ref q39, .int 0, .int 0, .int 0, .int 0, .int 0, .ref q47, .int 0, .ref q55, .ref q93, .ref q131, .int 0, .ref q139, .int 0, .ref q147, .ref q155, .ref q163, .ref q170, .int 0, .ref q178, .ref q186, .ref q194, .ref q202, .ref q210, .ref q218, .ref q226, .int 0, .int 0, .ref q234, .null, .int 0, .int 0, .int 0, .int 0, .null, .null, .int 0, .null, .null, .int 0, .null, .null, .null, .null, .null, .null, .null, .int 0] : List Value) 39 (.ref q242) = ([.int 0, .ref q4, .ref q12, .ref q20, .int 2, .int 9, .int 0, .int 0, .int 0, .int 0, .ref q39, .int 0, .int 0, .int 0, .int 0, .int 0, .ref q47, .int 0, .ref q55, .ref q93, .ref q131, .int 0, .ref q139, .int 0, .ref q147, .ref q155, .ref q163, .ref q170, .int 0, .ref q178, .ref q186, .ref q194, .ref q202, .ref q210, .ref q218, .ref q226, .int 0, .int 0, .ref q234, .ref q242, .int 0, .int 0, .int 0, .int 0, .null, .null, .int 0, .null, .null, .int 0, .null, .null, .null, .null, .null, .null, .null, .int 0] : List Value) := rfl
set_option maxRecDepth 100000 in
theorem zfin10_24 (q4 q12 q20 q39 q47 q55 q93 q131 q139 q147 q155 q163 q170 q178 q186 q194 q202 q210 q218 q226 q234 q242 q250 : Nat) : List.set ([.int 0, .ref q4, .ref q12, .ref q20, .int 2, .int 9, .int 0, .int 0, .int 0, .int 0, .ref q39, .int 0, .int 0, .int 0, .int 0, .int 0, .ref q47, .int 0, .ref q55, .ref q93, .ref q131, .int 0, .ref q139, .int 0, .ref q147, .ref q155, .ref q163, .ref q170, .int 0, .ref q178, .ref q186, .ref q194, .ref q202, .ref q210, .ref q218, .ref q226, .int 0, .int 0, .ref q234, .ref q242, .int 0, .int 0, .int 0, .int 0, .null, .null, .int 0, .null, .null, .int 0, .null, .null, .null, .null, .null, .null, .null, .int 0] : List Value) 44 (.ref q250) = ([.int 0, .ref q4, .ref q12, .ref q20, .int 2, .int 9, .int 0, .int 0, .int 0, .int 0, .ref q39, .int 0, .int 0, .int 0, .int 0, .int 0, .ref q47, .int 0, .ref q55, .ref q93, .ref q131, .int 0, .ref q139, .int 0, .ref q147, .ref q155, .ref q163, .ref q170, .int 0, .ref q178, .ref q186, .ref q194, .ref q202, .ref q210, .ref q218, .ref q226, .int 0, .int 0, .ref q234, .ref q242, .int 0, .int 0, .int 0, .int 0, .ref q250, .null, .int 0, .null, .null, .int 0, .null, .null, .null, .null, .null, .null, .null, .int 0] : List Value) := rfl
set_option maxRecDepth 100000 in
theorem zfin10_25 (q4 q12 q20 q39 q47 q55 q93 q131 q139 q147 q155 q163 q170 q178 q186 q194 q202 q210 q218 q226 q234 q242 q250 q258 : Nat) : List.set ([.int 0, .ref q4, .ref q12, .ref q20, .int 2, .int 9, .int 0, .int 0, .int 0, .int 0, .ref q39, .int 0, .int 0, .int 0, .int 0, .int 0, .ref q47, .int 0, .ref q55, .ref q93, .ref q131, .int 0, .ref q139, .int 0, .ref q147, .ref q155, .ref q163, .ref q170, .int 0, .ref q178, .ref q186, .ref q194, .ref q202, .ref q210, .ref q218, .ref q226, .int 0, .int 0, .ref q234, .ref q242, .int 0, .int 0, .int 0, .int 0, .ref q250, .null, .int 0, .null, .null, .int 0, .null, .null, .null, .null, .null, .null, .null, .int 0] : List Value) 45 (.ref q258) = ([.int 0, .ref q4, .ref q12, .ref q20, .int 2, .int 9, .int 0, .int 0, .int 0, .int 0, .ref q39, .int 0, .int 0, .int 0, .int 0, .int 0, .ref q47, .int 0, .ref q55, .ref q93, .ref q131, .int 0, .ref q139, .int 0, .ref q147, .ref q155, .ref q163, .ref q170, .int 0, .ref q178, .ref q186, .ref q194, .ref q202, .ref q210, .ref q218, .ref q226, .int 0, .int 0, .ref q234, .ref q242, .int 0, .int 0, .int 0, .int 0, .ref q250, .ref q258, .int 0, .null, .null, .int 0, .null, .null, .null, .null, .null, .null, .null, .int 0] : List Value) := rfl
set_option maxRecDepth 100000 in
theorem zfin10_26 (q4 q12 q20 q39 q47 q55 q93 q131 q139 q147 q155 q163 q170 q178 q186 q194 q202 q210 q218 q226 q234 q242 q250 q258 q266 : Nat) : List.set ([.int 0, .ref q4, .ref q12, .ref q20, .int 2, .int 9, .int 0, .int 0, .int 0, .int 0, .ref q39, .int 0, .int 0, .int 0, .int 0, .int 0, .ref q47, .int 0, .ref q55, .ref q93, .ref q131, .int 0, .ref q139, .int 0, .ref q147, .ref q155, .ref q163, .ref q170, .int 0, .ref q178, .ref q186, .ref q194, .ref q202, .ref q210, .ref q218, .ref q226, .int 0, .int 0, .ref q234, .ref q242, .int 0, .int 0, .int 0, .int 0, .ref q250, .ref q258, .int 0, .null, .null, .int 0, .null, .null, .null, .null, .null, .null, .null, .int 0] : List Value) 47 (.ref q266) = ([.int 0, .ref q4, .ref q12, .ref q20, .int 2, .int 9, .int 0, .int 0, .int 0, .int 0, .ref q39, .int 0, .int 0, .int 0, .int 0, .int 0, .ref q47, .int 0, .ref q55, .ref q93, .ref q131, .int 0, .ref q139, .int 0, .ref q147, .ref q155, .ref q163, .ref q170, .int 0, .ref q178, .ref q186, .ref q194, .ref q202, .ref q210, .ref q218, .ref q226, .int 0, .int 0, .ref q234, .ref q242, .int 0, .int 0, .int 0, .int 0, .ref q250, .ref q258, .int 0, .ref q266, .null, .int 0, .null, .null, .null, .null, .null, .null, .null, .int 0] : List Value) := rfl
set_option maxRecDepth 100000 in
theorem zfin10_27 (q4 q12 q20 q39 q47 q55 q93 q131 q139 q147 q155 q163 q170 q178 q186 q194 q202 q210 q218 q226 q234 q242 q250 q258 q266 q274 : Nat) : List.set ([.int 0, .ref q4, .ref q12, .ref q20, .int 2, .int 9, .int 0, .int 0, .int 0, .int 0, .ref q39, .int 0, .int 0, .int 0, .int 0, .int 0, .ref q47, .int 0, .ref q55, .ref q93, .ref q131, .int 0, .ref q139, .int 0, .ref q147, .ref q155, .ref q163, .ref q170, .int 0, .ref q178, .ref q186, .ref q194, .ref q202, .ref q210, .ref q218, .ref q226, .int 0, .int 0, .ref q234, .ref q242, .int 0, .int 0, .int 0, .int 0, .ref q250, .ref q258, .int 0, .ref q266, .null, .int 0, .null, .null, .null, .null, .null, .null, .null, .int 0] : List Value) 48 (.ref q274) = ([.int 0, .ref q4, .ref q12, .ref q20, .int 2, .int 9, .int 0, .int 0, .int 0, .int 0, .ref q39, .int 0, .int 0, .int 0, .int 0, .int 0, .ref q47, .int 0, .ref q55, .ref q93, .ref q131, .int 0, .ref q139, .int 0, .ref q147, .ref q155, .ref q163, .ref q170, .int 0, .ref q178, .ref q186, .ref q194, .ref q202, .ref q210, .ref q218, .ref q226, .int 0, .int 0, .ref q234, .ref q242, .int 0, .int 0, .int 0, .int 0, .ref q250, .ref q258, .int 0, .ref q266, .ref q274, .int 0, .null, .null, .null, .null, .null, .null, .null, .int 0] : List Value) := rfl
set_option maxRecDepth 100000 in
theorem zfin10_28 (q4 q12 q20 q39 q47 q55 q93 q131 q139 q147 q155 q163 q170 q178 q186 q194 q202 q210 q218 q226 q234 q242 q250 q258 q266 q274 q282 : Nat) : List.set ([.int 0, .ref q4, .ref q12, .ref q20, .int 2, .int 9, .int 0, .int 0, .int 0, .int 0, .ref q39, .int 0, .int 0, .int 0, .int 0, .int 0, .ref q47, .int 0, .ref q55, .ref q93, .ref q131, .int 0, .ref q139, .int 0, .ref q147, .ref q155, .ref q163, .ref q170, .int 0, .ref q178, .ref q186, .ref q194, .ref q202, .ref q210, .ref q218, .ref q226, .int 0, .int 0, .ref q234, .ref q242, .int 0, .int 0, .int 0, .int 0, .ref q250, .ref q258, .int 0, .ref q266, .ref q274, .int 0, .null, .null, .null, .null, .null, .null, .null, .int 0] : List Value) 50 (.ref q282) = ([.int 0, .ref q4, .ref q12, .ref q20, .int 2, .int 9, .int 0, .int 0, .int 0, .int 0, .ref q39, .int 0, .int 0, .int 0, .int 0, .int 0, .ref q47, .int 0, .ref q55, .ref q93, .ref q131, .int 0, .ref q139, .int 0, .ref q147, .ref q155, .ref q163, .ref q170, .int 0, .ref q178, .ref q186, .ref q194, .ref q202, .ref q210, .ref q218, .ref q226, .int 0, .int 0, .ref q234, .ref q242, .int 0, .int 0, .int 0, .int 0, .ref q250, .ref q258, .int 0, .ref q266, .ref q274, .int 0, .ref q282, .null, .null, .null, .null, .null, .null, .int 0] : List Value) := rfl
set_option maxRecDepth 100000 in
theorem zfin10_29 (q4 q12 q20 q39 q47 q55 q93 q131 q139 q147 q155 q163 q170 q178 q186 q194 q202 q210 q218 q226 q234 q242 q250 q258 q266 q274 q282 q290 : Nat) : List.set ([.int 0, .ref q4, .ref q12, .ref q20, .int 2, .int 9, .int 0, .int 0, .int 0, .int 0, .ref q39, .int 0, .int 0, .int 0, .int 0, .int 0, .ref q47, .int 0, .ref q55, .ref q93, .ref q131, .int 0, .ref q139, .int 0, .ref q147, .ref q155, .ref q163, .ref q170, .int 0, .ref q178, .ref q186, .ref q194, .ref q202, .ref q210, .ref q218, .ref q226, .int 0, .int 0, .ref q234, .ref q242, .int 0, .int 0, .int 0, .int 0, .ref q250, .ref q258, .int 0, .ref q266, .ref q274, .int 0, .ref q282, .null, .null, .null, .null, .null, .null, .int 0] : List Value) 51 (.ref q290) = ([.int 0, .ref q4, .ref q12, .ref q20, .int 2, .int 9, .int 0, .int 0, .int 0, .int 0, .ref q39, .int 0, .int 0, .int 0, .int 0, .int 0, .ref q47, .int 0, .ref q55, .ref q93, .ref q131, .int 0, .ref q139, .int 0, .ref q147, .ref q155, .ref q163, .ref q170, .int 0, .ref q178, .ref q186, .ref q194, .ref q202, .ref q210, .ref q218, .ref q226, .int 0, .int 0, .ref q234, .ref q242, .int 0, .int 0, .int 0, .int 0, .ref q250, .ref q258, .int 0, .ref q266, .ref q274, .int 0, .ref q282, .ref q290, .null, .null, .null, .null, .null, .int 0] : List Value) := rfl
set_option maxRecDepth 100000 in
theorem zfin10_30 (q4 q12 q20 q39 q47 q55 q93 q131 q139 q147 q155 q163 q170 q178 q186 q194 q202 q210 q218 q226 q234 q242 q250 q258 q266 q274 q282 q290 q298 : Nat) : List.set ([.int 0, .ref q4, .ref q12, .ref q20, .int 2, .int 9, .int 0, .int 0, .int 0, .int 0, .ref q39, .int 0, .int 0, .int 0, .int 0, .int 0, .ref q47, .int 0, .ref q55, .ref q93, .ref q131, .int 0, .ref q139, .int 0, .ref q147, .ref q155, .ref q163, .ref q170, .int 0, .ref q178, .ref q186, .ref q194, .ref q202, .ref q210, .ref q218, .ref q226, .int 0, .int 0, .ref q234, .ref q242, .int 0, .int 0, .int 0, .int 0, .ref q250, .ref q258, .int 0, .ref q266, .ref q274, .int 0, .ref q282, .ref q290, .null, .null, .null, .null, .null, .int 0] : List Value) 52 (.ref q298) = ([.int 0, .ref q4, .ref q12, .ref q20, .int 2, .int 9, .int 0, .int 0, .int 0, .int 0, .ref q39, .int 0, .int 0, .int 0, .int 0, .int 0, .ref q47, .int 0, .ref q55, .ref q93, .ref q131, .int 0, .ref q139, .int 0, .ref q147, .ref q155, .ref q163, .ref q170, .int 0, .ref q178, .ref q186, .ref q194, .ref q202, .ref q210, .ref q218, .ref q226, .int 0, .int 0, .ref q234, .ref q242, .int 0, .int 0, .int 0, .int 0, .ref q250, .ref q258, .int 0, .ref q266, .ref q274, .int 0, .ref q282, .ref q290, .ref q298, .null, .null, .null, .null, .int 0] : List Value) := rfl
set_option maxRecDepth 100000 in
theorem zfin10_31 (q4 q12 q20 q39 q47 q55 q93 q131 q139 q147 q155 q163 q170 q178 q186 q194 q202 q210 q218 q226 q234 q242 q250 q258 q266 q274 q282 q290 q298 q306 : Nat) : List.set ([.int 0, .ref q4, .ref q12, .ref q20, .int 2, .int 9, .int 0, .int 0, .int 0, .int 0, .ref q39, .int 0, .int 0, .int 0, .int 0, .int 0, .ref q47, .int 0, .ref q55, .ref q93, .ref q131, .int 0, .ref q139, .int 0, .ref q147, .ref q155, .ref q163, .ref q170, .int 0, .ref q178, .ref q186, .ref q194, .ref q202, .ref q210, .ref q218, .ref q226, .int 0, .int 0, .ref q234, .ref q242, .int 0, .int 0, .int 0, .int 0, .ref q250, .ref q258, .int 0, .ref q266, .ref q274, .int 0, .ref q282, .ref q290, .ref q298, .null, .null, .null, .null, .int 0] : List Value) 53 (.ref q306) = ([.int 0, .ref q4, .ref q12, .ref q20, .int 2, .int 9, .int 0, .int 0, .int 0, .int 0, .ref q39, .int 0, .int 0, .int 0, .int 0, .int 0, .ref q47, .int 0, .ref q55, .ref q93, .ref q131, .int 0, .ref q139, .int 0, .ref q147, .ref q155, .ref q163, .ref q170, .int 0, .ref q178, .ref q186, .ref q194, .ref q202, .ref q210, .ref q218, .ref q226, .int 0, .int 0, .ref q234, .ref q242, .int 0, .int 0, .int 0, .int 0, .ref q250, .ref q258, .int 0, .ref q266, .ref q274, .int 0, .ref q282, .ref q290, .ref q298, .ref q306, .null, .null, .null, .int 0] : List Value) := rfl
set_option maxRecDepth 100000 in
theorem zfin10_32 (q4 q12 q20 q39 q47 q55 q93 q131 q139 q147 q155 q163 q170 q178 q186 q194 q202 q210 q218 q226 q234 q242 q250 q258 q266 q274 q282 q290 q298 q306 q314 : Nat) : List.set ([.int 0, .ref q4, .ref q12, .ref q20, .int 2, .int 9, .int 0, .int 0, .int 0, .int 0, .ref q39, .int 0, .int 0, .int 0, .int 0, .int 0, .ref q47, .int 0, .ref q55, .ref q93, .ref q131, .int 0, .ref q139, .int 0, .ref q147, .ref q155, .ref q163, .ref q170, .int 0, .ref q178, .ref q186, .ref q194, .ref q202, .ref q210, .ref q218, .ref q226, .int 0, .int 0, .ref q234, .ref q242, .int 0, .int 0, .int 0, .int 0, .ref q250, .ref q258, .int 0, .ref q266, .ref q274, .int 0, .ref q282, .ref q290, .ref q298, .ref q306, .null, .null, .null, .int 0] : List Value) 54 (.ref q314) = ([.int 0, .ref q4, .ref q12, .ref q20, .int 2, .int 9, .int 0, .int 0, .int 0, .int 0, .ref q39, .int 0, .int 0, .int 0, .int 0, .int 0, .ref q47, .int 0, .ref q55, .ref q93, .ref q131, .int 0, .ref q139, .int 0, .ref q147, .ref q155, .ref q163, .ref q170, .int 0, .ref q178, .ref q186, .ref q194, .ref q202, .ref q210, .ref q218, .ref q226, .int 0, .int 0, .ref q234, .ref q242, .int 0, .int 0, .int 0, .int 0, .ref q250, .ref q258, .int 0, .ref q266, .ref q274, .int 0, .ref q282, .ref q290, .ref q298, .ref q306, .ref q314, .null, .null, .int 0] : List Value) := rfl
set_option maxRecDepth 100000 in
theorem zfin10_33 (q4 q12 q20 q39 q47 q55 q93 q131 q139 q147 q155 q163 q170 q178 q186 q194 q202 q210 q218 q226 q234 q242 q250 q258 q266 q274 q282 q290 q298 q306 q314 q322 : Nat) : List.set ([.int 0, .ref q4, .ref q12, .ref q20, .int 2, .int 9, .int 0, .int 0, .int 0, .int 0, .ref q39, .int 0, .int 0, .int 0, .int 0, .int 0, .ref q47, .int 0, .ref q55, .ref q93, .ref q131, .int 0, .ref q139, .int 0, .ref q147, .ref q155, .ref q163, .ref q170, .int 0, .ref q178, .ref q186, .ref q194, .ref q202, .ref q210, .ref q218, .ref q226, .int 0, .int 0, .ref q234, .ref q242, .int 0, .int 0, .int 0, .int 0, .ref q250, .ref q258, .int 0, .ref q266, .ref q274, .int 0, .ref q282, .ref q290, .ref q298, .ref q306, .ref q314, .null, .null, .int 0] : List Value) 55 (.ref q322) = ([.int 0, .ref q4, .ref q12, .ref q20, .int 2, .int 9, .int 0, .int 0, .int 0, .int 0, .ref q39, .int 0, .int 0, .int 0, .int 0, .int 0, .ref q47, .int 0, .ref q55, .ref q93, .ref q131, .int 0, .ref q139, .int 0, .ref q147, .ref q155, .ref q163, .ref q170, .int 0, .ref q178, .ref q186, .ref q194, .ref q202, .ref q210, .ref q218, .ref q226, .int 0, .int 0, .ref q234, .ref q242, .int 0, .int 0, .int 0, .int 0, .ref q250, .ref q258, .int 0, .ref q266, .ref q274, .int 0, .ref q282, .ref q290, .ref q298, .ref q306, .ref q314, .ref q322, .null, .int 0] : List Value) := rfl
set_option maxRecDepth 100000 in
theorem zfin10_34 (q4 q12 q20 q39 q47 q55 q93 q131 q139 q147 q155 q163 q170 q178 q186 q194 q202 q210 q218 q226 q234 q242 q250 q258 q266 q274 q282 q290 q298 q306 q314 q322 q331 : Nat) : List.set ([.int 0, .ref q4, .ref q12, .ref q20, .int 2, .int 9, .int 0, .int 0, .int 0, .int 0, .ref q39, .int 0, .int 0, .int 0, .int 0, .int 0, .ref q47, .int 0, .ref q55, .ref q93, .ref q131, .int 0, .ref q139, .int 0, .ref q147, .ref q155, .ref q163, .ref q170, .int 0, .ref q178, .ref q186, .ref q194, .ref q202, .ref q210, .ref q218, .ref q226, .int 0, .int 0, .ref q234, .ref q242, .int 0, .int 0, .int 0, .int 0, .ref q250, .ref q258, .int 0, .ref q266, .ref q274, .int 0, .ref q282, .ref q290, .ref q298, .ref q306, .ref q314, .ref q322, .null, .int 0] : List Value) 56 (.ref q331) = ([.int 0, .ref q4, .ref q12, .ref q20, .int 2, .int 9, .int 0, .int 0, .int 0, .int 0, .ref q39, .int 0, .int 0, .int 0, .int 0, .int 0, .ref q47, .int 0, .ref q55, .ref q93, .ref q131, .int 0, .ref q139, .int 0, .ref q147, .ref q155, .ref q163, .ref q170, .int 0, .ref q178, .ref q186, .ref q194, .ref q202, .ref q210, .ref q218, .ref q226, .int 0, .int 0, .ref q234, .ref q242, .int 0, .int 0, .int 0, .int 0, .ref q250, .ref q258, .int 0, .ref q266, .ref q274, .int 0, .ref q282, .ref q290, .ref q298, .ref q306, .ref q314, .ref q322, .ref q331, .int 0] : List Value) := rfl
set_option maxHeartbeats 4000000 in
set_option maxRecDepth 100000 in
theorem zfin10 (q4 q12 q20 q39 q47 q55 q93 q131 q139 q147 q155 q163 q170 q178 q186 q194 q202 q210 q218 q226 q234 q242 q250 q258 q266 q274 q282 q290 q298 q306 q314 q322 q331 : Nat) : (((((((((((((((((((((((((((((((((((zf10.set 1 (.ref q4)).set 2 (.ref q12)).set 3 (.ref q20)).set 4 (.int 2)).set 5 (.int 9)).set 10 (.ref q39)).set 16 (.ref q47)).set 18 (.ref q55)).set 19 (.ref q93)).set 20 (.ref q131)).set 22 (.ref q139)).set 24 (.ref q147)).set 25 (.ref q155)).set 26 (.ref q163)).set 27 (.ref q170)).set 29 (.ref q178)).set 30 (.ref q186)).set 31 (.ref q194)).set 32 (.ref q202)).set 33 (.ref q210)).set 34 (.ref q218)).set 35 (.ref q226)).set 38 (.ref q234)).set 39 (.ref q242)).set 44 (.ref q250)).set 45 (.ref q258)).set 47 (.ref q266)).set 48 (.ref q274)).set 50 (.ref q282)).set 51 (.ref q290)).set 52 (.ref q298)).set 53 (.ref q306)).set 54 (.ref q314)).set 55 (.ref q322)).set 56 (.ref q331)) = ([.int 0, .ref q4, .ref q12, .ref q20, .int 2, .int 9, .int 0, .int 0, .int 0, .int 0, .ref q39, .int 0, .int 0, .int 0, .int 0, .int 0, .ref q47, .int 0, .ref q55, .ref q93, .ref q131, .int 0, .ref q139, .int 0, .ref q147, .ref q155, .ref q163, .ref q170, .int 0, .ref q178, .ref q186, .ref q194, .ref q202, .ref q210, .ref q218, .ref q226, .int 0, .int 0, .ref q234, .ref q242, .int 0, .int 0, .int 0, .int 0, .ref q250, .ref q258, .int 0, .ref q266, .ref q274, .int 0, .ref q282, .ref q290, .ref q298, .ref q306, .ref q314, .ref q322, .ref q331, .int 0] : List Value) := by
  rw [zfin10_0 q4, zfin10_1 q4 q12, zfin10_2 q4 q12 q20, zfin10_3 q4 q12 q20, zfin10_4 q4 q12 q20, zfin10_5 q4 q12 q20 q39, zfin10_6 q4 q12 q20 q39 q47, zfin10_7 q4 q12 q20 q39 q47 q55, zfin10_8 q4 q12 q20 q39 q47 q55 q93, zfin10_9 q4 q12 q20 q39 q47 q55 q93 q131, zfin10_10 q4 q12 q20 q39 q47 q55 q93 q131 q139, zfin10_11 q4 q12 q20 q39 q47 q55 q93 q131 q139 q147, zfin10_12 q4 q12 q20 q39 q47 q55 q93 q131 q139 q147 q155, zfin10_13 q4 q12 q20 q39 q47 q55 q93 q131 q139 q147 q155 q163, zfin10_14 q4 q12 q20 q39 q47 q55 q93 q131 q139 q147 q155 q163 q170, zfin10_15 q4 q12 q20 q39 q47 q55 q93 q131 q139 q147 q155 q163 q170 q178, zfin10_16 q4 q12 q20 q39 q47 q55 q93 q131 q139 q147 q155 q163 q170 q178 q186, zfin10_17 q4 q12 q20 q39 q47 q55 q93 q131 q139 q147 q155 q163 q170 q178 q186 q194, zfin10_18 q4 q12 q20 q39 q47 q55 q93 q131 q139 q147 q155 q163 q170 q178 q186 q194 q202, zfin10_19 q4 q12 q20 q39 q47 q55 q93 q131 q139 q147 q155 q163 q170 q178 q186 q194 q202 q210, zfin10_20 q4 q12 q20 q39 q47 q55 q93 q131 q139 q147 q155 q163 q170 q178 q186 q194 q202 q210 q218, zfin10_21 q4 q12 q20 q39 q47 q55 q93 q131 q139 q147 q155 q163 q170 q178 q186 q194 q202 q210 q218 q226, zfin10_22 q4 q12 q20 q39 q47 q55 q93 q131 q139 q147 q155 q163 q170 q178 q186 q194 q202 q210 q218 q226 q234, zfin10_23 q4 q12 q20 q39 q47 q55 q93 q131 q139 q147 q155 q163 q170 q178 q186 q194 q202 q210 q218 q226 q234 q242, zfin10_24 q4 q12 q20 q39 q47 q55 q93 q131 q139 q147 q155 q163 q170 q178 q186 q194 q202 q210 q218 q226 q234 q242 q250, zfin10_25 q4 q12 q20 q39 q47 q55 q93 q131 q139 q147 q155 q163 q170 q178 q186 q194 q202 q210 q218 q226 q234 q242 q250 q258, zfin10_26 q4 q12 q20 q39 q47 q55 q93 q131 q139 q147 q155 q163 q170 q178 q186 q194 q202 q210 q218 q226 q234 q242 q250 q258 q266, zfin10_27 q4 q12 q20 q39 q47 q55 q93 q131 q139 q147 q155 q163 q170 q178 q186 q194 q202 q210 q218 q226 q234 q242 q250 q258 q266 q274, zfin10_28 q4 q12 q20 q39 q47 q55 q93 q131 q139 q147 q155 q163 q170 q178 q186 q194 q202 q210 q218 q226 q234 q242 q250 q258 q266 q274 q282, zfin10_29 q4 q12 q20 q39 q47 q55 q93 q131 q139 q147 q155 q163 q170 q178 q186 q194 q202 q210 q218 q226 q234 q242 q250 q258 q266 q274 q282 q290, zfin10_30 q4 q12 q20 q39 q47 q55 q93 q131 q139 q147 q155 q163 q170 q178 q186 q194 q202 q210 q218 q226 q234 q242 q250 q258 q266 q274 q282 q290 q298, zfin10_31 q4 q12 q20 q39 q47 q55 q93 q131 q139 q147 q155 q163 q170 q178 q186 q194 q202 q210 q218 q226 q234 q242 q250 q258 q266 q274 q282 q290 q298 q306, zfin10_32 q4 q12 q20 q39 q47 q55 q93 q131 q139 q147 q155 q163 q170 q178 q186 q194 q202 q210 q218 q226 q234 q242 q250 q258 q266 q274 q282 q290 q298 q306 q314, zfin10_33 q4 q12 q20 q39 q47 q55 q93 q131 q139 q147 q155 q163 q170 q178 q186 q194 q202 q210 q218 q226 q234 q242 q250 q258 q266 q274 q282 q290 q298 q306 q314 q322, zfin10_34 q4 q12 q20 q39 q47 q55 q93 q131 q139 q147 q155 q163 q170 q178 q186 q194 q202 q210 q218 q226 q234 q242 q250 q258 q266 q274 q282 q290 q298 q306 q314 q322 q331]
set_option maxHeartbeats 4000000 in
set_option maxRecDepth 100000 in
theorem zend10 (ca : Nat → ClassId) (h0 q4 q12 q20 q39 q47 q55 q93 q131 q139 q147 q155 q163 q170 q178 q186 q194 q202 q210 q218 q226 q234 q242 q250 q258 q266 q274 q282 q290 q298 q306 q314 q322 q331 : Nat) : ((h0, .inr (7, [.int 0, .ref q4, .ref q12, .ref q20, .int 2, .int 9, .int 0, .int 0, .int 0, .int 0, .ref q39, .int 0, .int 0, .int 0, .int 0, .int 0, .ref q47, .int 0, .ref q55, .ref q93, .ref q131, .int 0, .ref q139, .int 0, .ref q147, .ref q155, .ref q163, .ref q170, .int 0, .ref q178, .ref q186, .ref q194, .ref q202, .ref q210, .ref q218, .ref q226, .int 0, .int 0, .ref q234, .ref q242, .int 0, .int 0, .int 0, .int 0, .ref q250, .ref q258, .int 0, .ref q266, .ref q274, .int 0, .ref q282, .ref q290, .ref q298, .ref q306, .ref q314, .ref q322, .ref q331, .int 0])) :: List.reverse ((q331, .inl (ca 0, 100, .inl zZ)) :: (q322, .inl (ca 0, 800, .inl zZ)) :: (q314, .inl (ca 0, 8, .inl zZ)) :: (q306, .inl (ca 0, 8, .inl zZ)) :: (q298, .inl (ca 0, 8, .inl zZ)) :: (q290, .inl (ca 0, 8, .inl zZ)) :: (q282, .inl (ca 0, 8, .inl zZ)) :: (q274, .inl (ca 0, 60, .inl zZ)) :: (q266, .inl (ca 0, 60, .inl zZ)) :: (q258, .inl (ca 0, 9, .inl zZ)) :: (q250, .inl (ca 0, 9, .inl zZ)) :: (q242, .inl (ca 0, 10, .inl zZ)) :: (q234, .inl (ca 0, 11, .inl zZ)) :: (q226, .inl (ca 0, 10, .inl zZ)) :: (q218, .inl (ca 1, 10, .inl zZ)) :: (q210, .inl (ca 0, 10, .inl zZ)) :: (q202, .inl (ca 0, 10, .inl zZ)) :: (q194, .inl (ca 0, 10, .inl zZ)) :: (q186, .inl (ca 0, 10, .inl zZ)) :: (q178, .inl (ca 0, 10, .inl zZ)) :: (q170, .inl (ca 0, 10, .inl zZ)) :: (q163, .inl (ca 0, 3, .inl zZ)) :: (q155, .inl (ca 0, 30, .inl zZ)) :: (q147, .inl (ca 0, 10, .inl zZ)) :: (q139, .inl (ca 0, 10, .inl zZ)) :: (q131, .inl (ca 0, 10, .inl zZ)) :: (q93, .inl (ca 2, 6, .inl (upd (upd (upd (upd (upd (upd zZ (0 : Int32).toNatClampNeg (vp_nar .char 102)) (1 : Int32).toNatClampNeg (vp_nar .char 115)) (2 : Int32).toNatClampNeg (vp_nar .char 101)) (3 : Int32).toNatClampNeg (vp_nar .char 108)) (4 : Int32).toNatClampNeg (vp_nar .char 111)) (5 : Int32).toNatClampNeg (vp_nar .char 114)))) :: (q55, .inl (ca 2, 6, .inl (upd (upd (upd (upd (upd (upd zZ (0 : Int32).toNatClampNeg (vp_nar .char 103)) (1 : Int32).toNatClampNeg (vp_nar .char 104)) (2 : Int32).toNatClampNeg (vp_nar .char 98)) (3 : Int32).toNatClampNeg (vp_nar .char 109)) (4 : Int32).toNatClampNeg (vp_nar .char 107)) (5 : Int32).toNatClampNeg (vp_nar .char 114)))) :: (q47, .inl (ca 0, 6, .inl zZ)) :: (q39, .inl (ca 0, 6, .inl zZ)) :: (q20, .inl (ca 0, 10, .inl zZ)) :: (q12, .inl (ca 0, 10, .inl zZ)) :: (q4, .inl (ca 0, 10, .inl zZ)) :: []) : va_W) = wM ca (zlk [h0, q4, q12, q20, q39, q47, q55, q93, q131, q139, q147, q155, q163, q170, q178, q186, q194, q202, q210, q218, q226, q234, q242, q250, q258, q266, q274, q282, q290, q298, q306, q314, q322, q331]) := rfl
set_option maxHeartbeats 4000000 in
set_option maxRecDepth 100000 in
theorem kX10_init (l : Launch) (D : va_G) (ca : Nat → ClassId) : zMI l D ca yX10_init (.code yX10_init cX10_init 1 none :: zI) roi_X10 7 zf10 (fun u => wM ca (u 0)) 33 1296 := by
  refine zMI_of (cc := cX10_init) (maxL := 1) (by decide) rfl (by decide) rfl ?_
  rintro p e s m args below meth c A Q ls h0 ⟨hx, hb, hml, hown, hts, hA, hK, hO, hS, hin⟩ hend hP hD hl
  have hown : s.vm.findClass RX10 = some m.cls := hown
  have hts : ∀ w ∈ zI, w.before args s = true := fun w h => hts w (List.mem_cons_of_mem _ h)
  have B : zB10 p s m args meth c A D ca ls h0 := ⟨hx, hb, hown, hts, hA, hK, hin, hl⟩
  refine lv_aload_n hx hb dX10_init_0 rfl (lv_at hl 0 rfl) ?_
  refine W.objInit hx hb hown (hts _ zi_98) (hts _ zi_1) (hts _ zi_2) rfl (by rw [hml]; exact hl.1) rfl dX10_init_1 (Nat.le_of_ble_eq_true rfl) (Nat.le_of_ble_eq_true rfl) ?_
  refine W.eq (g2 := F0 m 4 ls []) rfl ?_
  suffices hC : zC10 p l e s m args below meth c A D ca Q ls h0 4 0 0 zf10 [] from hC _ _ rfl hP hD hS
  clear hP hD hS
  refine s10_4 B (fun q4 => ?_)
  refine s10_12 B (fun q12 => ?_)
  refine s10_20 B (fun q20 => ?_)
  refine s10_28 B ?_
  refine s10_33 B ?_
  refine s10_39 B (fun q39 => ?_)
  refine s10_47 B (fun q47 => ?_)
  refine s10_55 B (fun q55 => ?_)
  refine s10_93 B (fun q93 => ?_)
  refine s10_131 B (fun q131 => ?_)
  refine s10_139 B (fun q139 => ?_)
  refine s10_147 B (fun q147 => ?_)
  refine s10_155 B (fun q155 => ?_)
  refine s10_163 B (fun q163 => ?_)
  refine s10_170 B (fun q170 => ?_)
  refine s10_178 B (fun q178 => ?_)
  refine s10_186 B (fun q186 => ?_)
  refine s10_194 B (fun q194 => ?_)
  refine s10_202 B (fun q202 => ?_)
  refine s10_210 B (fun q210 => ?_)
  refine s10_218 B (fun q218 => ?_)
  refine s10_226 B (fun q226 => ?_)
  refine s10_234 B (fun q234 => ?_)
  refine s10_242 B (fun q242 => ?_)
  refine s10_250 B (fun q250 => ?_)
  refine s10_258 B (fun q258 => ?_)
  refine s10_266 B (fun q266 => ?_)
  refine s10_274 B (fun q274 => ?_)
  refine s10_282 B (fun q282 => ?_)
  refine s10_290 B (fun q290 => ?_)
  refine s10_298 B (fun q298 => ?_)
  refine s10_306 B (fun q306 => ?_)
  refine s10_314 B (fun q314 => ?_)
  refine s10_322 B (fun q322 => ?_)
  refine s10_331 B (fun q331 => ?_)
  intro H locs _ hP hD hS
  rw [zfin10 q4 q12 q20 q39 q47 q55 q93 q131 q139 q147 q155 q163 q170 q178 q186 q194 q202 q210 q218 q226 q234 q242 q250 q258 q266 q274 q282 q290 q298 q306 q314 q322 q331] at hP hD
  have hP := zP_perm (List.Perm.cons _ (List.reverse_perm _).symm) hP
  have hD := zD_perm (List.Perm.cons _ (List.reverse_perm _).symm) hD
  rw [zend10 ca h0 q4 q12 q20 q39 q47 q55 q93 q131 q139 q147 q155 q163 q170 q178 q186 q194 q202 q210 q218 q226 q234 q242 q250 q258 q266 q274 q282 q290 q298 q306 q314 q322 q331] at hP hD
  exact hend H locs 339 ls (fun p => match p with | 0 => (zlk [h0, q4, q12, q20, q39, q47, q55, q93, q131, q139, q147, q155, q163, q170, q178, q186, q194, q202, q210, q218, q226, q234, q242, q250, q258, q266, q274, q282, q290, q298, q306, q314, q322, q331]) | _ => fun _ => 0) rfl hP hD hS dX10_init_339
