abbrev roi_X9 : Room := { frames := 6, cells := 89, slots := 1475, locals := 160 }
def zlk : List Nat → Nat → Nat
  | [], _ => 0
  | a :: _, 0 => a
  | _ :: l, k + 1 => zlk l k
theorem zD_ref1 {A : Nat → Prop} {x : Nat × va_E} {a : Nat} {e e' : va_E} {R : va_W} (h : va_D A (x :: (a, e) :: R)) : va_D A (x :: (a, e') :: R) := zD_addr (ws := x :: (a, e) :: R) rfl h
theorem zperm9 {α : Type} (x y : α) (Q N S0 S1 S2 S3 S4 S5 S6 S7 T : List α) : (x :: y :: (Q ++ (N ++ (S7 ++ (S6 ++ (S5 ++ (S4 ++ (S3 ++ (S2 ++ (S1 ++ (S0 ++ T))))))))))).Perm (x :: y :: (S0 ++ (S1 ++ (S2 ++ (S3 ++ (S4 ++ (S5 ++ (S6 ++ (S7 ++ (Q ++ (N ++ T))))))))))) := by
  refine List.Perm.cons x (List.Perm.cons y ?_)
  letI : DecidableEq α := fun a b => Classical.propDecidable (a = b)
  exact List.perm_iff_count.mpr (fun a => by simp only [List.count_append]; omega)
def zB9 (p : Program) (s : State) (m : MethodId) (args : Array Value) (meth : Method) (c : Code) (A : Nat → Prop) (D : va_G) (ca : Nat → ClassId) : Prop := p.tables.exec = Jvm.exec ∧ c.code = cX9_init ∧ c.maxLocals = 2 ∧ s.vm.findClass RX9 = some m.cls ∧ (∀ w ∈ zI, w.before args s = true) ∧ (∀ q, s.heap.size ≤ q → A q) ∧ va_K D vwCl (zT ca) s ∧ zAO s ∧ meth.name = "<init>"
def zC9 (p : Program) (l : Launch) (e : Env) (s : State) (m : MethodId) (args : Array Value) (below : List Frame) (meth : Method) (c : Code) (A : Nat → Prop) (D : va_G) (Q : State → Prop) (pc cells slots : Nat) (lv : List (Nat × Value)) (w : va_W) : Prop := ∀ (H : Heap) (locs : List Loc) (ls : Array Slot), lv_has ls 2 lv → va_P D vwCl w H → va_D A w → va_S A s.heap H locs → W p l e roi_X9 s m args below meth c H locs cells slots Q (F0 m pc ls [])
section
variable {p : Program} {l : Launch} {e : Env} {s : State} {m : MethodId} {args : Array Value} {below : List Frame} {meth : Method} {c : Code} {A : Nat → Prop} {D : va_G} {ca : Nat → ClassId} {Q : State → Prop} {h0 : Nat}
set_option maxRecDepth 100000 in
theorem s9_4  {P : va_W} (B : zB9 p s m args meth c A D ca) (kk : ∀ u : Nat → Nat → Nat, zC9 p l e s m args below meth c A D Q 15 6 48 [(0, .ref h0)] ((h0, .inr (6, [.ref (u 0 0), .null, .int 0, .null, .null, .null])) :: (wR ca (u 0) ++ P))) : zC9 p l e s m args below meth c A D Q 4 0 0 [(0, .ref h0)] ((h0, .inr (6, [.null, .null, .int 0, .null, .null, .null])) :: P) := by
  obtain ⟨hx, hb, hml, hown, hts, hA, hK, hO, hin⟩ := B
  intro H locs ls hl hP hD hS
  refine lv_aload_n hx hb dX9_init_4 rfl (lv_at hl 0 rfl) ?_
  refine zn_new ([(h0, .inr (6, [.null, .null, .int 0, .null, .null, .null]))]) (P) (C := RX5) (T := TX5) (N := 8) (ci := 3) (fs := [.int 0, .null, .null, .null, .null, .int 0, .null, .int 0]) hx hb hts zI_X5 tyX5 tyX5_ok hown zi_80 zi_33 zi_34 hK hP hD hS hA rfl zdf_X5 (Nat.le_of_ble_eq_true rfl) (Nat.le_of_ble_eq_true rfl) dX9_init_5 (fun q H hP hD hS => ?_)
  refine W.widen (k := 1) (n := 8) (Nat.le_of_ble_eq_true rfl) (Nat.le_of_ble_eq_true rfl) ?_
  refine lv_dup hx hb dX9_init_8 rfl ?_
  refine zn_initN ([(h0, .inr (6, [.null, .null, .int 0, .null, .null, .null]))]) (P) (kX5_init l D ca) ⟨hx, hb, hml, hown, hts⟩ ⟨va_cnB 0 hts (zGI zi_35) rfl rfl rfl (hO.2.2 _ (List.mem_of_getElem? (i := 5) rfl)) (hts _ zi_34) (by decide +kernel) ⟨(Nat.le_of_ble_eq_true rfl), (Nat.le_of_ble_eq_true rfl)⟩, rfl, hts _ zi_36⟩ hO hA hK hP hD hS hl.1 (Nat.le_of_ble_eq_true rfl) dX9_init_9 ⟨(Nat.le_of_ble_eq_true rfl), (Nat.le_of_ble_eq_true rfl)⟩ (fun u H locs hu hP9 hD9 hS9 => ?_)
  clear hP hD hS
  subst hu
  have hP : va_P D vwCl ((h0, .inr (6, [.null, .null, .int 0, .null, .null, .null])) :: (wR ca (u 0) ++ P)) _ := hP9
  have hD : va_D A ((h0, .inr (6, [.null, .null, .int 0, .null, .null, .null])) :: (wR ca (u 0) ++ P)) := hD9
  have hS := hS9
  clear hP9 hD9 hS9
  refine W.widen (k := 6) (n := 48) (Nat.le_of_ble_eq_true rfl) (Nat.le_of_ble_eq_true rfl) ?_
  refine zn_put (C := RX9) (T := TX9) (N := 6) (ci := 6) (v := .ref (u 0 0)) (ref := "CoatsOnTheBed") true hx hb hts zI_X9 tyX9 tyX9_ok nmX9 hown hK hP hD hS rfl 0 (by decide) zi_81 (fun _ h9 => h9) rfl hin rfl rfl rfl (Nat.le_of_ble_eq_true rfl) dX9_init_12 (fun H locs hP hD hS => ?_)
  exact kk u H locs ls hl hP hD hS
set_option maxRecDepth 100000 in
theorem s9_15 {a : Nat} {P : va_W} (B : zB9 p s m args meth c A D ca) (kk : ∀ u : Nat → Nat → Nat, zC9 p l e s m args below meth c A D Q 26 12 96 [(0, .ref h0)] ((h0, .inr (6, [.ref a, .ref (u 0 0), .int 0, .null, .null, .null])) :: (wR ca (u 0) ++ P))) : zC9 p l e s m args below meth c A D Q 15 6 48 [(0, .ref h0)] ((h0, .inr (6, [.ref a, .null, .int 0, .null, .null, .null])) :: P) := by
  obtain ⟨hx, hb, hml, hown, hts, hA, hK, hO, hin⟩ := B
  intro H locs ls hl hP hD hS
  refine lv_aload_n hx hb dX9_init_15 rfl (lv_at hl 0 rfl) ?_
  refine zn_new ([(h0, .inr (6, [.ref a, .null, .int 0, .null, .null, .null]))]) (P) (C := RX5) (T := TX5) (N := 8) (ci := 3) (fs := [.int 0, .null, .null, .null, .null, .int 0, .null, .int 0]) hx hb hts zI_X5 tyX5 tyX5_ok hown zi_80 zi_33 zi_34 hK hP hD hS hA rfl zdf_X5 (Nat.le_of_ble_eq_true rfl) (Nat.le_of_ble_eq_true rfl) dX9_init_16 (fun q H hP hD hS => ?_)
  refine W.widen (k := 7) (n := 56) (Nat.le_of_ble_eq_true rfl) (Nat.le_of_ble_eq_true rfl) ?_
  refine lv_dup hx hb dX9_init_19 rfl ?_
  refine zn_initN ([(h0, .inr (6, [.ref a, .null, .int 0, .null, .null, .null]))]) (P) (kX5_init l D ca) ⟨hx, hb, hml, hown, hts⟩ ⟨va_cnB 0 hts (zGI zi_35) rfl rfl rfl (hO.2.2 _ (List.mem_of_getElem? (i := 5) rfl)) (hts _ zi_34) (by decide +kernel) ⟨(Nat.le_of_ble_eq_true rfl), (Nat.le_of_ble_eq_true rfl)⟩, rfl, hts _ zi_36⟩ hO hA hK hP hD hS hl.1 (Nat.le_of_ble_eq_true rfl) dX9_init_20 ⟨(Nat.le_of_ble_eq_true rfl), (Nat.le_of_ble_eq_true rfl)⟩ (fun u H locs hu hP9 hD9 hS9 => ?_)
  clear hP hD hS
  subst hu
  have hP : va_P D vwCl ((h0, .inr (6, [.ref a, .null, .int 0, .null, .null, .null])) :: (wR ca (u 0) ++ P)) _ := hP9
  have hD : va_D A ((h0, .inr (6, [.ref a, .null, .int 0, .null, .null, .null])) :: (wR ca (u 0) ++ P)) := hD9
  have hS := hS9
  clear hP9 hD9 hS9
  refine W.widen (k := 12) (n := 96) (Nat.le_of_ble_eq_true rfl) (Nat.le_of_ble_eq_true rfl) ?_
  refine zn_put (C := RX9) (T := TX9) (N := 6) (ci := 6) (v := .ref (u 0 0)) (ref := "CoatsOnTheBed") true hx hb hts zI_X9 tyX9 tyX9_ok nmX9 hown hK hP hD hS rfl 1 (by decide) zi_82 (fun _ h9 => h9) rfl hin rfl rfl rfl (Nat.le_of_ble_eq_true rfl) dX9_init_23 (fun H locs hP hD hS => ?_)
  exact kk u H locs ls hl hP hD hS
set_option maxRecDepth 100000 in
theorem s9_26 {a b : Nat} {P : va_W} (B : zB9 p s m args meth c A D ca) (kk : ∀ q34 : Nat, zC9 p l e s m args below meth c A D Q 42 13 104 [(1, .int 0), (0, .ref h0)] ((h0, .inr (6, [.ref a, .ref b, .int 0, .ref q34, .null, .null])) :: (q34, .inl (ca 3, 8, .inr (.inr (.inr (.inr (fun _ => none)))))) :: P)) : zC9 p l e s m args below meth c A D Q 26 12 96 [(0, .ref h0)] ((h0, .inr (6, [.ref a, .ref b, .int 0, .null, .null, .null])) :: P) := by
  obtain ⟨hx, hb, hml, hown, hts, hA, hK, hO, hin⟩ := B
  intro H locs ls hl hP hD hS
  refine lv_aload_n hx hb dX9_init_26 rfl (lv_at hl 0 rfl) ?_
  refine lv_iconst (v := 0) hx hb dX9_init_27 (by decide) ?_
  refine zn_put (C := RX9) (T := TX9) (N := 6) (ci := 6) (v := .int 0) (ref := "CoatsOnTheBed") false hx hb hts zI_X9 tyX9 tyX9_ok nmX9 hown hK hP hD hS rfl 2 (by decide) zi_83 (fun _ h9 => h9) rfl hin rfl rfl rfl (Nat.le_of_ble_eq_true rfl) dX9_init_28 (fun H locs hP hD hS => ?_)
  have hP : va_P D vwCl ((h0, .inr (6, [.ref a, .ref b, .int 0, .null, .null, .null])) :: P) _ := hP
  have hD : va_D A ((h0, .inr (6, [.ref a, .ref b, .int 0, .null, .null, .null])) :: P) := hD
  refine lv_aload_n hx hb dX9_init_31 rfl (lv_at hl 0 rfl) ?_
  refine lv_bipush (v := 8) hx hb dX9_init_32 (by decide) ?_
  refine zn_newq ([(h0, .inr (6, [.ref a, .ref b, .int 0, .null, .null, .null]))]) (P) (C := RX7) (k := 3) rfl hx hb hts hown zi_84 hO.1 hK hP hD hS hA (n := 8) (N' := 8) (by decide) (by decide) (by decide) (Nat.le_of_ble_eq_true rfl) (Nat.le_of_ble_eq_true rfl) dX9_init_34 (fun q34 H hP hD hS => ?_)
  have hP : va_P D vwCl ((h0, .inr (6, [.ref a, .ref b, .int 0, .null, .null, .null])) :: (q34, .inl (ca 3, 8, .inr (.inr (.inr (.inr (fun _ => none)))))) :: P) _ := hP
  have hD : va_D A ((h0, .inr (6, [.ref a, .ref b, .int 0, .null, .null, .null])) :: (q34, .inl (ca 3, 8, .inr (.inr (.inr (.inr (fun _ => none)))))) :: P) := hD
  refine W.widen (k := 13) (n := 104) (Nat.le_of_ble_eq_true rfl) (Nat.le_of_ble_eq_true rfl) ?_
  refine zn_put (C := RX9) (T := TX9) (N := 6) (ci := 6) (v := .ref q34) (ref := "CoatsOnTheBed") true hx hb hts zI_X9 tyX9 tyX9_ok nmX9 hown hK hP hD hS rfl 3 (by decide) zi_85 (fun _ h9 => h9) rfl hin rfl rfl rfl (Nat.le_of_ble_eq_true rfl) dX9_init_37 (fun H locs hP hD hS => ?_)
  refine lv_iconst (v := 0) hx hb dX9_init_40 (by decide) ?_
  refine lv_istore_n (lv' := [(1, .int 0), (0, .ref h0)]) hx hb dX9_init_41 rfl hl (by decide) rfl (fun ls hl => ?_)
  exact kk q34 H locs ls hl hP hD hS
set_option maxRecDepth 100000 in
theorem s9_42_0 {a b q34 : Nat} {g : Nat → Option Nat} {P : va_W} (B : zB9 p s m args meth c A D ca) (kk : ∀ u : Nat → Nat → Nat, zC9 p l e s m args below meth c A D Q 42 15 210 [(1, .int 1), (0, .ref h0)] ((h0, .inr (6, [.ref a, .ref b, .int 0, .ref q34, .null, .null])) :: (q34, .inl (ca 3, 8, .inr (.inr (.inr (.inr (va_up g (0 : Int32).toNatClampNeg (some (u 0 0)))))))) :: (wS ca (u 0) ++ P))) : zC9 p l e s m args below meth c A D Q 42 13 104 [(1, .int 0), (0, .ref h0)] ((h0, .inr (6, [.ref a, .ref b, .int 0, .ref q34, .null, .null])) :: (q34, .inl (ca 3, 8, .inr (.inr (.inr (.inr g))))) :: P) := by
  obtain ⟨hx, hb, hml, hown, hts, hA, hK, hO, hin⟩ := B
  intro H locs ls hl hP hD hS
  refine lv_iload_n hx hb dX9_init_42 rfl (lv_at hl 0 rfl) ?_
  refine lv_bipush (v := 8) hx hb dX9_init_43 (by decide) ?_
  refine lv_icmp_ge (tgt := 67) hx hb dX9_init_45 (by decide) (fun c_ => absurd c_ (by decide)) (fun _ => ?_)
  refine lv_aload_n hx hb dX9_init_48 rfl (lv_at hl 1 rfl) ?_
  refine va_get (D := D) (ci := 6) (v := .ref q34) (C := RX9) (T := TX9) (N := 6) hx hb hts zI_X9 hown hK hP 0 rfl rfl 3 (by decide) (hts _ zi_85) (fun _ h9 => h9) rfl dX9_init_49 ?_
  refine lv_iload_n hx hb dX9_init_52 rfl (lv_at hl 0 rfl) ?_
  refine zn_new ([(h0, .inr (6, [.ref a, .ref b, .int 0, .ref q34, .null, .null])), (q34, .inl (ca 3, 8, .inr (.inr (.inr (.inr g)))))]) (P) (C := RX7) (T := TX7) (N := 6) (ci := 4) (fs := [.int 0, .int 0, .int 0, .int 0, .int 0, .null]) hx hb hts zI_X7 tyX7 tyX7_ok hown zi_84 zi_86 zi_87 hK hP hD hS hA rfl zdf_X7 (Nat.le_of_ble_eq_true rfl) (Nat.le_of_ble_eq_true rfl) dX9_init_53 (fun q H hP hD hS => ?_)
  refine W.widen (k := 14) (n := 110) (Nat.le_of_ble_eq_true rfl) (Nat.le_of_ble_eq_true rfl) ?_
  refine lv_dup hx hb dX9_init_56 rfl ?_
  refine zn_initN ([(h0, .inr (6, [.ref a, .ref b, .int 0, .ref q34, .null, .null])), (q34, .inl (ca 3, 8, .inr (.inr (.inr (.inr g)))))]) (P) (kX7_init l D ca) ⟨hx, hb, hml, hown, hts⟩ ⟨va_cnB 0 hts (zGI zi_88) rfl rfl rfl (hO.2.2 _ (List.mem_of_getElem? (i := 6) rfl)) (hts _ zi_87) (by decide +kernel) ⟨(Nat.le_of_ble_eq_true rfl), (Nat.le_of_ble_eq_true rfl)⟩, rfl, hts _ zi_89⟩ hO hA hK hP hD hS hl.1 (Nat.le_of_ble_eq_true rfl) dX9_init_57 ⟨(Nat.le_of_ble_eq_true rfl), (Nat.le_of_ble_eq_true rfl)⟩ (fun u H locs hu hP9 hD9 hS9 => ?_)
  clear hP hD hS
  subst hu
  have hP : va_P D vwCl ((h0, .inr (6, [.ref a, .ref b, .int 0, .ref q34, .null, .null])) :: (q34, .inl (ca 3, 8, .inr (.inr (.inr (.inr g))))) :: (u 0 0, .inr (4, [.int 0, .int 0, .int 0, .int 0, .int 0, .ref (u 0 1)])) :: (u 0 1, .inl (ca 0, 100, .inl zZ)) :: P) _ := hP9
  have hD : va_D A ((h0, .inr (6, [.ref a, .ref b, .int 0, .ref q34, .null, .null])) :: (q34, .inl (ca 3, 8, .inr (.inr (.inr (.inr g))))) :: (u 0 0, .inr (4, [.int 0, .int 0, .int 0, .int 0, .int 0, .ref (u 0 1)])) :: (u 0 1, .inl (ca 0, 100, .inl zZ)) :: P) := hD9
  have hS := hS9
  clear hP9 hD9 hS9
  refine W.widen (k := 15) (n := 210) (Nat.le_of_ble_eq_true rfl) (Nat.le_of_ble_eq_true rfl) ?_
  refine va_astq (r := (RX7, TX7, 6)) hx hb hK hP hD hS 1 3 2 4 rfl rfl rfl rfl (zin_ok (by decide)) dX9_init_60 (fun H locs hP hD hS => ?_)
  refine lv_iinc (v := 1) (lv' := [(1, .int 1), (0, .ref h0)]) hx hb dX9_init_61 hl (k := 0) rfl (by decide) (by decide) rfl (fun ls hl => ?_)
  refine lv_goto (tgt := 42) hx hb dX9_init_64 (by decide) ?_
  exact kk u H locs ls hl hP hD hS
set_option maxRecDepth 100000 in
theorem s9_42_1 {a b q34 : Nat} {g : Nat → Option Nat} {P : va_W} (B : zB9 p s m args meth c A D ca) (kk : ∀ u : Nat → Nat → Nat, zC9 p l e s m args below meth c A D Q 42 17 316 [(1, .int 2), (0, .ref h0)] ((h0, .inr (6, [.ref a, .ref b, .int 0, .ref q34, .null, .null])) :: (q34, .inl (ca 3, 8, .inr (.inr (.inr (.inr (va_up g (1 : Int32).toNatClampNeg (some (u 0 0)))))))) :: (wS ca (u 0) ++ P))) : zC9 p l e s m args below meth c A D Q 42 15 210 [(1, .int 1), (0, .ref h0)] ((h0, .inr (6, [.ref a, .ref b, .int 0, .ref q34, .null, .null])) :: (q34, .inl (ca 3, 8, .inr (.inr (.inr (.inr g))))) :: P) := by
  obtain ⟨hx, hb, hml, hown, hts, hA, hK, hO, hin⟩ := B
  intro H locs ls hl hP hD hS
  refine lv_iload_n hx hb dX9_init_42 rfl (lv_at hl 0 rfl) ?_
  refine lv_bipush (v := 8) hx hb dX9_init_43 (by decide) ?_
  refine lv_icmp_ge (tgt := 67) hx hb dX9_init_45 (by decide) (fun c_ => absurd c_ (by decide)) (fun _ => ?_)
  refine lv_aload_n hx hb dX9_init_48 rfl (lv_at hl 1 rfl) ?_
  refine va_get (D := D) (ci := 6) (v := .ref q34) (C := RX9) (T := TX9) (N := 6) hx hb hts zI_X9 hown hK hP 0 rfl rfl 3 (by decide) (hts _ zi_85) (fun _ h9 => h9) rfl dX9_init_49 ?_
  refine lv_iload_n hx hb dX9_init_52 rfl (lv_at hl 0 rfl) ?_
  refine zn_new ([(h0, .inr (6, [.ref a, .ref b, .int 0, .ref q34, .null, .null])), (q34, .inl (ca 3, 8, .inr (.inr (.inr (.inr g)))))]) (P) (C := RX7) (T := TX7) (N := 6) (ci := 4) (fs := [.int 0, .int 0, .int 0, .int 0, .int 0, .null]) hx hb hts zI_X7 tyX7 tyX7_ok hown zi_84 zi_86 zi_87 hK hP hD hS hA rfl zdf_X7 (Nat.le_of_ble_eq_true rfl) (Nat.le_of_ble_eq_true rfl) dX9_init_53 (fun q H hP hD hS => ?_)
  refine W.widen (k := 16) (n := 216) (Nat.le_of_ble_eq_true rfl) (Nat.le_of_ble_eq_true rfl) ?_
  refine lv_dup hx hb dX9_init_56 rfl ?_
  refine zn_initN ([(h0, .inr (6, [.ref a, .ref b, .int 0, .ref q34, .null, .null])), (q34, .inl (ca 3, 8, .inr (.inr (.inr (.inr g)))))]) (P) (kX7_init l D ca) ⟨hx, hb, hml, hown, hts⟩ ⟨va_cnB 0 hts (zGI zi_88) rfl rfl rfl (hO.2.2 _ (List.mem_of_getElem? (i := 6) rfl)) (hts _ zi_87) (by decide +kernel) ⟨(Nat.le_of_ble_eq_true rfl), (Nat.le_of_ble_eq_true rfl)⟩, rfl, hts _ zi_89⟩ hO hA hK hP hD hS hl.1 (Nat.le_of_ble_eq_true rfl) dX9_init_57 ⟨(Nat.le_of_ble_eq_true rfl), (Nat.le_of_ble_eq_true rfl)⟩ (fun u H locs hu hP9 hD9 hS9 => ?_)
  clear hP hD hS
  subst hu
  have hP : va_P D vwCl ((h0, .inr (6, [.ref a, .ref b, .int 0, .ref q34, .null, .null])) :: (q34, .inl (ca 3, 8, .inr (.inr (.inr (.inr g))))) :: (u 0 0, .inr (4, [.int 0, .int 0, .int 0, .int 0, .int 0, .ref (u 0 1)])) :: (u 0 1, .inl (ca 0, 100, .inl zZ)) :: P) _ := hP9
  have hD : va_D A ((h0, .inr (6, [.ref a, .ref b, .int 0, .ref q34, .null, .null])) :: (q34, .inl (ca 3, 8, .inr (.inr (.inr (.inr g))))) :: (u 0 0, .inr (4, [.int 0, .int 0, .int 0, .int 0, .int 0, .ref (u 0 1)])) :: (u 0 1, .inl (ca 0, 100, .inl zZ)) :: P) := hD9
  have hS := hS9
  clear hP9 hD9 hS9
  refine W.widen (k := 17) (n := 316) (Nat.le_of_ble_eq_true rfl) (Nat.le_of_ble_eq_true rfl) ?_
  refine va_astq (r := (RX7, TX7, 6)) hx hb hK hP hD hS 1 3 2 4 rfl rfl rfl rfl (zin_ok (by decide)) dX9_init_60 (fun H locs hP hD hS => ?_)
  refine lv_iinc (v := 2) (lv' := [(1, .int 2), (0, .ref h0)]) hx hb dX9_init_61 hl (k := 0) rfl (by decide) (by decide) rfl (fun ls hl => ?_)
  refine lv_goto (tgt := 42) hx hb dX9_init_64 (by decide) ?_
  exact kk u H locs ls hl hP hD hS
set_option maxRecDepth 100000 in
theorem s9_42_2 {a b q34 : Nat} {g : Nat → Option Nat} {P : va_W} (B : zB9 p s m args meth c A D ca) (kk : ∀ u : Nat → Nat → Nat, zC9 p l e s m args below meth c A D Q 42 19 422 [(1, .int 3), (0, .ref h0)] ((h0, .inr (6, [.ref a, .ref b, .int 0, .ref q34, .null, .null])) :: (q34, .inl (ca 3, 8, .inr (.inr (.inr (.inr (va_up g (2 : Int32).toNatClampNeg (some (u 0 0)))))))) :: (wS ca (u 0) ++ P))) : zC9 p l e s m args below meth c A D Q 42 17 316 [(1, .int 2), (0, .ref h0)] ((h0, .inr (6, [.ref a, .ref b, .int 0, .ref q34, .null, .null])) :: (q34, .inl (ca 3, 8, .inr (.inr (.inr (.inr g))))) :: P) := by
  obtain ⟨hx, hb, hml, hown, hts, hA, hK, hO, hin⟩ := B
  intro H locs ls hl hP hD hS
  refine lv_iload_n hx hb dX9_init_42 rfl (lv_at hl 0 rfl) ?_
  refine lv_bipush (v := 8) hx hb dX9_init_43 (by decide) ?_
  refine lv_icmp_ge (tgt := 67) hx hb dX9_init_45 (by decide) (fun c_ => absurd c_ (by decide)) (fun _ => ?_)
  refine lv_aload_n hx hb dX9_init_48 rfl (lv_at hl 1 rfl) ?_
  refine va_get (D := D) (ci := 6) (v := .ref q34) (C := RX9) (T := TX9) (N := 6) hx hb hts zI_X9 hown hK hP 0 rfl rfl 3 (by decide) (hts _ zi_85) (fun _ h9 => h9) rfl dX9_init_49 ?_
  refine lv_iload_n hx hb dX9_init_52 rfl (lv_at hl 0 rfl) ?_
  refine zn_new ([(h0, .inr (6, [.ref a, .ref b, .int 0, .ref q34, .null, .null])), (q34, .inl (ca 3, 8, .inr (.inr (.inr (.inr g)))))]) (P) (C := RX7) (T := TX7) (N := 6) (ci := 4) (fs := [.int 0, .int 0, .int 0, .int 0, .int 0, .null]) hx hb hts zI_X7 tyX7 tyX7_ok hown zi_84 zi_86 zi_87 hK hP hD hS hA rfl zdf_X7 (Nat.le_of_ble_eq_true rfl) (Nat.le_of_ble_eq_true rfl) dX9_init_53 (fun q H hP hD hS => ?_)
  refine W.widen (k := 18) (n := 322) (Nat.le_of_ble_eq_true rfl) (Nat.le_of_ble_eq_true rfl) ?_
  refine lv_dup hx hb dX9_init_56 rfl ?_
  refine zn_initN ([(h0, .inr (6, [.ref a, .ref b, .int 0, .ref q34, .null, .null])), (q34, .inl (ca 3, 8, .inr (.inr (.inr (.inr g)))))]) (P) (kX7_init l D ca) ⟨hx, hb, hml, hown, hts⟩ ⟨va_cnB 0 hts (zGI zi_88) rfl rfl rfl (hO.2.2 _ (List.mem_of_getElem? (i := 6) rfl)) (hts _ zi_87) (by decide +kernel) ⟨(Nat.le_of_ble_eq_true rfl), (Nat.le_of_ble_eq_true rfl)⟩, rfl, hts _ zi_89⟩ hO hA hK hP hD hS hl.1 (Nat.le_of_ble_eq_true rfl) dX9_init_57 ⟨(Nat.le_of_ble_eq_true rfl), (Nat.le_of_ble_eq_true rfl)⟩ (fun u H locs hu hP9 hD9 hS9 => ?_)
  clear hP hD hS
  subst hu
  have hP : va_P D vwCl ((h0, .inr (6, [.ref a, .ref b, .int 0, .ref q34, .null, .null])) :: (q34, .inl (ca 3, 8, .inr (.inr (.inr (.inr g))))) :: (u 0 0, .inr (4, [.int 0, .int 0, .int 0, .int 0, .int 0, .ref (u 0 1)])) :: (u 0 1, .inl (ca 0, 100, .inl zZ)) :: P) _ := hP9
  have hD : va_D A ((h0, .inr (6, [.ref a, .ref b, .int 0, .ref q34, .null, .null])) :: (q34, .inl (ca 3, 8, .inr (.inr (.inr (.inr g))))) :: (u 0 0, .inr (4, [.int 0, .int 0, .int 0, .int 0, .int 0, .ref (u 0 1)])) :: (u 0 1, .inl (ca 0, 100, .inl zZ)) :: P) := hD9
  have hS := hS9
  clear hP9 hD9 hS9
  refine W.widen (k := 19) (n := 422) (Nat.le_of_ble_eq_true rfl) (Nat.le_of_ble_eq_true rfl) ?_
  refine va_astq (r := (RX7, TX7, 6)) hx hb hK hP hD hS 1 3 2 4 rfl rfl rfl rfl (zin_ok (by decide)) dX9_init_60 (fun H locs hP hD hS => ?_)
  refine lv_iinc (v := 3) (lv' := [(1, .int 3), (0, .ref h0)]) hx hb dX9_init_61 hl (k := 0) rfl (by decide) (by decide) rfl (fun ls hl => ?_)
  refine lv_goto (tgt := 42) hx hb dX9_init_64 (by decide) ?_
  exact kk u H locs ls hl hP hD hS
set_option maxRecDepth 100000 in
theorem s9_42_3 {a b q34 : Nat} {g : Nat → Option Nat} {P : va_W} (B : zB9 p s m args meth c A D ca) (kk : ∀ u : Nat → Nat → Nat, zC9 p l e s m args below meth c A D Q 42 21 528 [(1, .int 4), (0, .ref h0)] ((h0, .inr (6, [.ref a, .ref b, .int 0, .ref q34, .null, .null])) :: (q34, .inl (ca 3, 8, .inr (.inr (.inr (.inr (va_up g (3 : Int32).toNatClampNeg (some (u 0 0)))))))) :: (wS ca (u 0) ++ P))) : zC9 p l e s m args below meth c A D Q 42 19 422 [(1, .int 3), (0, .ref h0)] ((h0, .inr (6, [.ref a, .ref b, .int 0, .ref q34, .null, .null])) :: (q34, .inl (ca 3, 8, .inr (.inr (.inr (.inr g))))) :: P) := by
  obtain ⟨hx, hb, hml, hown, hts, hA, hK, hO, hin⟩ := B
  intro H locs ls hl hP hD hS
  refine lv_iload_n hx hb dX9_init_42 rfl (lv_at hl 0 rfl) ?_
  refine lv_bipush (v := 8) hx hb dX9_init_43 (by decide) ?_
  refine lv_icmp_ge (tgt := 67) hx hb dX9_init_45 (by decide) (fun c_ => absurd c_ (by decide)) (fun _ => ?_)
  refine lv_aload_n hx hb dX9_init_48 rfl (lv_at hl 1 rfl) ?_
  refine va_get (D := D) (ci := 6) (v := .ref q34) (C := RX9) (T := TX9) (N := 6) hx hb hts zI_X9 hown hK hP 0 rfl rfl 3 (by decide) (hts _ zi_85) (fun _ h9 => h9) rfl dX9_init_49 ?_
  refine lv_iload_n hx hb dX9_init_52 rfl (lv_at hl 0 rfl) ?_
  refine zn_new ([(h0, .inr (6, [.ref a, .ref b, .int 0, .ref q34, .null, .null])), (q34, .inl (ca 3, 8, .inr (.inr (.inr (.inr g)))))]) (P) (C := RX7) (T := TX7) (N := 6) (ci := 4) (fs := [.int 0, .int 0, .int 0, .int 0, .int 0, .null]) hx hb hts zI_X7 tyX7 tyX7_ok hown zi_84 zi_86 zi_87 hK hP hD hS hA rfl zdf_X7 (Nat.le_of_ble_eq_true rfl) (Nat.le_of_ble_eq_true rfl) dX9_init_53 (fun q H hP hD hS => ?_)
  refine W.widen (k := 20) (n := 428) (Nat.le_of_ble_eq_true rfl) (Nat.le_of_ble_eq_true rfl) ?_
  refine lv_dup hx hb dX9_init_56 rfl ?_
  refine zn_initN ([(h0, .inr (6, [.ref a, .ref b, .int 0, .ref q34, .null, .null])), (q34, .inl (ca 3, 8, .inr (.inr (.inr (.inr g)))))]) (P) (kX7_init l D ca) ⟨hx, hb, hml, hown, hts⟩ ⟨va_cnB 0 hts (zGI zi_88) rfl rfl rfl (hO.2.2 _ (List.mem_of_getElem? (i := 6) rfl)) (hts _ zi_87) (by decide +kernel) ⟨(Nat.le_of_ble_eq_true rfl), (Nat.le_of_ble_eq_true rfl)⟩, rfl, hts _ zi_89⟩ hO hA hK hP hD hS hl.1 (Nat.le_of_ble_eq_true rfl) dX9_init_57 ⟨(Nat.le_of_ble_eq_true rfl), (Nat.le_of_ble_eq_true rfl)⟩ (fun u H locs hu hP9 hD9 hS9 => ?_)
  clear hP hD hS
  subst hu
  have hP : va_P D vwCl ((h0, .inr (6, [.ref a, .ref b, .int 0, .ref q34, .null, .null])) :: (q34, .inl (ca 3, 8, .inr (.inr (.inr (.inr g))))) :: (u 0 0, .inr (4, [.int 0, .int 0, .int 0, .int 0, .int 0, .ref (u 0 1)])) :: (u 0 1, .inl (ca 0, 100, .inl zZ)) :: P) _ := hP9
  have hD : va_D A ((h0, .inr (6, [.ref a, .ref b, .int 0, .ref q34, .null, .null])) :: (q34, .inl (ca 3, 8, .inr (.inr (.inr (.inr g))))) :: (u 0 0, .inr (4, [.int 0, .int 0, .int 0, .int 0, .int 0, .ref (u 0 1)])) :: (u 0 1, .inl (ca 0, 100, .inl zZ)) :: P) := hD9
  have hS := hS9
  clear hP9 hD9 hS9
  refine W.widen (k := 21) (n := 528) (Nat.le_of_ble_eq_true rfl) (Nat.le_of_ble_eq_true rfl) ?_
  refine va_astq (r := (RX7, TX7, 6)) hx hb hK hP hD hS 1 3 2 4 rfl rfl rfl rfl (zin_ok (by decide)) dX9_init_60 (fun H locs hP hD hS => ?_)
  refine lv_iinc (v := 4) (lv' := [(1, .int 4), (0, .ref h0)]) hx hb dX9_init_61 hl (k := 0) rfl (by decide) (by decide) rfl (fun ls hl => ?_)
  refine lv_goto (tgt := 42) hx hb dX9_init_64 (by decide) ?_
  exact kk u H locs ls hl hP hD hS
set_option maxRecDepth 100000 in
theorem s9_42_4 {a b q34 : Nat} {g : Nat → Option Nat} {P : va_W} (B : zB9 p s m args meth c A D ca) (kk : ∀ u : Nat → Nat → Nat, zC9 p l e s m args below meth c A D Q 42 23 634 [(1, .int 5), (0, .ref h0)] ((h0, .inr (6, [.ref a, .ref b, .int 0, .ref q34, .null, .null])) :: (q34, .inl (ca 3, 8, .inr (.inr (.inr (.inr (va_up g (4 : Int32).toNatClampNeg (some (u 0 0)))))))) :: (wS ca (u 0) ++ P))) : zC9 p l e s m args below meth c A D Q 42 21 528 [(1, .int 4), (0, .ref h0)] ((h0, .inr (6, [.ref a, .ref b, .int 0, .ref q34, .null, .null])) :: (q34, .inl (ca 3, 8, .inr (.inr (.inr (.inr g))))) :: P) := by
  obtain ⟨hx, hb, hml, hown, hts, hA, hK, hO, hin⟩ := B
  intro H locs ls hl hP hD hS
  refine lv_iload_n hx hb dX9_init_42 rfl (lv_at hl 0 rfl) ?_
  refine lv_bipush (v := 8) hx hb dX9_init_43 (by decide) ?_
  refine lv_icmp_ge (tgt := 67) hx hb dX9_init_45 (by decide) (fun c_ => absurd c_ (by decide)) (fun _ => ?_)
  refine lv_aload_n hx hb dX9_init_48 rfl (lv_at hl 1 rfl) ?_
  refine va_get (D := D) (ci := 6) (v := .ref q34) (C := RX9) (T := TX9) (N := 6) hx hb hts zI_X9 hown hK hP 0 rfl rfl 3 (by decide) (hts _ zi_85) (fun _ h9 => h9) rfl dX9_init_49 ?_
  refine lv_iload_n hx hb dX9_init_52 rfl (lv_at hl 0 rfl) ?_
  refine zn_new ([(h0, .inr (6, [.ref a, .ref b, .int 0, .ref q34, .null, .null])), (q34, .inl (ca 3, 8, .inr (.inr (.inr (.inr g)))))]) (P) (C := RX7) (T := TX7) (N := 6) (ci := 4) (fs := [.int 0, .int 0, .int 0, .int 0, .int 0, .null]) hx hb hts zI_X7 tyX7 tyX7_ok hown zi_84 zi_86 zi_87 hK hP hD hS hA rfl zdf_X7 (Nat.le_of_ble_eq_true rfl) (Nat.le_of_ble_eq_true rfl) dX9_init_53 (fun q H hP hD hS => ?_)
  refine W.widen (k := 22) (n := 534) (Nat.le_of_ble_eq_true rfl) (Nat.le_of_ble_eq_true rfl) ?_
  refine lv_dup hx hb dX9_init_56 rfl ?_
  refine zn_initN ([(h0, .inr (6, [.ref a, .ref b, .int 0, .ref q34, .null, .null])), (q34, .inl (ca 3, 8, .inr (.inr (.inr (.inr g)))))]) (P) (kX7_init l D ca) ⟨hx, hb, hml, hown, hts⟩ ⟨va_cnB 0 hts (zGI zi_88) rfl rfl rfl (hO.2.2 _ (List.mem_of_getElem? (i := 6) rfl)) (hts _ zi_87) (by decide +kernel) ⟨(Nat.le_of_ble_eq_true rfl), (Nat.le_of_ble_eq_true rfl)⟩, rfl, hts _ zi_89⟩ hO hA hK hP hD hS hl.1 (Nat.le_of_ble_eq_true rfl) dX9_init_57 ⟨(Nat.le_of_ble_eq_true rfl), (Nat.le_of_ble_eq_true rfl)⟩ (fun u H locs hu hP9 hD9 hS9 => ?_)
  clear hP hD hS
  subst hu
  have hP : va_P D vwCl ((h0, .inr (6, [.ref a, .ref b, .int 0, .ref q34, .null, .null])) :: (q34, .inl (ca 3, 8, .inr (.inr (.inr (.inr g))))) :: (u 0 0, .inr (4, [.int 0, .int 0, .int 0, .int 0, .int 0, .ref (u 0 1)])) :: (u 0 1, .inl (ca 0, 100, .inl zZ)) :: P) _ := hP9
  have hD : va_D A ((h0, .inr (6, [.ref a, .ref b, .int 0, .ref q34, .null, .null])) :: (q34, .inl (ca 3, 8, .inr (.inr (.inr (.inr g))))) :: (u 0 0, .inr (4, [.int 0, .int 0, .int 0, .int 0, .int 0, .ref (u 0 1)])) :: (u 0 1, .inl (ca 0, 100, .inl zZ)) :: P) := hD9
  have hS := hS9
  clear hP9 hD9 hS9
  refine W.widen (k := 23) (n := 634) (Nat.le_of_ble_eq_true rfl) (Nat.le_of_ble_eq_true rfl) ?_
  refine va_astq (r := (RX7, TX7, 6)) hx hb hK hP hD hS 1 3 2 4 rfl rfl rfl rfl (zin_ok (by decide)) dX9_init_60 (fun H locs hP hD hS => ?_)
  refine lv_iinc (v := 5) (lv' := [(1, .int 5), (0, .ref h0)]) hx hb dX9_init_61 hl (k := 0) rfl (by decide) (by decide) rfl (fun ls hl => ?_)
  refine lv_goto (tgt := 42) hx hb dX9_init_64 (by decide) ?_
  exact kk u H locs ls hl hP hD hS
set_option maxRecDepth 100000 in
theorem s9_42_5 {a b q34 : Nat} {g : Nat → Option Nat} {P : va_W} (B : zB9 p s m args meth c A D ca) (kk : ∀ u : Nat → Nat → Nat, zC9 p l e s m args below meth c A D Q 42 25 740 [(1, .int 6), (0, .ref h0)] ((h0, .inr (6, [.ref a, .ref b, .int 0, .ref q34, .null, .null])) :: (q34, .inl (ca 3, 8, .inr (.inr (.inr (.inr (va_up g (5 : Int32).toNatClampNeg (some (u 0 0)))))))) :: (wS ca (u 0) ++ P))) : zC9 p l e s m args below meth c A D Q 42 23 634 [(1, .int 5), (0, .ref h0)] ((h0, .inr (6, [.ref a, .ref b, .int 0, .ref q34, .null, .null])) :: (q34, .inl (ca 3, 8, .inr (.inr (.inr (.inr g))))) :: P) := by
  obtain ⟨hx, hb, hml, hown, hts, hA, hK, hO, hin⟩ := B
  intro H locs ls hl hP hD hS
  refine lv_iload_n hx hb dX9_init_42 rfl (lv_at hl 0 rfl) ?_
  refine lv_bipush (v := 8) hx hb dX9_init_43 (by decide) ?_
  refine lv_icmp_ge (tgt := 67) hx hb dX9_init_45 (by decide) (fun c_ => absurd c_ (by decide)) (fun _ => ?_)
  refine lv_aload_n hx hb dX9_init_48 rfl (lv_at hl 1 rfl) ?_
  refine va_get (D := D) (ci := 6) (v := .ref q34) (C := RX9) (T := TX9) (N := 6) hx hb hts zI_X9 hown hK hP 0 rfl rfl 3 (by decide) (hts _ zi_85) (fun _ h9 => h9) rfl dX9_init_49 ?_
  refine lv_iload_n hx hb dX9_init_52 rfl (lv_at hl 0 rfl) ?_
  refine zn_new ([(h0, .inr (6, [.ref a, .ref b, .int 0, .ref q34, .null, .null])), (q34, .inl (ca 3, 8, .inr (.inr (.inr (.inr g)))))]) (P) (C := RX7) (T := TX7) (N := 6) (ci := 4) (fs := [.int 0, .int 0, .int 0, .int 0, .int 0, .null]) hx hb hts zI_X7 tyX7 tyX7_ok hown zi_84 zi_86 zi_87 hK hP hD hS hA rfl zdf_X7 (Nat.le_of_ble_eq_true rfl) (Nat.le_of_ble_eq_true rfl) dX9_init_53 (fun q H hP hD hS => ?_)
  refine W.widen (k := 24) (n := 640) (Nat.le_of_ble_eq_true rfl) (Nat.le_of_ble_eq_true rfl) ?_
  refine lv_dup hx hb dX9_init_56 rfl ?_
  refine zn_initN ([(h0, .inr (6, [.ref a, .ref b, .int 0, .ref q34, .null, .null])), (q34, .inl (ca 3, 8, .inr (.inr (.inr (.inr g)))))]) (P) (kX7_init l D ca) ⟨hx, hb, hml, hown, hts⟩ ⟨va_cnB 0 hts (zGI zi_88) rfl rfl rfl (hO.2.2 _ (List.mem_of_getElem? (i := 6) rfl)) (hts _ zi_87) (by decide +kernel) ⟨(Nat.le_of_ble_eq_true rfl), (Nat.le_of_ble_eq_true rfl)⟩, rfl, hts _ zi_89⟩ hO hA hK hP hD hS hl.1 (Nat.le_of_ble_eq_true rfl) dX9_init_57 ⟨(Nat.le_of_ble_eq_true rfl), (Nat.le_of_ble_eq_true rfl)⟩ (fun u H locs hu hP9 hD9 hS9 => ?_)
  clear hP hD hS
  subst hu
  have hP : va_P D vwCl ((h0, .inr (6, [.ref a, .ref b, .int 0, .ref q34, .null, .null])) :: (q34, .inl (ca 3, 8, .inr (.inr (.inr (.inr g))))) :: (u 0 0, .inr (4, [.int 0, .int 0, .int 0, .int 0, .int 0, .ref (u 0 1)])) :: (u 0 1, .inl (ca 0, 100, .inl zZ)) :: P) _ := hP9
  have hD : va_D A ((h0, .inr (6, [.ref a, .ref b, .int 0, .ref q34, .null, .null])) :: (q34, .inl (ca 3, 8, .inr (.inr (.inr (.inr g))))) :: (u 0 0, .inr (4, [.int 0, .int 0, .int 0, .int 0, .int 0, .ref (u 0 1)])) :: (u 0 1, .inl (ca 0, 100, .inl zZ)) :: P) := hD9
  have hS := hS9
  clear hP9 hD9 hS9
  refine W.widen (k := 25) (n := 740) (Nat.le_of_ble_eq_true rfl) (Nat.le_of_ble_eq_true rfl) ?_
  refine va_astq (r := (RX7, TX7, 6)) hx hb hK hP hD hS 1 3 2 4 rfl rfl rfl rfl (zin_ok (by decide)) dX9_init_60 (fun H locs hP hD hS => ?_)
  refine lv_iinc (v := 6) (lv' := [(1, .int 6), (0, .ref h0)]) hx hb dX9_init_61 hl (k := 0) rfl (by decide) (by decide) rfl (fun ls hl => ?_)
  refine lv_goto (tgt := 42) hx hb dX9_init_64 (by decide) ?_
  exact kk u H locs ls hl hP hD hS
set_option maxRecDepth 100000 in
theorem s9_42_6 {a b q34 : Nat} {g : Nat → Option Nat} {P : va_W} (B : zB9 p s m args meth c A D ca) (kk : ∀ u : Nat → Nat → Nat, zC9 p l e s m args below meth c A D Q 42 27 846 [(1, .int 7), (0, .ref h0)] ((h0, .inr (6, [.ref a, .ref b, .int 0, .ref q34, .null, .null])) :: (q34, .inl (ca 3, 8, .inr (.inr (.inr (.inr (va_up g (6 : Int32).toNatClampNeg (some (u 0 0)))))))) :: (wS ca (u 0) ++ P))) : zC9 p l e s m args below meth c A D Q 42 25 740 [(1, .int 6), (0, .ref h0)] ((h0, .inr (6, [.ref a, .ref b, .int 0, .ref q34, .null, .null])) :: (q34, .inl (ca 3, 8, .inr (.inr (.inr (.inr g))))) :: P) := by
  obtain ⟨hx, hb, hml, hown, hts, hA, hK, hO, hin⟩ := B
  intro H locs ls hl hP hD hS
  refine lv_iload_n hx hb dX9_init_42 rfl (lv_at hl 0 rfl) ?_
  refine lv_bipush (v := 8) hx hb dX9_init_43 (by decide) ?_
  refine lv_icmp_ge (tgt := 67) hx hb dX9_init_45 (by decide) (fun c_ => absurd c_ (by decide)) (fun _ => ?_)
  refine lv_aload_n hx hb dX9_init_48 rfl (lv_at hl 1 rfl) ?_
  refine va_get (D := D) (ci := 6) (v := .ref q34) (C := RX9) (T := TX9) (N := 6) hx hb hts zI_X9 hown hK hP 0 rfl rfl 3 (by decide) (hts _ zi_85) (fun _ h9 => h9) rfl dX9_init_49 ?_
  refine lv_iload_n hx hb dX9_init_52 rfl (lv_at hl 0 rfl) ?_
  refine zn_new ([(h0, .inr (6, [.ref a, .ref b, .int 0, .ref q34, .null, .null])), (q34, .inl (ca 3, 8, .inr (.inr (.inr (.inr g)))))]) (P) (C := RX7) (T := TX7) (N := 6) (ci := 4) (fs := [.int 0, .int 0, .int 0, .int 0, .int 0, .null]) hx hb hts zI_X7 tyX7 tyX7_ok hown zi_84 zi_86 zi_87 hK hP hD hS hA rfl zdf_X7 (Nat.le_of_ble_eq_true rfl) (Nat.le_of_ble_eq_true rfl) dX9_init_53 (fun q H hP hD hS => ?_)
  refine W.widen (k := 26) (n := 746) (Nat.le_of_ble_eq_true rfl) (Nat.le_of_ble_eq_true rfl) ?_
  refine lv_dup hx hb dX9_init_56 rfl ?_
  refine zn_initN ([(h0, .inr (6, [.ref a, .ref b, .int 0, .ref q34, .null, .null])), (q34, .inl (ca 3, 8, .inr (.inr (.inr (.inr g)))))]) (P) (kX7_init l D ca) ⟨hx, hb, hml, hown, hts⟩ ⟨va_cnB 0 hts (zGI zi_88) rfl rfl rfl (hO.2.2 _ (List.mem_of_getElem? (i := 6) rfl)) (hts _ zi_87) (by decide +kernel) ⟨(Nat.le_of_ble_eq_true rfl), (Nat.le_of_ble_eq_true rfl)⟩, rfl, hts _ zi_89⟩ hO hA hK hP hD hS hl.1 (Nat.le_of_ble_eq_true rfl) dX9_init_57 ⟨(Nat.le_of_ble_eq_true rfl), (Nat.le_of_ble_eq_true rfl)⟩ (fun u H locs hu hP9 hD9 hS9 => ?_)
  clear hP hD hS
  subst hu
  have hP : va_P D vwCl ((h0, .inr (6, [.ref a, .ref b, .int 0, .ref q34, .null, .null])) :: (q34, .inl (ca 3, 8, .inr (.inr (.inr (.inr g))))) :: (u 0 0, .inr (4, [.int 0, .int 0, .int 0, .int 0, .int 0, .ref (u 0 1)])) :: (u 0 1, .inl (ca 0, 100, .inl zZ)) :: P) _ := hP9
  have hD : va_D A ((h0, .inr (6, [.ref a, .ref b, .int 0, .ref q34, .null, .null])) :: (q34, .inl (ca 3, 8, .inr (.inr (.inr (.inr g))))) :: (u 0 0, .inr (4, [.int 0, .int 0, .int 0, .int 0, .int 0, .ref (u 0 1)])) :: (u 0 1, .inl (ca 0, 100, .inl zZ)) :: P) := hD9
  have hS := hS9
  clear hP9 hD9 hS9
  refine W.widen (k := 27) (n := 846) (Nat.le_of_ble_eq_true rfl) (Nat.le_of_ble_eq_true rfl) ?_
  refine va_astq (r := (RX7, TX7, 6)) hx hb hK hP hD hS 1 3 2 4 rfl rfl rfl rfl (zin_ok (by decide)) dX9_init_60 (fun H locs hP hD hS => ?_)
  refine lv_iinc (v := 7) (lv' := [(1, .int 7), (0, .ref h0)]) hx hb dX9_init_61 hl (k := 0) rfl (by decide) (by decide) rfl (fun ls hl => ?_)
  refine lv_goto (tgt := 42) hx hb dX9_init_64 (by decide) ?_
  exact kk u H locs ls hl hP hD hS
set_option maxRecDepth 100000 in
theorem s9_42_7 {a b q34 : Nat} {g : Nat → Option Nat} {P : va_W} (B : zB9 p s m args meth c A D ca) (kk : ∀ u : Nat → Nat → Nat, zC9 p l e s m args below meth c A D Q 42 29 952 [(1, .int 8), (0, .ref h0)] ((h0, .inr (6, [.ref a, .ref b, .int 0, .ref q34, .null, .null])) :: (q34, .inl (ca 3, 8, .inr (.inr (.inr (.inr (va_up g (7 : Int32).toNatClampNeg (some (u 0 0)))))))) :: (wS ca (u 0) ++ P))) : zC9 p l e s m args below meth c A D Q 42 27 846 [(1, .int 7), (0, .ref h0)] ((h0, .inr (6, [.ref a, .ref b, .int 0, .ref q34, .null, .null])) :: (q34, .inl (ca 3, 8, .inr (.inr (.inr (.inr g))))) :: P) := by
  obtain ⟨hx, hb, hml, hown, hts, hA, hK, hO, hin⟩ := B
  intro H locs ls hl hP hD hS
  refine lv_iload_n hx hb dX9_init_42 rfl (lv_at hl 0 rfl) ?_
  refine lv_bipush (v := 8) hx hb dX9_init_43 (by decide) ?_
  refine lv_icmp_ge (tgt := 67) hx hb dX9_init_45 (by decide) (fun c_ => absurd c_ (by decide)) (fun _ => ?_)
  refine lv_aload_n hx hb dX9_init_48 rfl (lv_at hl 1 rfl) ?_
  refine va_get (D := D) (ci := 6) (v := .ref q34) (C := RX9) (T := TX9) (N := 6) hx hb hts zI_X9 hown hK hP 0 rfl rfl 3 (by decide) (hts _ zi_85) (fun _ h9 => h9) rfl dX9_init_49 ?_
  refine lv_iload_n hx hb dX9_init_52 rfl (lv_at hl 0 rfl) ?_
  refine zn_new ([(h0, .inr (6, [.ref a, .ref b, .int 0, .ref q34, .null, .null])), (q34, .inl (ca 3, 8, .inr (.inr (.inr (.inr g)))))]) (P) (C := RX7) (T := TX7) (N := 6) (ci := 4) (fs := [.int 0, .int 0, .int 0, .int 0, .int 0, .null]) hx hb hts zI_X7 tyX7 tyX7_ok hown zi_84 zi_86 zi_87 hK hP hD hS hA rfl zdf_X7 (Nat.le_of_ble_eq_true rfl) (Nat.le_of_ble_eq_true rfl) dX9_init_53 (fun q H hP hD hS => ?_)
  refine W.widen (k := 28) (n := 852) (Nat.le_of_ble_eq_true rfl) (Nat.le_of_ble_eq_true rfl) ?_
  refine lv_dup hx hb dX9_init_56 rfl ?_
  refine zn_initN ([(h0, .inr (6, [.ref a, .ref b, .int 0, .ref q34, .null, .null])), (q34, .inl (ca 3, 8, .inr (.inr (.inr (.inr g)))))]) (P) (kX7_init l D ca) ⟨hx, hb, hml, hown, hts⟩ ⟨va_cnB 0 hts (zGI zi_88) rfl rfl rfl (hO.2.2 _ (List.mem_of_getElem? (i := 6) rfl)) (hts _ zi_87) (by decide +kernel) ⟨(Nat.le_of_ble_eq_true rfl), (Nat.le_of_ble_eq_true rfl)⟩, rfl, hts _ zi_89⟩ hO hA hK hP hD hS hl.1 (Nat.le_of_ble_eq_true rfl) dX9_init_57 ⟨(Nat.le_of_ble_eq_true rfl), (Nat.le_of_ble_eq_true rfl)⟩ (fun u H locs hu hP9 hD9 hS9 => ?_)
  clear hP hD hS
  subst hu
  have hP : va_P D vwCl ((h0, .inr (6, [.ref a, .ref b, .int 0, .ref q34, .null, .null])) :: (q34, .inl (ca 3, 8, .inr (.inr (.inr (.inr g))))) :: (u 0 0, .inr (4, [.int 0, .int 0, .int 0, .int 0, .int 0, .ref (u 0 1)])) :: (u 0 1, .inl (ca 0, 100, .inl zZ)) :: P) _ := hP9
  have hD : va_D A ((h0, .inr (6, [.ref a, .ref b, .int 0, .ref q34, .null, .null])) :: (q34, .inl (ca 3, 8, .inr (.inr (.inr (.inr g))))) :: (u 0 0, .inr (4, [.int 0, .int 0, .int 0, .int 0, .int 0, .ref (u 0 1)])) :: (u 0 1, .inl (ca 0, 100, .inl zZ)) :: P) := hD9
  have hS := hS9
  clear hP9 hD9 hS9
  refine W.widen (k := 29) (n := 952) (Nat.le_of_ble_eq_true rfl) (Nat.le_of_ble_eq_true rfl) ?_
  refine va_astq (r := (RX7, TX7, 6)) hx hb hK hP hD hS 1 3 2 4 rfl rfl rfl rfl (zin_ok (by decide)) dX9_init_60 (fun H locs hP hD hS => ?_)
  refine lv_iinc (v := 8) (lv' := [(1, .int 8), (0, .ref h0)]) hx hb dX9_init_61 hl (k := 0) rfl (by decide) (by decide) rfl (fun ls hl => ?_)
  refine lv_goto (tgt := 42) hx hb dX9_init_64 (by decide) ?_
  exact kk u H locs ls hl hP hD hS
set_option maxRecDepth 100000 in
theorem s9_42_8  {P : va_W} (B : zB9 p s m args meth c A D ca) (kk : zC9 p l e s m args below meth c A D Q 67 29 952 [(1, .int 8), (0, .ref h0)] P) : zC9 p l e s m args below meth c A D Q 42 29 952 [(1, .int 8), (0, .ref h0)] (P) := by
  obtain ⟨hx, hb, hml, hown, hts, hA, hK, hO, hin⟩ := B
  intro H locs ls hl hP hD hS
  refine lv_iload_n hx hb dX9_init_42 rfl (lv_at hl 0 rfl) ?_
  refine lv_bipush (v := 8) hx hb dX9_init_43 (by decide) ?_
  refine lv_icmp_ge (tgt := 67) hx hb dX9_init_45 (by decide) (fun _ => ?_) (fun c_ => absurd (by decide) c_)
  exact kk H locs ls hl hP hD hS
set_option maxRecDepth 100000 in
theorem s9_67 {a b q34 : Nat} {g : Nat → Option Nat} {P : va_W} (B : zB9 p s m args meth c A D ca) (kk : ∀ u : Nat → Nat → Nat, zC9 p l e s m args below meth c A D Q 78 54 1170 [(1, .int 8), (0, .ref h0)] ((h0, .inr (6, [.ref a, .ref b, .int 0, .ref q34, .ref (u 0 0), .null])) :: (q34, .inl (ca 3, 8, .inr (.inr (.inr (.inr g))))) :: (wN ca (u 0) (u 1) (u 2) (u 9 0) ++ P))) : zC9 p l e s m args below meth c A D Q 67 29 952 [(1, .int 8), (0, .ref h0)] ((h0, .inr (6, [.ref a, .ref b, .int 0, .ref q34, .null, .null])) :: (q34, .inl (ca 3, 8, .inr (.inr (.inr (.inr g))))) :: P) := by
  obtain ⟨hx, hb, hml, hown, hts, hA, hK, hO, hin⟩ := B
  intro H locs ls hl hP hD hS
  refine lv_aload_n hx hb dX9_init_67 rfl (lv_at hl 1 rfl) ?_
  refine zn_new ([(h0, .inr (6, [.ref a, .ref b, .int 0, .ref q34, .null, .null])), (q34, .inl (ca 3, 8, .inr (.inr (.inr (.inr g)))))]) (P) (C := RX3) (T := TX3) (N := 15) (ci := 2) (fs := [.null, .null, .null, .null, .null, .null, .null, .null, .null, .null, .null, .null, .null, .int 0, .int 0]) hx hb hts zI_X3 tyX3 tyX3_ok hown zi_90 zi_65 zi_66 hK hP hD hS hA rfl zdf_X3 (Nat.le_of_ble_eq_true rfl) (Nat.le_of_ble_eq_true rfl) dX9_init_68 (fun q H hP hD hS => ?_)
  refine W.widen (k := 30) (n := 967) (Nat.le_of_ble_eq_true rfl) (Nat.le_of_ble_eq_true rfl) ?_
  refine lv_dup hx hb dX9_init_71 rfl ?_
  refine zn_initN ([(h0, .inr (6, [.ref a, .ref b, .int 0, .ref q34, .null, .null])), (q34, .inl (ca 3, 8, .inr (.inr (.inr (.inr g)))))]) (P) (kX3_init l D ca) ⟨hx, hb, hml, hown, hts⟩ ⟨va_cnB 0 hts (zGI zi_67) rfl rfl rfl (hO.2.2 _ (List.mem_of_getElem? (i := 7) rfl)) (hts _ zi_66) (by decide +kernel) ⟨(Nat.le_of_ble_eq_true rfl), (Nat.le_of_ble_eq_true rfl)⟩, rfl, hts _ zi_68⟩ hO hA hK hP hD hS hl.1 (Nat.le_of_ble_eq_true rfl) dX9_init_72 ⟨(Nat.le_of_ble_eq_true rfl), (Nat.le_of_ble_eq_true rfl)⟩ (fun u H locs hu hP9 hD9 hS9 => ?_)
  clear hP hD hS
  subst hu
  have hP : va_P D vwCl ((h0, .inr (6, [.ref a, .ref b, .int 0, .ref q34, .null, .null])) :: (q34, .inl (ca 3, 8, .inr (.inr (.inr (.inr g))))) :: (wN ca (u 0) (u 1) (u 2) (u 9 0) ++ P)) _ := hP9
  have hD : va_D A ((h0, .inr (6, [.ref a, .ref b, .int 0, .ref q34, .null, .null])) :: (q34, .inl (ca 3, 8, .inr (.inr (.inr (.inr g))))) :: (wN ca (u 0) (u 1) (u 2) (u 9 0) ++ P)) := hD9
  have hS := hS9
  clear hP9 hD9 hS9
  refine W.widen (k := 54) (n := 1170) (Nat.le_of_ble_eq_true rfl) (Nat.le_of_ble_eq_true rfl) ?_
  refine zn_put (C := RX9) (T := TX9) (N := 6) (ci := 6) (v := .ref (u 0 0)) (ref := "CoatsOnTheBed") true hx hb hts zI_X9 tyX9 tyX9_ok nmX9 hown hK hP hD hS rfl 4 (by decide) zi_91 (fun _ h9 => h9) rfl hin rfl rfl rfl (Nat.le_of_ble_eq_true rfl) dX9_init_75 (fun H locs hP hD hS => ?_)
  exact kk u H locs ls hl hP hD hS
set_option maxRecDepth 100000 in
theorem s9_78 {a b q34 d : Nat} {g : Nat → Option Nat} {P : va_W} (B : zB9 p s m args meth c A D ca) (kk : ∀ u : Nat → Nat → Nat, zC9 p l e s m args below meth c A D Q 89 89 1475 [(1, .int 8), (0, .ref h0)] ((h0, .inr (6, [.ref a, .ref b, .int 0, .ref q34, .ref d, .ref (u 0 0)])) :: (q34, .inl (ca 3, 8, .inr (.inr (.inr (.inr g))))) :: (wQ ca (u 0) (u 1) (u 2) (u 3) (u 4) (u 9 0) ++ P))) : zC9 p l e s m args below meth c A D Q 78 54 1170 [(1, .int 8), (0, .ref h0)] ((h0, .inr (6, [.ref a, .ref b, .int 0, .ref q34, .ref d, .null])) :: (q34, .inl (ca 3, 8, .inr (.inr (.inr (.inr g))))) :: P) := by
  obtain ⟨hx, hb, hml, hown, hts, hA, hK, hO, hin⟩ := B
  intro H locs ls hl hP hD hS
  refine lv_aload_n hx hb dX9_init_78 rfl (lv_at hl 1 rfl) ?_
  refine zn_new ([(h0, .inr (6, [.ref a, .ref b, .int 0, .ref q34, .ref d, .null])), (q34, .inl (ca 3, 8, .inr (.inr (.inr (.inr g)))))]) (P) (C := RX8) (T := TX8) (N := 11) (ci := 5) (fs := [.null, .null, .null, .null, .null, .int 0, .int 0, .int 0, .int 0, .int 0, .int 0]) hx hb hts zI_X8 tyX8 tyX8_ok hown zi_92 zi_93 zi_94 hK hP hD hS hA rfl zdf_X8 (Nat.le_of_ble_eq_true rfl) (Nat.le_of_ble_eq_true rfl) dX9_init_79 (fun q H hP hD hS => ?_)
  refine W.widen (k := 55) (n := 1181) (Nat.le_of_ble_eq_true rfl) (Nat.le_of_ble_eq_true rfl) ?_
  refine lv_dup hx hb dX9_init_82 rfl ?_
  refine zn_initN ([(h0, .inr (6, [.ref a, .ref b, .int 0, .ref q34, .ref d, .null])), (q34, .inl (ca 3, 8, .inr (.inr (.inr (.inr g)))))]) (P) (kX8_init l D ca) ⟨hx, hb, hml, hown, hts⟩ ⟨va_cnB 0 hts (zGI zi_95) rfl rfl rfl (hO.2.2 _ (List.mem_of_getElem? (i := 8) rfl)) (hts _ zi_94) (by decide +kernel) ⟨(Nat.le_of_ble_eq_true rfl), (Nat.le_of_ble_eq_true rfl)⟩, rfl, hts _ zi_96⟩ hO hA hK hP hD hS hl.1 (Nat.le_of_ble_eq_true rfl) dX9_init_83 ⟨(Nat.le_of_ble_eq_true rfl), (Nat.le_of_ble_eq_true rfl)⟩ (fun u H locs hu hP9 hD9 hS9 => ?_)
  clear hP hD hS
  subst hu
  have hP : va_P D vwCl ((h0, .inr (6, [.ref a, .ref b, .int 0, .ref q34, .ref d, .null])) :: (q34, .inl (ca 3, 8, .inr (.inr (.inr (.inr g))))) :: (wQ ca (u 0) (u 1) (u 2) (u 3) (u 4) (u 9 0) ++ P)) _ := hP9
  have hD : va_D A ((h0, .inr (6, [.ref a, .ref b, .int 0, .ref q34, .ref d, .null])) :: (q34, .inl (ca 3, 8, .inr (.inr (.inr (.inr g))))) :: (wQ ca (u 0) (u 1) (u 2) (u 3) (u 4) (u 9 0) ++ P)) := hD9
  have hS := hS9
  clear hP9 hD9 hS9
  refine W.widen (k := 89) (n := 1475) (Nat.le_of_ble_eq_true rfl) (Nat.le_of_ble_eq_true rfl) ?_
  refine zn_put (C := RX9) (T := TX9) (N := 6) (ci := 6) (v := .ref (u 0 0)) (ref := "CoatsOnTheBed") true hx hb hts zI_X9 tyX9 tyX9_ok nmX9 hown hK hP hD hS rfl 5 (by decide) zi_97 (fun _ h9 => h9) rfl hin rfl rfl rfl (Nat.le_of_ble_eq_true rfl) dX9_init_86 (fun H locs hP hD hS => ?_)
  exact kk u H locs ls hl hP hD hS
end
set_option maxHeartbeats 4000000 in
set_option maxRecDepth 100000 in
theorem zend9a (ca : Nat → ClassId) (us0 us1 us2 us3 us4 us5 us6 us7 : Nat → Nat → Nat) (Z : va_W) : wS ca (us0 0) ++ (wS ca (us1 0) ++ (wS ca (us2 0) ++ (wS ca (us3 0) ++ (wS ca (us4 0) ++ (wS ca (us5 0) ++ (wS ca (us6 0) ++ (wS ca (us7 0) ++ Z))))))) = (cSh ca (zlk [us0 0 0, us0 0 1, us1 0 0, us1 0 1, us2 0 0, us2 0 1, us3 0 0, us3 0 1, us4 0 0, us4 0 1, us5 0 0, us5 0 1, us6 0 0, us6 0 1, us7 0 0, us7 0 1]) zZ zZ zZ zZ zZ (fun _ => zZ)) ++ Z := rfl
set_option maxHeartbeats 4000000 in
set_option maxRecDepth 100000 in
theorem zend9b (ca : Nat → ClassId) (h0 q34 : Nat) (ud up un uq us0 us1 us2 us3 us4 us5 us6 us7 : Nat → Nat → Nat) (Z : va_W) : ((h0, .inr (6, [.ref (ud 0 0), .ref (up 0 0), .int 0, .ref q34, .ref (un 0 0), .ref (uq 0 0)])) :: (q34, .inl (ca 3, 8, .inr (.inr (.inr (.inr (fun k => some ((zlk [us0 0 0, us0 0 1, us1 0 0, us1 0 1, us2 0 0, us2 0 1, us3 0 0, us3 0 1, us4 0 0, us4 0 1, us5 0 0, us5 0 1, us6 0 0, us6 0 1, us7 0 0, us7 0 1]) (2 * k)))))))) :: ((cSh ca (zlk [us0 0 0, us0 0 1, us1 0 0, us1 0 1, us2 0 0, us2 0 1, us3 0 0, us3 0 1, us4 0 0, us4 0 1, us5 0 0, us5 0 1, us6 0 0, us6 0 1, us7 0 0, us7 0 1]) zZ zZ zZ zZ zZ (fun _ => zZ)) ++ Z) : va_W) = uL_x ca (zlk [us0 0 0, us0 0 1, us1 0 0, us1 0 1, us2 0 0, us2 0 1, us3 0 0, us3 0 1, us4 0 0, us4 0 1, us5 0 0, us5 0 1, us6 0 0, us6 0 1, us7 0 0, us7 0 1]) (zlk [h0, q34]) (ud 0) (up 0) (un 0) (uq 0) 0 ++ ((cSh ca (zlk [us0 0 0, us0 0 1, us1 0 0, us1 0 1, us2 0 0, us2 0 1, us3 0 0, us3 0 1, us4 0 0, us4 0 1, us5 0 0, us5 0 1, us6 0 0, us6 0 1, us7 0 0, us7 0 1]) zZ zZ zZ zZ zZ (fun _ => zZ)) ++ Z) := rfl
set_option maxHeartbeats 4000000 in
set_option maxRecDepth 100000 in
theorem zend9 (ca : Nat → ClassId) (h0 q34 : Nat) (ud up un uq us0 us1 us2 us3 us4 us5 us6 us7 : Nat → Nat → Nat) : ((h0, .inr (6, [.ref (ud 0 0), .ref (up 0 0), .int 0, .ref q34, .ref (un 0 0), .ref (uq 0 0)])) :: (q34, .inl (ca 3, 8, .inr (.inr (.inr (.inr (fun k => some ((zlk [us0 0 0, us0 0 1, us1 0 0, us1 0 1, us2 0 0, us2 0 1, us3 0 0, us3 0 1, us4 0 0, us4 0 1, us5 0 0, us5 0 1, us6 0 0, us6 0 1, us7 0 0, us7 0 1]) (2 * k)))))))) :: (wS ca (us0 0) ++ (wS ca (us1 0) ++ (wS ca (us2 0) ++ (wS ca (us3 0) ++ (wS ca (us4 0) ++ (wS ca (us5 0) ++ (wS ca (us6 0) ++ (wS ca (us7 0) ++ (wQ ca (uq 0) (uq 1) (uq 2) (uq 3) (uq 4) (uq 9 0) ++ (wN ca (un 0) (un 1) (un 2) (un 9 0) ++ (wR ca (up 0) ++ (wR ca (ud 0) ++ [])))))))))))) : va_W) = wX ca (zlk [h0, q34]) (ud 0) (up 0) (zlk [us0 0 0, us0 0 1, us1 0 0, us1 0 1, us2 0 0, us2 0 1, us3 0 0, us3 0 1, us4 0 0, us4 0 1, us5 0 0, us5 0 1, us6 0 0, us6 0 1, us7 0 0, us7 0 1]) (un 0) (un 1) (un 2) (uq 0) (uq 1) (uq 2) (uq 3) (uq 4) (un 9 0) (uq 9 0) := by
  rw [zend9a ca us0 us1 us2 us3 us4 us5 us6 us7, zend9b ca h0 q34 ud up un uq us0 us1 us2 us3 us4 us5 us6 us7]
  rfl
set_option maxHeartbeats 4000000 in
set_option maxRecDepth 100000 in
theorem kX9_init (l : Launch) (D : va_G) (ca : Nat → ClassId) : zMI l D ca yX9_init (.code yX9_init cX9_init 2 none :: zI) roi_X9 6 [.null, .null, .int 0, .null, .null, .null] (fun u => wX ca (u 0) (u 1) (u 2) (u 3) (u 4) (u 5) (u 6) (u 7) (u 8) (u 9) (u 10) (u 11) (u 12 0) (u 12 1)) 89 1475 := by
  refine zMI_of (cc := cX9_init) (maxL := 2) (by decide) rfl (by decide) rfl ?_
  rintro p e s m args below meth c A Q ls h0 ⟨hx, hb, hml, hown, hts, hA, hK, hO, hS, hin⟩ hend hP hD hl
  have hown : s.vm.findClass RX9 = some m.cls := hown
  have hts : ∀ w ∈ zI, w.before args s = true := fun w h => hts w (List.mem_cons_of_mem _ h)
  have B : zB9 p s m args meth c A D ca := ⟨hx, hb, hml, hown, hts, hA, hK, hO, hin⟩
  refine lv_aload_n hx hb dX9_init_0 rfl (lv_at hl 0 rfl) ?_
  refine W.objInit hx hb hown (hts _ zi_79) (hts _ zi_1) (hts _ zi_2) rfl (by rw [hml]; exact hl.1) rfl dX9_init_1 (Nat.le_of_ble_eq_true rfl) (Nat.le_of_ble_eq_true rfl) ?_
  refine W.eq (g2 := F0 m 4 ls []) rfl ?_
  suffices hC : zC9 p l e s m args below meth c A D Q 4 0 0 [(0, .ref h0)] [(h0, .inr (6, [.null, .null, .int 0, .null, .null, .null]))] from hC _ _ _ hl hP hD hS
  clear hP hD hS
  refine s9_4 B (fun ud => ?_)
  refine s9_15 B (fun up => ?_)
  refine s9_26 B (fun q34 => ?_)
  refine s9_42_0 B (fun us0 => ?_)
  refine s9_42_1 B (fun us1 => ?_)
  refine s9_42_2 B (fun us2 => ?_)
  refine s9_42_3 B (fun us3 => ?_)
  refine s9_42_4 B (fun us4 => ?_)
  refine s9_42_5 B (fun us5 => ?_)
  refine s9_42_6 B (fun us6 => ?_)
  refine s9_42_7 B (fun us7 => ?_)
  refine s9_42_8 B ?_
  refine s9_67 B (fun un => ?_)
  refine s9_78 B (fun uq => ?_)
  intro H locs ls hl hP hD hS
  have hP := zP_perm (zperm9 _ _ _ _ _ _ _ _ _ _ _ _ _) hP
  have hD := zD_perm (zperm9 _ _ _ _ _ _ _ _ _ _ _ _ _) hD
  have hP := zP_ref1 (g := fun k => some ((zlk [us0 0 0, us0 0 1, us1 0 0, us1 0 1, us2 0 0, us2 0 1, us3 0 0, us3 0 1, us4 0 0, us4 0 1, us5 0 0, us5 0 1, us6 0 0, us6 0 1, us7 0 0, us7 0 1]) (2 * k))) (fun k hk => by rcases (show k = 0 ∨ k = 1 ∨ k = 2 ∨ k = 3 ∨ k = 4 ∨ k = 5 ∨ k = 6 ∨ k = 7 by omega) with rfl | rfl | rfl | rfl | rfl | rfl | rfl | rfl <;> rfl) hP
  have hD := zD_ref1 (e' := .inl (ca 3, 8, .inr (.inr (.inr (.inr (fun k => some ((zlk [us0 0 0, us0 0 1, us1 0 0, us1 0 1, us2 0 0, us2 0 1, us3 0 0, us3 0 1, us4 0 0, us4 0 1, us5 0 0, us5 0 1, us6 0 0, us6 0 1, us7 0 0, us7 0 1]) (2 * k)))))))) hD
  rw [zend9 ca h0 q34 ud up un uq us0 us1 us2 us3 us4 us5 us6 us7] at hP hD
  exact hend H locs 89 ls (fun p => match p with | 0 => (zlk [h0, q34]) | 1 => ud 0 | 2 => up 0 | 3 => (zlk [us0 0 0, us0 0 1, us1 0 0, us1 0 1, us2 0 0, us2 0 1, us3 0 0, us3 0 1, us4 0 0, us4 0 1, us5 0 0, us5 0 1, us6 0 0, us6 0 1, us7 0 0, us7 0 1]) | 4 => un 0 | 5 => un 1 | 6 => un 2 | 7 => uq 0 | 8 => uq 1 | 9 => uq 2 | 10 => uq 3 | 11 => uq 4 | 12 => zlk [un 9 0, uq 9 0] | _ => fun _ => 0) rfl hP hD hS dX9_init_89
