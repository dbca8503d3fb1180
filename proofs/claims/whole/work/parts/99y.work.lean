abbrev roi_X9 : Room := { frames := 6, cells := 89, slots := 1475, locals := 160 }
def zlk : List Nat → Nat → Nat
  | [], _ => 0
  | a :: _, 0 => a
  | _ :: l, k + 1 => zlk l k
theorem zD_ref1 {A : Nat → Prop} {x : Nat × va_E} {a : Nat} {e e' : va_E} {R : va_W} (h : va_D A (x :: (a, e) :: R)) : va_D A (x :: (a, e') :: R) := zD_addr (ws := x :: (a, e) :: R) rfl h
theorem zperm9 {α : Type} (x y : α) (Q N S0 S1 S2 S3 S4 S5 S6 S7 T : List α) : (x :: y :: (Q ++ (N ++ (S7 ++ (S6 ++ (S5 ++ (S4 ++ (S3 ++ (S2 ++ (S1 ++ (S0 ++ T))))))))))).Perm (x :: y :: (S0 ++ (S1 ++ (S2 ++ (S3 ++ (S4 ++ (S5 ++ (S6 ++ (S7 ++ (Q ++ (N ++ T))))))))))) := by
  refine List.Perm.cons x (List.Perm.cons y ?_)
  letI : DecidableEq α := fun a b => Classical.propDecidable (a = b)
  exact List.perm_iff_count.mpr (fun a => by simp only [List.count_append]; omega)
def zB9 (p : Program) (s : State) (m : MethodId) (args : Array Value) (meth : Method) (c : Code) (A : Nat → Prop) (D : va_G) (ca : Nat → ClassId) : Prop := p.tables.exec = Jvm.exec ∧ c.code = cX9_init ∧ c.maxLocals = 2 ∧ s.vm.findClass RX9 = some m.cls ∧ (∀ w ∈ zI, w.before args s = true) ∧ (∀ q, s.heap.size ≤ q → A q) ∧ va_K D vwCl (zT ca) s ∧ zAO s ∧ meth.name = "<init>"
def zC9 (p : Program) (l : Launch) (e : Env) (s : State) (m : MethodId) (args : Array Value) (below : List Frame) (meth : Method) (c : Code) (A : Nat → Prop) (D : va_G) (Q : State → Prop) (pc cells slots : Nat) (lv : List (Nat × Value)) (w : va_W) : Prop := ∀ (H : Heap) (locs : List Loc) (ls : Array Slot), lv_has ls 2 lv → va_P D vwCl w H → va_D A w → va_S A s.heap H locs → W p l e roi_X9 s m args below meth c H locs cells slots Q (F0 m pc ls [])
section
variable {p : Program} {l : Launch} {e : Env} {s : State} {m : MethodId} {args : Array Value} {below : List Frame} {meth : Method} {c : Code} {A : Nat → Prop} {D : va_G} {ca : Nat → ClassId} {Q : State → Prop} {h0 : Nat}
set_option maxRecDepth 100000 in
theorem s9_4  {P : va_W} (B : zB9 p s m args meth c A D ca) (kk : ∀ u : Nat → Nat → Nat, zC9 p l e s m args below meth c A D Q 15 6 48 [(0, .ref h0)] ((h0, .inr (6, [.ref (u 0 0), .null, .int 0, .null, .null, .null])) :: (wR ca (u 0) ++ P))) : zC9 p l e s m args below meth c A D Q 4 0 0 [(0, .ref h0)] ((h0, .inr (6, [.null, .null, .int 0, .null, .null, .null])) :: P) := by
  obtain ⟨hx, hb, hml, hown, hts, hA, hK, hO, hin⟩ := B
  intro H locs ls hl hP hD hS
  refine lv_aload_n hx hb dX9_init_4 rfl (lv_at hl 0 rfl) ?_
  refine zn_new ([(h0, .inr (6, [.null, .null, .int 0, .null, .null, .null]))]) (P) (C := RX5) (T := TX5) (N := 8) (ci := 3) (fs := [.int 0, .null, .null, .null, .null, .int 0, .null, .int 0]) hx hb hts zI_X5 tyX5 tyX5_ok hown zi_80 zi_33 zi_34 hK hP hD hS hA rfl zdf_X5 (Nat.le_of_ble_eq_true rfl) (Nat.le_of_ble_eq_true rfl) dX9_init_5 (fun q H hP hD hS => ?_)
  refine W.widen (k := 1) (n := 8) (Nat.le_of_ble_eq_true rfl) (Nat.le_of_ble_eq_true rfl) ?_
  refine lv_dup hx hb dX9_init_8 rfl ?_
  refine zn_initN ([(h0, .inr (6, [.null, .null, .int 0, .null, .null, .null]))]) (P) (kX5_init l D ca) ⟨hx, hb, hml, hown, hts⟩ ⟨va_cnB 0 hts (zGI zi_35) rfl rfl rfl (hO.2.2 _ (List.mem_of_getElem? (i := 5) rfl)) (hts _ zi_34) (by decide +kernel) ⟨(Nat.le_of_ble_eq_true rfl), (Nat.le_of_ble_eq_true rfl)⟩, rfl, hts _ zi_36⟩ hO hA hK hP hD hS hl.1 (Nat.le_of_ble_eq_true rfl) dX9_init_9 ⟨(Nat.le_of_ble_eq_true rfl), (Nat.le_of_ble_eq_true rfl)⟩ (fun u H locs hu hP9 hD9 hS9 => ?_)
  clear hP hD hS
  subst hu
  have hP : va_P D vwCl ((h0, .inr (6, [.null, .null, .int 0, .null, .null, .null])) :: (wR ca (u 0) ++ P)) _ := hP9
  have hD : va_D A ((h0, .inr (6, [.null, .null, .int 0, .null, .null, .null])) :: (wR ca (u 0) ++ P)) := hD9
  have hS := hS9
  clear hP9 hD9 hS9
  refine W.widen (k := 6) (n := 48) (Nat.le_of_ble_eq_true rfl) (Nat.le_of_ble_eq_true rfl) ?_
  refine zn_put (C := RX9) (T := TX9) (N := 6) (ci := 6) (v := .ref (u 0 0)) (ref := "CoatsOnTheBed") true hx hb hts zI_X9 tyX9 tyX9_ok nmX9 hown hK hP hD hS rfl 0 (by decide) zi_81 (fun _ h9 => h9) rfl hin rfl rfl rfl (Nat.le_of_ble_eq_true rfl) dX9_init_12 (fun H locs hP hD hS => ?_)
  exact kk u H locs ls hl hP hD hS
set_option maxRecDepth 100000 in
theorem s9_15 {a : Nat} {P : va_W} (B : zB9 p s m args meth c A D ca) (kk : ∀ u : Nat → Nat → Nat, zC9 p l e s m args below meth c A D Q 26 12 96 [(0, .ref h0)] ((h0, .inr (6, [.ref a, .ref (u 0 0), .int 0, .null, .null, .null])) :: (wR ca (u 0) ++ P))) : zC9 p l e s m args below meth c A D Q 15 6 48 [(0, .ref h0)] ((h0, .inr (6, [.ref a, .null, .int 0, .null, .null, .null])) :: P) := by
  obtain ⟨hx, hb, hml, hown, hts, hA, hK, hO, hin⟩ := B
  intro H locs ls hl hP hD hS
  refine lv_aload_n hx hb dX9_init_15 rfl (lv_at hl 0 rfl) ?_
  refine zn_new ([(h0, .inr (6, [.ref a, .null, .int 0, .null, .null, .null]))]) (P) (C := RX5) (T := TX5) (N := 8) (ci := 3) (fs := [.int 0, .null, .null, .null, .null, .int 0, .null, .int 0]) hx hb hts zI_X5 tyX5 tyX5_ok hown zi_80 zi_33 zi_34 hK hP hD hS hA rfl zdf_X5 (Nat.le_of_ble_eq_true rfl) (Nat.le_of_ble_eq_true rfl) dX9_init_16 (fun q H hP hD hS => ?_)
  refine W.widen (k := 7) (n := 56) (Nat.le_of_ble_eq_true rfl) (Nat.le_of_ble_eq_true rfl) ?_
  refine lv_dup hx hb dX9_init_19 rfl ?_
  refine zn_initN ([(h0, .inr (6, [.ref a, .null, .int 0, .null, .null, .null]))]) (P) (kX5_init l D ca) ⟨hx, hb, hml, hown, hts⟩ ⟨va_cnB 0 hts (zGI zi_35) rfl rfl rfl (hO.2.2 _ (List.mem_of_getElem? (i := 5) rfl)) (hts _ zi_34) (by decide +kernel) ⟨(Nat.le_of_ble_eq_true rfl), (Nat.le_of_ble_eq_true rfl)⟩, rfl, hts _ zi_36⟩ hO hA hK hP hD hS hl.1 (Nat.le_of_ble_eq_true rfl) dX9_init_20 ⟨(Nat.le_of_ble_eq_true rfl), (Nat.le_of_ble_eq_true rfl)⟩ (fun u H locs hu hP9 hD9 hS9 => ?_)
  clear hP hD hS
  subst hu
  have hP : va_P D vwCl ((h0, .inr (6, [.ref a, .null, .int 0, .null, .null, .null])) :: (wR ca (u 0) ++ P)) _ := hP9
  have hD : va_D A ((h0, .inr (6, [.ref a, .null, .int 0, .null, .null, .null])) :: (wR ca (u 0) ++ P)) := hD9
  have hS := hS9
  clear hP9 hD9 hS9
  refine W.widen (k := 12) (n := 96) (Nat.le_of_ble_eq_true rfl) (Nat.le_of_ble_eq_true rfl) ?_
  refine zn_put (C := RX9) (T := TX9) (N := 6) (ci := 6) (v := .ref (u 0 0)) (ref := "CoatsOnTheBed") true hx hb hts zI_X9 tyX9 tyX9_ok nmX9 hown hK hP hD hS rfl 1 (by decide) zi_82 (fun _ h9 => h9) rfl hin rfl rfl rfl (Nat.le_of_ble_eq_true rfl) dX9_init_23 (fun H locs hP hD hS => ?_)
  exact kk u H locs ls hl hP hD hS
set_option maxRecDepth 100000 in
theorem s9_26 {a b : Nat} {P : va_W} (B : zB9 p s m args meth c A D ca) (kk : ∀ q34 : Nat, zC9 p l e s m args below meth c A D Q 42 13 104 [(1, .int 0), (0, .ref h0)] ((h0, .inr (6, [.ref a, .ref b, .int 0, .ref q34, .null, .null])) :: (q34, .inl (ca 3, 8, .inr (.inr (.inr (.inr (fun _ => none)))))) :: P)) : zC9 p l e s m args below meth c A D Q 26 12 96 [(0, .ref h0)] ((h0, .inr (6, [.ref a, .ref b, .int 0, .null, .null, .null])) :: P) := by
  obtain ⟨hx, hb, hml, hown, hts, hA, hK, hO, hin⟩ := B
  intro H locs ls hl hP hD hS
  refine lv_aload_n hx hb dX9_init_26 rfl (lv_at hl 0 rfl) ?_
  refine lv_iconst (v := 0) hx hb dX9_init_27 (by decide) ?_
  refine zn_put (C := RX9) (T := TX9) (N := 6) (ci := 6) (v := .int 0) (ref := "CoatsOnTheBed") false hx hb hts zI_X9 tyX9 tyX9_ok nmX9 hown hK hP hD hS rfl 2 (by decide) zi_83 (fun _ h9 => h9) rfl hin rfl rfl rfl (Nat.le_of_ble_eq_true rfl) dX9_init_28 (fun H locs hP hD hS => ?_)
  have hP : va_P D vwCl ((h0, .inr (6, [.ref a, .ref b, .int 0, .null, .null, .null])) :: P) _ := hP
  have hD : va_D A ((h0, .inr (6, [.ref a, .ref b, .int 0, .null, .null, .null])) :: P) := hD
  refine lv_aload_n hx hb dX9_init_31 rfl (lv_at hl 0 rfl) ?_
  refine lv_bipush (v := 8) hx hb dX9_init_32 (by decide) ?_
  refine zn_newq ([(h0, .inr (6, [.ref a, .ref b, .int 0, .null, .null, .null]))]) (P) (C := RX7) (k := 3) rfl hx hb hts hown zi_84 hO.1 hK hP hD hS hA (n := 8) (N' := 8) (by decide) (by decide) (by decide) (Nat.le_of_ble_eq_true rfl) (Nat.le_of_ble_eq_true rfl) dX9_init_34 (fun q34 H hP hD hS => ?_)
  have hP : va_P D vwCl ((h0, .inr (6, [.ref a, .ref b, .int 0, .null, .null, .null])) :: (q34, .inl (ca 3, 8, .inr (.inr (.inr (.inr (fun _ => none)))))) :: P) _ := hP
  have hD : va_D A ((h0, .inr (6, [.ref a, .ref b, .int 0, .null, .null, .null])) :: (q34, .inl (ca 3, 8, .inr (.inr (.inr (.inr (fun _ => none)))))) :: P) := hD
  refine W.widen (k := 13) (n := 104) (Nat.le_of_ble_eq_true rfl) (Nat.le_of_ble_eq_true rfl) ?_
  refine zn_put (C := RX9) (T := TX9) (N := 6) (ci := 6) (v := .ref q34) (ref := "CoatsOnTheBed") true hx hb hts zI_X9 tyX9 tyX9_ok nmX9 hown hK hP hD hS rfl 3 (by decide) zi_85 (fun _ h9 => h9) rfl hin rfl rfl rfl (Nat.le_of_ble_eq_true rfl) dX9_init_37 (fun H locs hP hD hS => ?_)
  refine lv_iconst (v := 0) hx hb dX9_init_40 (by decide) ?_
  refine lv_istore_n (lv' := [(1, .int 0), (0, .ref h0)]) hx hb dX9_init_41 rfl hl (by decide) rfl (fun ls hl => ?_)
  exact kk q34 H locs ls hl hP hD hS
set_option maxRecDepth 100000 in
theorem s9_42_0 {a b q34 : Nat} {g : Nat → Option Nat} {P : va_W} (B : zB9 p s m args meth c A D ca) (kk : ∀ u : Nat → Nat → Nat, zC9 p l e s m args below meth c A D Q 42 15 210 [(1, .int 1), (0, .ref h0)] ((h0, .inr (6, [.ref a, .ref b, .int 0, .ref q34, .null, .null])) :: (q34, .inl (ca 3, 8, .inr (.inr (.inr (.inr (va_up g (0 : Int32).toNatClampNeg (some (u 0 0)))))))) :: (wS ca (u 0) ++ P))) : zC9 p l e s m args below meth c A D Q 42 13 104 [(1, .int 0), (0, .ref h0)] ((h0, .inr (6, [.ref a, .ref b, .int 0, .ref q34, .null, .null])) :: (q34, .inl (ca 3, 8, .inr (.inr (.inr (.inr g))))) :: P) := by
  obtain ⟨hx, hb, hml, hown, hts, hA, hK, hO, hin⟩ := B
  intro H locs ls hl hP hD hS
  refine lv_iload_n hx hb dX9_init_42 rfl (lv_at hl 0 rfl) ?_
  refine lv_bipush (v := 8) hx hb dX9_init_43 (by decide) ?_
  refine lv_icmp_ge (tgt := 67) hx hb dX9_init_45 (by decide) (fun c_ => absurd c_ (by decide)) (fun _ => ?_)
  refine lv_aload_n hx hb dX9_init_48 rfl (lv_at hl 1 rfl) ?_
  refine va_get (D := D) (ci := 6) (v := .ref q34) (C := RX9) (T := TX9) (N := 6) hx hb hts zI_X9 hown hK hP 0 rfl rfl 3 (by decide) (hts _ zi_85) (fun _ h9 => h9) rfl dX9_init_49 ?_
  refine lv_iload_n hx hb dX9_init_52 rfl (lv_at hl 0 rfl) ?_
  refine zn_new ([(h0, .inr (6, [.ref a, .ref b, .int 0, .ref q34, .null, .null])), (q34, .inl (ca 3, 8, .inr (.inr (.inr (.inr g)))))]) (P) (C := RX7) (T := TX7) (N := 6) (ci := 4) (fs := [.int 0, .int 0, .int 0, .int 0, .int 0, .null]) hx hb hts zI_X7 tyX7 tyX7_ok hown zi_84 zi_86 zi_87 hK hP hD hS hA rfl zdf_X7 (Nat.le_of_ble_eq_true rfl) (Nat.le_of_ble_eq_true rfl) dX9_init_53 (fun q H hP hD hS => ?_)
  refine W.widen (k := 14) (n := 110) (Nat.le_of_ble_eq_true rfl) (Nat.le_of_ble_eq_true rfl) ?_
  refine lv_dup hx hb dX9_init_56 rfl ?_
  refine zn_initN ([(h0, .inr (6, [.ref a, .ref b, .int 0, .ref q34, .null, .null])), (q34, .inl (ca 3, 8, .inr (.inr (.inr (.inr g)))))]) (P) (kX7_init l D ca) ⟨hx, hb, hml, hown, hts⟩ ⟨va_cnB 0 hts (zGI zi_88) rfl rfl rfl (hO.2.2 _ (List.mem_of_getElem? (i := 6) rfl)) (hts _ zi_87) (by decide +kernel) ⟨(Nat.le_of_ble_eq_true rfl), (Nat.le_of_ble_eq_true rfl)⟩, rfl, hts _ zi_89⟩ hO hA hK hP hD hS hl.1 (Nat.le_of_ble_eq_true rfl) dX9_init_57 ⟨(Nat.le_of_ble_eq_true rfl), (Nat.le_of_ble_eq_true rfl)⟩ (fun u H locs hu hP9 hD9 hS9 => ?_)
  clear hP hD hS
  subst hu
  have hP : va_P D vwCl ((h0, .inr (6, [.ref a, .ref b, .int 0, .ref q34, .null, .null])) :: (q34, .inl (ca 3, 8, .inr (.inr (.inr (.inr g))))) :: (u 0 0, .inr (4, [.int 0, .int 0, .int 0, .int 0, .int 0, .ref (u 0 1)])) :: (u 0 1, .inl (ca 0, 100, .inl zZ)) :: P) _ := hP9
  have hD : va_D A ((h0, .inr (6, [.ref a, .ref b, .int 0, .ref q34, .null, .null])) :: (q34, .inl (ca 3, 8, .inr (.inr (.inr (.inr g))))) :: (u 0 0, .inr (4, [.int 0, .int 0, .int 0, .int 0, .int 0, .ref (u 0 1)])) :: (u 0 1, .inl (ca 0, 100, .inl zZ)) :: P) := hD9
  have hS := hS9
  clear hP9 hD9 hS9
  refine W.widen (k := 15) (n := 210) (Nat.le_of_ble_eq_true rfl) (Nat.le_of_ble_eq_true rfl) ?_
  refine va_astq (r := (RX7, TX7, 6)) hx hb hK hP hD hS 1 3 2 4 rfl rfl rfl rfl (zin_ok (by decide)) dX9_init_60 (fun H locs hP hD hS => ?_)
  refine lv_iinc (v := 1) (lv' := [(1, .int 1), (0, .ref h0)]) hx hb dX9_init_61 hl (k := 0) rfl (by decide) (by decide) rfl (fun ls hl => ?_)
  refine lv_goto (tgt := 42) hx hb dX9_init_64 (by decide) ?_
  exact kk u H locs ls hl hP hD hS
set_option maxRecDepth 100000 in
theorem s9_42_1 {a b q34 : Nat} {g : Nat → Option Nat} {P : va_W} (B : zB9 p s m args meth c A D ca) (kk : ∀ u : Nat → Nat → Nat, zC9 p l e s m args below meth c A D Q 42 17 316 [(1, .int 2), (0, .ref h0)] ((h0, .inr (6, [.ref a, .ref b, .int 0, .ref q34, .null, .null])) :: (q34, .inl (ca 3, 8, .inr (.inr (.inr (.inr (va_up g (1 : Int32).toNatClampNeg (some (u 0 0)))))))) :: (wS ca (u 0) ++ P))) : zC9 p l e s m args below meth c A D Q 42 15 210 [(1, .int 1), (0, .ref h0)] ((h0, .inr (6, [.ref a, .ref b, .int 0, .ref q34, .null, .null])) :: (q34, .inl (ca 3, 8, .inr (.inr (.inr (.inr g))))) :: P) := by
  obtain ⟨hx, hb, hml, hown, hts, hA, hK, hO, hin⟩ := B
  intro H locs ls hl hP hD hS
  refine lv_iload_n hx hb dX9_init_42 rfl (lv_at hl 0 rfl) ?_
  refine lv_bipush (v := 8) hx hb dX9_init_43 (by decide) ?_
  refine lv_icmp_ge (tgt := 67) hx hb dX9_init_45 (by decide) (fun c_ => absurd c_ (by decide)) (fun _ => ?_)
  refine lv_aload_n hx hb dX9_init_48 rfl (lv_at hl 1 rfl) ?_
  refine va_get (D := D) (ci := 6) (v := .ref q34) (C := RX9) (T := TX9) (N := 6) hx hb hts zI_X9 hown hK hP 0 rfl rfl 3 (by decide) (hts _ zi_85) (fun _ h9 => h9) rfl dX9_init_49 ?_
  refine lv_iload_n hx hb dX9_init_52 rfl (lv_at hl 0 rfl) ?_
  refine zn_new ([(h0, .inr (6, [.ref a, .ref b, .int 0, .ref q34, .null, .null])), (q34, .inl (ca 3, 8, .inr (.inr (.inr (.inr g)))))]) (P) (C := RX7) (T := TX7) (N := 6) (ci := 4) (fs := [.int 0, .int 0, .int 0, .int 0, .int 0, .null]) hx hb hts zI_X7 tyX7 tyX7_ok hown zi_84 zi_86 zi_87 hK hP hD hS hA rfl zdf_X7 (Nat.le_of_ble_eq_true rfl) (Nat.le_of_ble_eq_true rfl) dX9_init_53 (fun q H hP hD hS => ?_)
  refine W.widen (k := 16) (n := 216) (Nat.le_of_ble_eq_true rfl) (Nat.le_of_ble_eq_true rfl) ?_
  refine lv_dup hx hb dX9_init_56 rfl ?_
  refine zn_initN ([(h0, .inr (6, [.ref a, .ref b, .int 0, .ref q34, .null, .null])), (q34, .inl (ca 3, 8, .inr (.inr (.inr (.inr g)))))]) (P) (kX7_init l D ca) ⟨hx, hb, hml, hown, hts⟩ ⟨va_cnB 0 hts (zGI zi_88) rfl rfl rfl (hO.2.2 _ (List.mem_of_getElem? (i := 6) rfl)) (hts _ zi_87) (by decide +kernel) ⟨(Nat.le_of_ble_eq_true rfl), (Nat.le_of_ble_eq_true rfl)⟩, rfl, hts _ zi_89⟩ hO hA hK hP hD hS hl.1 (Nat.le_of_ble_eq_true rfl) dX9_init_57 ⟨(Nat.le_of_ble_eq_true rfl), (Nat.le_of_ble_eq_true rfl)⟩ (fun u H locs hu hP9 hD9 hS9 => ?_)
  clear hP hD hS
  subst hu
  have hP : va_P D vwCl ((h0, .inr (6, [.ref a, .ref b, .int 0, .ref q34, .null, .null])) :: (q34, .inl (ca 3, 8, .inr (.inr (.inr (.inr g))))) :: (u 0 0, .inr (4, [.int 0, .int 0, .int 0, .int 0, .int 0, .ref (u 0 1)])) :: (u 0 1, .inl (ca 0, 100, .inl zZ)) :: P) _ := hP9
  have hD : va_D A ((h0, .inr (6, [.ref a, .ref b, .int 0, .ref q34, .null, .null])) :: (q34, .inl (ca 3, 8, .inr (.inr (.inr (.inr g))))) :: (u 0 0, .inr (4, [.int 0, .int 0, .int 0, .int 0, .int 0, .ref (u 0 1)])) :: (u 0 1, .inl (ca 0, 100, .inl zZ)) :: P) := hD9
  have hS := hS9
  clear hP9 hD9 hS9
  refine W.widen (k := 17) (n := 316) (Nat.le_of_ble_eq_true rfl) (Nat.le_of_ble_eq_true rfl) ?_
  refine va_astq (r := (RX7, TX7, 6)) hx hb hK hP hD hS 1 3 2 4 rfl rfl rfl rfl (zin_ok (by decide)) dX9_init_60 (fun H locs hP hD hS => ?_)
  refine lv_iinc (v := 2) (lv' := [(1, .int 2), (0, .ref h0)]) hx hb dX9_init_61 hl (k := 0) rfl (by decide) (by decide) rfl (fun ls hl => ?_)
  refine lv_goto (tgt := 42) hx hb dX9_init_64 (by decide) ?_
  exact kk u H locs ls hl hP hD hS
set_option maxRecDepth 100000 in
theorem s9_42_2 {a b q34 : Nat} {g : Nat → Option Nat} {P : va_W} (B : zB9 p s m args meth c A D ca) (kk : ∀ u : Nat → Nat → Nat, zC9 p l e s m args below meth c A D Q 42 19 422 [(1, .int 3), (0, .ref h0)] ((h0, .inr (6, [.ref a, .ref b, .int 0, .ref q34, .null, .null])) :: (q34, .inl (ca 3, 8, .inr (.inr (.inr (.inr (va_up g (2 : Int32).toNatClampNeg (some (u 0 0)))))))) :: (wS ca (u 0) ++ P))) : zC9 p l e s m args below meth c A D Q 42 17 316 [(1, .int 2), (0, .ref h0)] ((h0, .inr (6, [.ref a, .ref b, .int 0, .ref q34, .null, .null])) :: (q34, .inl (ca 3, 8, .inr (.inr (.inr (.inr g))))) :: P) := by
  obtain ⟨hx, hb, hml, hown, hts, hA, hK, hO, hin⟩ := B
  intro H locs ls hl hP hD hS
  refine lv_iload_n hx hb dX9_init_42 rfl (lv_at hl 0 rfl) ?_
  refine lv_bipush (v := 8) hx hb dX9_init_43 (by decide) ?_
  refine lv_icmp_ge (tgt := 67) hx hb dX9_init_45 (by decide) (fun c_ => absurd c_ (by decide)) (fun _ => ?_)
  refine lv_aload_n hx hb dX9_init_48 rfl (lv_at hl 1 rfl) ?_
  refine va_get (D := D) (ci := 6) (v := .ref q34) (C := RX9) (T := TX9) (N := 6) hx hb hts zI_X9 hown hK hP 0 rfl rfl 3 (by decide) (hts _ zi_85) (fun _ h9 => h9) rfl dX9_init_49 ?_
  refine lv_iload_n hx hb dX9_init_52 rfl (lv_at hl 0 rfl) ?_
  refine zn_new ([(h0, .inr (6, [.ref a, .ref b, .int 0, .ref q34, .null, .null])), (q34, .inl (ca 3, 8, .inr (.inr (.inr (.inr g)))))]) (P) (C := RX7) (T := TX7) (N := 6) (ci := 4) (fs := [.int 0, .int 0, .int 0, .int 0, .int 0, .null]) hx hb hts zI_X7 tyX7 tyX7_ok hown zi_84 zi_86 zi_87 hK hP hD hS hA rfl zdf_X7 (Nat.le_of_ble_eq_true rfl) (Nat.le_of_ble_eq_true rfl) dX9_init_53 (fun q H hP hD hS => ?_)
  refine W.widen (k := 18) (n := 322) (Nat.le_of_ble_eq_true rfl) (Nat.le_of_ble_eq_true rfl) ?_
  refine lv_dup hx hb dX9_init_56 rfl ?_
  refine zn_initN ([(h0, .inr (6, [.ref a, .ref b, .int 0, .ref q34, .null, .null])), (q34, .inl (ca 3, 8, .inr (.inr (.inr (.inr g)))))]) (P) (kX7_init l D ca) ⟨hx, hb, hml, hown, hts⟩ ⟨va_cnB 0 hts (zGI zi_88) rfl rfl rfl (hO.2.2 _ (List.mem_of_getElem? (i := 6) rfl)) (hts _ zi_87) (by decide +kernel) ⟨(Nat.le_of_ble_eq_true rfl), (Nat.le_of_ble_eq_true rfl)⟩, rfl, hts _ zi_89⟩ hO hA hK hP hD hS hl.1 (Nat.le_of_ble_eq_true rfl) dX9_init_57 ⟨(Nat.le_of_ble_eq_true rfl), (Nat.le_of_ble_eq_true rfl)⟩ (fun u H locs hu hP9 hD9 hS9 => ?_)
  clear hP hD hS
  subst hu
  have hP : va_P D vwCl ((h0, .inr (6, [.ref a, .ref b, .int 0, .ref q34, .null, .null])) :: (q34, .inl (ca 3, 8, .inr (.inr (.inr (.inr g))))) :: (u 0 0, .inr (4, [.int 0, .int 0, .int 0, .int 0, .int 0, .ref (u 0 1)])) :: (u 0 1, .inl (ca 0, 100, .inl zZ)) :: P) _ := hP9
  have hD : va_D A ((h0, .inr (6, [.ref a, .ref b, .int 0, .ref q34, .null, .null])) :: (q34, .inl (ca 3, 8, .inr (.inr (.inr (.inr g))))) :: (u 0 0, .inr (4, [.int 0, .int 0, .int 0, .int 0, .int 0, .ref (u 0 1)])) :: (u 0 1, .inl (ca 0, 100, .inl zZ)) :: P) := hD9
  have hS := hS9
  clear hP9 hD9 hS9
  refine W.widen (k := 19) (n := 422) (Nat.le_of_ble_eq_true rfl) (Nat.le_of_ble_eq_true rfl) ?_
  refine va_astq (r := (RX7, TX7, 6)) hx hb hK hP hD hS 1 3 2 4 rfl rfl rfl rfl (zin_ok (by decide)) dX9_init_60 (fun H locs hP hD hS => ?_)
  refine lv_iinc (v := 3) (lv' := [(1, .int 3), (0, .ref h0)]) hx hb dX9_init_61 hl (k := 0) rfl (by decide) (by decide) rfl (fun ls hl => ?_)
  refine lv_goto (tgt := 42) hx hb dX9_init_64 (by decide) ?_
  exact kk u H locs ls hl hP hD hS
set_option maxRecDepth 100000 in
theorem s9_42_3 {a b q34 : Nat} {g : Nat → Option Nat} {P : va_W} (B : zB9 p s m args meth c A D ca) (kk : ∀ u : Nat → Nat → Nat, zC9 p l e s m args below meth c A D Q 42 21 528 [(1, .int 4), (0, .ref h0)] ((h0, .inr (6, [.ref a, .ref b, .int 0, .ref q34, .null, .null])) :: (q34, .inl (ca 3, 8, .inr (.inr (.inr (.inr (va_up g (3 : Int32).toNatClampNeg (some (u 0 0)))))))) :: (wS ca (u 0) ++ P))) : zC9 p l e s m args below meth c A D Q 42 19 422 [(1, .int 3), (0, .ref h0)] ((h0, .inr (6, [.ref a, .ref b, .int 0, .ref q34, .null, .null])) :: (q34, .inl (ca 3, 8, .inr (.inr (.inr (.inr g))))) :: P) := by
  obtain ⟨hx, hb, hml, hown, hts, hA, hK, hO, hin⟩ := B
  intro H locs ls hl hP hD hS
  refine lv_iload_n hx hb dX9_init_42 rfl (lv_at hl 0 rfl) ?_
  refine lv_bipush (v := 8) hx hb dX9_init_43 (by decide) ?_
  refine lv_icmp_ge (tgt := 67) hx hb dX9_init_45 (by decide) (fun c_ => absurd c_ (by decide)) (fun _ => ?_)
  refine lv_aload_n hx hb dX9_init_48 rfl (lv_at hl 1 rfl) ?_
  refine va_get (D := D) (ci := 6) (v := .ref q34) (C := RX9) (T := TX9) (N := 6) hx hb hts zI_X9 hown hK hP 0 rfl rfl 3 (by decide) (hts _ zi_85) (fun _ h9 => h9) rfl dX9_init_49 ?_
  refine lv_iload_n hx hb dX9_init_52 rfl (lv_at hl 0 rfl) ?_
  refine zn_new ([(h0, .inr (6, [.ref a, .ref b, .int 0, .ref q34, .null, .null])), (q34, .inl (ca 3, 8, .inr (.inr (.inr (.inr g)))))]) (P) (C := RX7) (T := TX7) (N := 6) (ci := 4) (fs := [.int 0, .int 0, .int 0, .int 0, .int 0, .null]) hx hb hts zI_X7 tyX7 tyX7_ok hown zi_84 zi_86 zi_87 hK hP hD hS hA rfl zdf_X7 (Nat.le_of_ble_eq_true rfl) (Nat.le_of_ble_eq_true rfl) dX9_init_53 (fun q H hP hD hS => ?_)
  refine W.widen (k := 20) (n := 428) (Nat.le_of_ble_eq_true rfl) (Nat.le_of_ble_eq_true rfl) ?_
  refine lv_dup hx hb dX9_init_56 rfl ?_
  refine zn_initN ([(h0, .inr (6, [.ref a, .ref b, .int 0, .ref q34, .null, .null])), (q34, .inl (ca 3, 8, .inr (.inr (.inr (.inr g)))))]) (P) (kX7_init l D ca) ⟨hx, hb, hml, hown, hts⟩ ⟨va_cnB 0 hts (zGI zi_88) rfl rfl rfl (hO.2.2 _ (List.mem_of_getElem? (i := 6) rfl)) (hts _ zi_87) (by decide +kernel) ⟨(Nat.le_of_ble_eq_true rfl), (Nat.le_of_ble_eq_true rfl)⟩, rfl, hts _ zi_89⟩ hO hA hK hP hD hS hl.1 (Nat.le_of_ble_eq_true rfl) dX9_init_57 ⟨(Nat.le_of_ble_eq_true rfl), (Nat.le_of_ble_eq_true rfl)⟩ (fun u H locs hu hP9 hD9 hS9 => ?_)
  clear hP hD hS
  subst hu
  have hP : va_P D vwCl ((h0, .inr (6, [.ref a, .ref b, .int 0, .ref q34, .null, .null])) :: (q34, .inl (ca 3, 8, .inr (.inr (.inr (.inr g))))) :: (u 0 0, .inr (4, [.int 0, .int 0, .int 0, .int 0, .int 0, .ref (u 0 1)])) :: (u 0 1, .inl (ca 0, 100, .inl zZ)) :: P) _ := hP9
  have hD : va_D A ((h0, .inr (6, [.ref a, .ref b, .int 0, .ref q34, .null, .null])) :: (q34, .inl (ca 3, 8, .inr (.inr (.inr (.inr g))))) :: (u 0 0, .inr (4, [.int 0, .int 0, .int 0, .int 0, .int 0, .ref (u 0 1)])) :: (u 0 1, .inl (ca 0, 100, .inl zZ)) :: P) := hD9
  have hS := hS9
  clear hP9 hD9 hS9
  refine W.widen (k := 21) (n := 528) (Nat.le_of_ble_eq_true rfl) (Nat.le_of_ble_eq_true rfl) ?_
  refine va_astq (r := (RX7, TX7, 6)) hx hb hK hP hD hS 1 3 2 4 rfl rfl rfl rfl (zin_ok (by decide)) dX9_init_60 (fun H locs hP hD hS => ?_)
  refine lv_iinc (v := 4) (lv' := [(1, .int 4), (0, .ref h0)]) hx hb dX9_init_61 hl (k := 0) rfl (by decide) (by decide) rfl (fun ls hl => ?_)
  refine lv_goto (tgt := 42) hx hb dX9_init_64 (by decide) ?_
  exact kk u H locs ls hl hP hD hS
set_option maxRecDepth 100000 in
theorem s9_42_4 {a b q34 : Nat} {g : Nat → Option Nat} {P : va_W} (B : zB9 p s m args meth c A D ca) (kk : ∀ u : Nat → Nat → Nat, zC9 p l e s m args below meth c A D Q 42 23 634 [(1, .int 5), (0, .ref h0)] ((h0, .inr (6, [.ref a, .ref b, .int 0, .ref q34, .null, .null])) :: (q34, .inl (ca 3, 8, .inr (.inr (.inr (.inr (va_up g (4 : Int32).toNatClampNeg (some (u 0 0)))))))) :: (wS ca (u 0) ++ P))) : zC9 p l e s m args below meth c A D Q 42 21 528 [(1, .int 4), (0, .ref h0)] ((h0, .inr (6, [.ref a, .ref b, .int 0, .ref q34, .null, .null])) :: (q34, .inl (ca 3, 8, .inr (.inr (.inr (.inr g))))) :: P) := by
  obtain ⟨hx, hb, hml, hown, hts, hA, hK, hO, hin⟩ := B
  intro H locs ls hl hP hD hS
  refine lv_iload_n hx hb dX9_init_42 rfl (lv_at hl 0 rfl) ?_
  refine lv_bipush (v := 8) hx hb dX9_init_43 (by decide) ?_
  refine lv_icmp_ge (tgt := 67) hx hb dX9_init_45 (by decide) (fun c_ => absurd c_ (by decide)) (fun _ => ?_)
  refine lv_aload_n hx hb dX9_init_48 rfl (lv_at hl 1 rfl) ?_
  refine va_get (D := D) (ci := 6) (v := .ref q34) (C := RX9) (T := TX9) (N := 6) hx hb hts zI_X9 hown hK hP 0 rfl rfl 3 (by decide) (hts _ zi_85) (fun _ h9 => h9) rfl dX9_init_49 ?_
  refine lv_iload_n hx hb dX9_init_52 rfl (lv_at hl 0 rfl) ?_
  refine zn_new ([(h0, .inr (6, [.ref a, .ref b, .int 0, .ref q34, .null, .null])), (q34, .inl (ca 3, 8, .inr (.inr (.inr (.inr g)))))]) (P) (C := RX7) (T := TX7) (N := 6) (ci := 4) (fs := [.int 0, .int 0, .int 0, .int 0, .int 0, .null]) hx hb hts zI_X7 tyX7 tyX7_ok hown zi_84 zi_86 zi_87 hK hP hD hS hA rfl zdf_X7 (Nat.le_of_ble_eq_true rfl) (Nat.le_of_ble_eq_true rfl) dX9_init_53 (fun q H hP hD hS => ?_)
  refine W.widen (k := 22) (n := 534) (Nat.le_of_ble_eq_true rfl) (Nat.le_of_ble_eq_true rfl) ?_
  refine lv_dup hx hb dX9_init_56 rfl ?_
  refine zn_initN ([(h0, .inr (6, [.ref a, .ref b, .int 0, .ref q34, .null, .null])), (q34, .inl (ca 3, 8, .inr (.inr (.inr (.inr g)))))]) (P) (kX7_init l D ca) ⟨hx, hb, hml, hown, hts⟩ ⟨va_cnB 0 hts (zGI zi_88) rfl rfl rfl (hO.2.2 _ (List.mem_of_getElem? (i := 6) rfl)) (hts _ zi_87) (by decide +kernel) ⟨(Nat.le_of_ble_eq_true rfl), (Nat.le_of_ble_eq_true rfl)⟩, rfl, hts _ zi_89⟩ hO hA hK hP hD hS hl.1 (Nat.le_of_ble_eq_true rfl) dX9_init_57 ⟨(Nat.le_of_ble_eq_true rfl), (Nat.le_of_ble_eq_true rfl)⟩ (fun u H locs hu hP9 hD9 hS9 => ?_)
  clear hP hD hS
  subst hu
  have hP : va_P D vwCl ((h0, .inr (6, [.ref a, .ref b, .int 0, .ref q34, .null, .null])) :: (q34, .inl (ca 3, 8, .inr (.inr (.inr (.inr g))))) :: (u 0 0, .inr (4, [.int 0, .int 0, .int 0, .int 0, .int 0, .ref (u 0 1)])) :: (u 0 1, .inl (ca 0, 100, .inl zZ)) :: P) _ := hP9
  have hD : va_D A ((h0, .inr (6, [.ref a, .ref b, .int 0, .ref q34, .null, .null])) :: (q34, .inl (ca 3, 8, .inr (.inr (.inr (.inr g))))) :: (u 0 0, .inr (4, [.int 0, .int 0, .int 0, .int 0, .int 0, .ref (u 0 1)])) :: (u 0 1, .inl (ca 0, 100, .inl zZ)) :: P) := hD9
  have hS := hS9
  clear hP9 hD9 hS9
  refine W.widen (k := 23) (n := 634) (Nat.le_of_ble_eq_true rfl) (Nat.le_of_ble_eq_true rfl) ?_
  refine va_astq (r := (RX7, TX7, 6)) hx hb hK hP hD hS 1 3 2 4 rfl rfl rfl rfl (zin_ok (by decide)) dX9_init_60 (fun H locs hP hD hS => ?_)
  refine lv_iinc (v := 5) (lv' := [(1, .int 5), (0, .ref h0)]) hx hb dX9_init_61 hl (k := 0) rfl (by decide) (by decide) rfl (fun ls hl => ?_)
  refine lv_goto (tgt := 42) hx hb dX9_init_64 (by decide) ?_
  exact kk u H locs ls hl hP hD hS
set_option maxRecDepth 100000 in
theorem s9_42_5 {a b q34 : Nat} {g : Nat → Option Nat} {P : va_W} (B : zB9 p s m args meth c A D ca) (kk : ∀ u : Nat → Nat → Nat, zC9 p l e s m args below meth c A D Q 42 25 740 [(1, .int 6), (0, .ref h0)] ((h0, .inr (6, [.ref a, .ref b, .int 0, .ref q34, .null, .null])) :: (q34, .inl (ca 3, 8, .inr (.inr (.inr (.inr (va_up g (5 : Int32).toNatClampNeg (some (u 0 0)))))))) :: (wS ca (u 0) ++ P))) : zC9 p l e s m args below meth c A D Q 42 23 634 [(1, .int 5), (0, .ref h0)] ((h0, .inr (6, [.ref a, .ref b, .int 0, .ref q34, .null, .null])) :: (q34, .inl (ca 3, 8, .inr (.inr (.inr (.inr g))))) :: P) := by
  obtain ⟨hx, hb, hml, hown, hts, hA, hK, hO, hin⟩ := B
  intro H locs ls hl hP hD hS
  refine lv_iload_n hx hb dX9_init_42 rfl (lv_at hl 0 rfl) ?_
  refine lv_bipush (v := 8) hx hb dX9_init_43 (by decide) ?_
  refine lv_icmp_ge (tgt := 67) hx hb dX9_init_45 (by decide) (fun c_ => absurd c_ (by decide)) (fun _ => ?_)
  refine lv_aload_n hx hb dX9_init_48 rfl (lv_at hl 1 rfl) ?_
  refine va_get (D := D) (ci := 6) (v := .ref q34) (C := RX9) (T := TX9) (N := 6) hx hb hts zI_X9 hown hK hP 0 rfl rfl 3 (by decide) (hts _ zi_85) (fun _ h9 => h9) rfl dX9_init_49 ?_
  refine lv_iload_n hx hb dX9_init_52 rfl (lv_at hl 0 rfl) ?_
  refine zn_new ([(h0, .inr (6, [.ref a, .ref b, .int 0, .ref q34, .null, .null])), (q34, .inl (ca 3, 8, .inr (.inr (.inr (.inr g)))))]) (P) (C := RX7) (T := TX7) (N := 6) (ci := 4) (fs := [.int 0, .int 0, .int 0, .int 0, .int 0, .null]) hx hb hts zI_X7 tyX7 tyX7_ok hown zi_84 zi_86 zi_87 hK hP hD hS hA rfl zdf_X7 (Nat.le_of_ble_eq_true rfl) (Nat.le_of_ble_eq_true rfl) dX9_init_53 (fun q H hP hD hS => ?_)
  refine W.widen (k := 24) (n := 640) (Nat.le_of_ble_eq_true rfl) (Nat.le_of_ble_eq_true rfl) ?_
  refine lv_dup hx hb dX9_init_56 rfl ?_
  refine zn_initN ([(h0, .inr (6, [.ref a, .ref b, .int 0, .ref q34, .null, .null])), (q34, .inl (ca 3, 8, .inr (.inr (.inr (.inr g)))))]) (P) (kX7_init l D ca) ⟨hx, hb, hml, hown, hts⟩ ⟨va_cnB 0 hts (zGI zi_88) rfl rfl rfl (hO.2.2 _ (List.mem_of_getElem? (i := 6) rfl)) (hts _ zi_87) (by decide +kernel) ⟨(Nat.le_of_ble_eq_true rfl), (Nat.le_of_ble_eq_true rfl)⟩, rfl, hts _ zi_89⟩ hO hA hK hP hD hS hl.1 (Nat.le_of_ble_eq_true rfl) dX9_init_57 ⟨(Nat.le_of_ble_eq_true rfl), (Nat.le_of_ble_eq_true rfl)⟩ (fun u H locs hu hP9 hD9 hS9 => ?_)
  clear hP hD hS
  subst hu
  have hP : va_P D vwCl ((h0, .inr (6, [.ref a, .ref b, .int 0, .ref q34, .null, .null])) :: (q34, .inl (ca 3, 8, .inr (.inr (.inr (.inr g))))) :: (u 0 0, .inr (4, [.int 0, .int 0, .int 0, .int 0, .int 0, .ref (u 0 1)])) :: (u 0 1, .inl (ca 0, 100, .inl zZ)) :: P) _ := hP9
  have hD : va_D A ((h0, .inr (6, [.ref a, .ref b, .int 0, .ref q34, .null, .null])) :: (q34, .inl (ca 3, 8, .inr (.inr (.inr (.inr g))))) :: (u 0 0, .inr (4, [.int 0, .int 0, .int 0, .int 0, .int 0, .ref (u 0 1)])) :: (u 0 1, .inl (ca 0, 100, .inl zZ)) :: P) := hD9
  have hS := hS9
  clear hP9 hD9 hS9
  refine W.widen (k := 25) (n := 740) (Nat.le_of_ble_eq_true rfl) (Nat.le_of_ble_eq_true rfl) ?_
  refine va_astq (r := (RX7, TX7, 6)) hx hb hK hP hD hS 1 3 2 4 rfl rfl rfl rfl (zin_ok (by decide)) dX9_init_60 (fun H locs hP hD hS => ?_)
  refine lv_iinc (v := 6) (lv' := [(1, .int 6), (0, .ref h0)]) hx hb dX9_init_61 hl (k := 0) rfl (by decide) (by decide) rfl (fun ls hl => ?_)
  refine lv_goto (tgt := 42) hx hb dX9_init_64 (by decide) ?_
  exact kk u H locs ls hl hP hD hS
set_option maxRecDepth 100000 in
theorem s9_42_6 {a b q34 : Nat} {g : Nat → Option Nat} {P : va_W} (B : zB9 p s m args meth c A D ca) (kk : ∀ u : Nat → Nat → Nat, zC9 p l e s m args below meth c A D Q 42 27 846 [(1, .int 7), (0, .ref h0)] ((h0, .inr (6, [.ref a, .ref b, .int 0, .ref q34, .null, .null])) :: (q34, .inl (ca 3, 8, .inr (.inr (.inr (.inr (va_up g (6 : Int32).toNatClampNeg (some (u 0 0)))))))) :: (wS ca (u 0) ++ P))) : zC9 p l e s m args below meth c A D Q 42 25 740 [(1, .int 6), (0, .ref h0)] ((h0, .inr (6, [.ref a, .ref b, .int 0, .ref q34, .null, .null])) :: (q34, .inl (ca 3, 8, .inr (.inr (.inr (.inr g))))) :: P) := by
  obtain ⟨hx, hb, hml, hown, hts, hA, hK, hO, hin⟩ := B
  intro H locs ls hl hP hD hS
  refine lv_iload_n hx hb dX9_init_42 rfl (lv_at hl 0 rfl) ?_
  refine lv_bipush (v := 8) hx hb dX9_init_43 (by decide) ?_
  refine lv_icmp_ge (tgt := 67) hx hb dX9_init_45 (by decide) (fun c_ => absurd c_ (by decide)) (fun _ => ?_)
  refine lv_aload_n hx hb dX9_init_48 rfl (lv_at hl 1 rfl) ?_
  refine va_get (D := D) (ci := 6) (v := .ref q34) (C := RX9) (T := TX9) (N := 6) hx hb hts zI_X9 hown hK hP 0 rfl rfl 3 (by decide) (hts _ zi_85) (fun _ h9 => h9) rfl dX9_init_49 ?_
  refine lv_iload_n hx hb dX9_init_52 rfl (lv_at hl 0 rfl) ?_
  refine zn_new ([(h0, .inr (6, [.ref a, .ref b, .int 0, .ref q34, .null, .null])), (q34, .inl (ca 3, 8, .inr (.inr (.inr (.inr g)))))]) (P) (C := RX7) (T := TX7) (N := 6) (ci := 4) (fs := [.int 0, .int 0, .int 0, .int 0, .int 0, .null]) hx hb hts zI_X7 tyX7 tyX7_ok hown zi_84 zi_86 zi_87 hK hP hD hS hA rfl zdf_X7 (Nat.le_of_ble_eq_true rfl) (Nat.le_of_ble_eq_true rfl) dX9_init_53 (fun q H hP hD hS => ?_)
  refine W.widen (k := 26) (n := 746) (Nat.le_of_ble_eq_true rfl) (Nat.le_of_ble_eq_true rfl) ?_
  refine lv_dup hx hb dX9_init_56 rfl ?_
  refine zn_initN ([(h0, .inr (6, [.ref a, .ref b, .int 0, .ref q34, .null, .null])), (q34, .inl (ca 3, 8, .inr (.inr (.inr (.inr g)))))]) (P) (kX7_init l D ca) ⟨hx, hb, hml, hown, hts⟩ ⟨va_cnB 0 hts (zGI zi_88) rfl rfl rfl (hO.2.2 _ (List.mem_of_getElem? (i := 6) rfl)) (hts _ zi_87) (by decide +kernel) ⟨(Nat.le_of_ble_eq_true rfl), (Nat.le_of_ble_eq_true rfl)⟩, rfl, hts _ zi_89⟩ hO hA hK hP hD hS hl.1 (Nat.le_of_ble_eq_true rfl) dX9_init_57 ⟨(Nat.le_of_ble_eq_true rfl), (Nat.le_of_ble_eq_true rfl)⟩ (fun u H locs hu hP9 hD9 hS9 => ?_)
  clear hP hD hS
  subst hu
  have hP : va_P D vwCl ((h0, .inr (6, [.ref a, .ref b, .int 0, .ref q34, .null, .null])) :: (q34, .inl (ca 3, 8, .inr (.inr (.inr (.inr g))))) :: (u 0 0, .inr (4, [.int 0, .int 0, .int 0, .int 0, .int 0, .ref (u 0 1)])) :: (u 0 1, .inl (ca 0, 100, .inl zZ)) :: P) _ := hP9
  have hD : va_D A ((h0, .inr (6, [.ref a, .ref b, .int 0, .ref q34, .null, .null])) :: (q34, .inl (ca 3, 8, .inr (.inr (.inr (.inr g))))) :: (u 0 0, .inr (4, [.int 0, .int 0, .int 0, .int 0, .int 0, .ref (u 0 1)])) :: (u 0 1, .inl (ca 0, 100, .inl zZ)) :: P) := hD9
  have hS := hS9
  clear hP9 hD9 hS9
  refine W.widen (k := 27) (n := 846) (Nat.le_of_ble_eq_true rfl) (Nat.le_of_ble_eq_true rfl) ?_
  refine va_astq (r := (RX7, TX7, 6)) hx hb hK hP hD hS 1 3 2 4 rfl rfl rfl rfl (zin_ok (by decide)) dX9_init_60 (fun H locs hP hD hS => ?_)
  refine lv_iinc (v := 7) (lv' := [(1, .int 7), (0, .ref h0)]) hx hb dX9_init_61 hl (k := 0) rfl (by decide) (by decide) rfl (fun ls hl => ?_)
  refine lv_goto (tgt := 42) hx hb dX9_init_64 (by decide) ?_
  exact kk u H locs ls hl hP hD hS
set_option maxRecDepth 100000 in
theorem s9_42_7 {a b q34 : Nat} {g : Nat → Option Nat} {P : va_W} (B : zB9 p s m args meth c A D ca) (kk : ∀ u : Nat → Nat → Nat, zC9 p l e s m args below meth c A D Q 42 29 952 [(1, .int 8), (0, .ref h0)] ((h0, .inr (6, [.ref a, .ref b, .int 0, .ref q34, .null, .null])) :: (q34, .inl (ca 3, 8, .inr (.inr (.inr (.inr (va_up g (7 : Int32).toNatClampNeg (some (u 0 0)))))))) :: (wS ca (u 0) ++ P))) : zC9 p l e s m args below meth c A D Q 42 27 846 [(1, .int 7), (0, .ref h0)] ((h0, .inr (6, [.ref a, .ref b, .int 0, .ref q34, .null, .null])) :: (q34, .inl (ca 3, 8, .inr (.inr (.inr (.inr g))))) :: P) := by
  obtain ⟨hx, hb, hml, hown, hts, hA, hK, hO, hin⟩ := B
  intro H locs ls hl hP hD hS
  refine lv_iload_n hx hb dX9_init_42 rfl (lv_at hl 0 rfl) ?_
  refine lv_bipush (v := 8) hx hb dX9_init_43 (by decide) ?_
  refine lv_icmp_ge (tgt := 67) hx hb dX9_init_45 (by decide) (fun c_ => absurd c_ (by decide)) (fun _ => ?_)
  refine lv_aload_n hx hb dX9_init_48 rfl (lv_at hl 1 rfl) ?_
  refine va_get (D := D) (ci := 6) (v := .ref q34) (C := RX9) (T := TX9) (N := 6) hx hb hts zI_X9 hown hK hP 0 rfl rfl 3 (by decide) (hts _ zi_85) (fun _ h9 => h9) rfl dX9_init_49 ?_
  refine lv_iload_n hx hb dX9_init_52 rfl (lv_at hl 0 rfl) ?_
  refine zn_new ([(h0, .inr (6, [.ref a, .ref b, .int 0, .ref q34, .null, .null])), (q34, .inl (ca 3, 8, .inr (.inr (.inr (.inr g)))))]) (P) (C := RX7) (T := TX7) (N := 6) (ci := 4) (fs := [.int 0, .int 0, .int 0, .int 0, .int 0, .null]) hx hb hts zI_X7 tyX7 tyX7_ok hown zi_84 zi_86 zi_87 hK hP hD hS hA rfl zdf_X7 (Nat.le_of_ble_eq_true rfl) (Nat.le_of_ble_eq_true rfl) dX9_init_53 (fun q H hP hD hS => ?_)
  refine W.widen (k := 28) (n := 852) (Nat.le_of_ble_eq_true rfl) (Nat.le_of_ble_eq_true rfl) ?_
  refine lv_dup hx hb dX9_init_56 rfl ?_
  refine zn_initN ([(h0, .inr (6, [.ref a, .ref b, .int 0, .ref q34, .null, .null])), (q34, .inl (ca 3, 8, .inr (.inr (.inr (.inr g)))))]) (P) (kX7_init l D ca) ⟨hx, hb, hml, hown, hts⟩ ⟨va_cnB 0 hts (zGI zi_88) rfl rfl rfl (hO.2.2 _ (List.mem_of_getElem? (i := 6) rfl)) (hts _ zi_87) (by decide +kernel) ⟨(Nat.le_of_ble_eq_true rfl), (Nat.le_of_ble_eq_true rfl)⟩, rfl, hts _ zi_89⟩ hO hA hK hP hD hS hl.1 (Nat.le_of_ble_eq_true rfl) dX9_init_57 ⟨(Nat.le_of_ble_eq_true rfl), (Nat.le_of_ble_eq_true rfl)⟩ (fun u H locs hu hP9 hD9 hS9 => ?_)
  clear hP hD hS
  subst hu
  have hP : va_P D vwCl ((h0, .inr (6, [.ref a, .ref b, .int 0, .ref q34, .null, .null])) :: (q34, .inl (ca 3, 8, .inr (.inr (.inr (.inr g))))) :: (u 0 0, .inr (4, [.int 0, .int 0, .int 0, .int 0, .int 0, .ref (u 0 1)])) :: (u 0 1, .inl (ca 0, 100, .inl zZ)) :: P) _ := hP9
  have hD : va_D A ((h0, .inr (6, [.ref a, .ref b, .int 0, .ref q34, .null, .null])) :: (q34, .inl (ca 3, 8, .inr (.inr (.inr (.inr g))))) :: (u 0 0, .inr (4, [.int 0, .int 0, .int 0, .int 0, .int 0, .ref (u 0 1)])) :: (u 0 1, .inl (ca 0, 100, .inl zZ)) :: P) := hD9
  have hS := hS9
  clear hP9 hD9 hS9
  refine W.widen (k := 29) (n := 952) (Nat.le_of_ble_eq_true rfl) (Nat.le_of_ble_eq_true rfl) ?_
  refine va_astq (r := (RX7, TX7, 6)) hx hb hK hP hD hS 1 3 2 4 rfl rfl rfl rfl (zin_ok (by decide)) dX9_init_60 (fun H locs hP hD hS => ?_)
  refine lv_iinc (v := 8) (lv' := [(1, .int 8), (0, .ref h0)]) hx hb dX9_init_61 hl (k := 0) rfl (by decide) (by decide) rfl (fun ls hl => ?_)
  refine lv_goto (tgt := 42) hx hb dX9_init_64 (by decide) ?_
  exact kk u H locs ls hl hP hD hS
set_option maxRecDepth 100000 in
theorem s9_42_8  {P : va_W} (B : zB9 p s m args meth c A D ca) (kk : zC9 p l e s m args below meth c A D Q 67 29 952 [(1, .int 8), (0, .ref h0)] P) : zC9 p l e s m args below meth c A D Q 42 29 952 [(1, .int 8), (0, .ref h0)] (P) := by
  obtain ⟨hx, hb, hml, hown, hts, hA, hK, hO, hin⟩ := B
  intro H locs ls hl hP hD hS
  refine lv_iload_n hx hb dX9_init_42 rfl (lv_at hl 0 rfl) ?_
  refine lv_bipush (v := 8) hx hb dX9_init_43 (by decide) ?_
  refine lv_icmp_ge (tgt := 67) hx hb dX9_init_45 (by decide) (fun _ => ?_) (fun c_ => absurd (by decide) c_)
  exact kk H locs ls hl hP hD hS
set_option maxRecDepth 100000 in
theorem s9_67 {a b q34 : Nat} {g : Nat → Option Nat} {P : va_W} (B : zB9 p s m args meth c A D ca) (kk : ∀ u : Nat → Nat → Nat, zC9 p l e s m args below meth c A D Q 78 54 1170 [(1, .int 8), (0, .ref h0)] ((h0, .inr (6, [.ref a, .ref b, .int 0, .ref q34, .ref (u 0 0), .null])) :: (q34, .inl (ca 3, 8, .inr (.inr (.inr (.inr g))))) :: (wN ca (u 0) (u 1) (u 2) (u 9 0) ++ P))) : zC9 p l e s m args below meth c A D Q 67 29 952 [(1, .int 8), (0, .ref h0)] ((h0, .inr (6, [.ref a, .ref b, .int 0, .ref q34, .null, .null])) :: (q34, .inl (ca 3, 8, .inr (.inr (.inr (.inr g))))) :: P) := by
  obtain ⟨hx, hb, hml, hown, hts, hA, hK, hO, hin⟩ := B
  intro H locs ls hl hP hD hS
  refine lv_aload_n hx hb dX9_init_67 rfl (lv_at hl 1 rfl) ?_
  refine zn_new ([(h0, .inr (6, [.ref a, .ref b, .int 0, .ref q34, .null, .null])), (q34, .inl (ca 3, 8, .inr (.inr (.inr (.inr g)))))]) (P) (C := RX3) (T := TX3) (N := 15) (ci := 2) (fs := [.null, .null, .null, .null, .null, .null, .null, .null, .null, .null, .null, .null, .null, .int 0, .int 0]) hx hb hts zI_X3 tyX3 tyX3_ok hown zi_90 zi_65 zi_66 hK hP hD hS hA rfl zdf_X3 (Nat.le_of_ble_eq_true rfl) (Nat.le_of_ble_eq_true rfl) dX9_init_68 (fun q H hP hD hS => ?_)
  refine W.widen (k := 30) (n := 967) (Nat.le_of_ble_eq_true rfl) (Nat.le_of_ble_eq_true rfl) ?_
  refine lv_dup hx hb dX9_init_71 rfl ?_
  refine zn_initN ([(h0, .inr (6, [.ref a, .ref b, .int 0, .ref q34, .null, .null])), (q34, .inl (ca 3, 8, .inr (.inr (.inr (.inr g)))))]) (P) (kX3_init l D ca) ⟨hx, hb, hml, hown, hts⟩ ⟨va_cnB 0 hts (zGI zi_67) rfl rfl rfl (hO.2.2 _ (List.mem_of_getElem? (i := 7) rfl)) (hts _ zi_66) (by decide +kernel) ⟨(Nat.le_of_ble_eq_true rfl), (Nat.le_of_ble_eq_true rfl)⟩, rfl, hts _ zi_68⟩ hO hA hK hP hD hS hl.1 (Nat.le_of_ble_eq_true rfl) dX9_init_72 ⟨(Nat.le_of_ble_eq_true rfl), (Nat.le_of_ble_eq_true rfl)⟩ (fun u H locs hu hP9 hD9 hS9 => ?_)
  clear hP hD hS
  subst hu
  have hP : va_P D vwCl ((h0, .inr (6, [.ref a, .ref b, .int 0, .ref q34, .null, .null])) :: (q34, .inl (ca 3, 8, .inr (.inr (.inr (.inr g))))) :: (wN ca (u 0) (u 1) (u 2) (u 9 0) ++ P)) _ := hP9
  have hD : va_D A ((h0, .inr (6, [.ref a, .ref b, .int 0, .ref q34, .null, .null])) :: (q34, .inl (ca 3, 8, .inr (.inr (.inr (.inr g))))) :: (wN ca (u 0) (u 1) (u 2) (u 9 0) ++ P)) := hD9
  have hS := hS9
  clear hP9 hD9 hS9
  refine W.widen (k := 54) (n := 1170) (Nat.le_of_ble_eq_true rfl) (Nat.le_of_ble_eq_true rfl) ?_
  refine zn_put (C := RX9) (T := TX9) (N := 6) (ci := 6) (v := .ref (u 0 0)) (ref := "CoatsOnTheBed") true hx hb hts zI_X9 tyX9 tyX9_ok nmX9 hown hK hP hD hS rfl 4 (by decide) zi_91 (fun _ h9 => h9) rfl hin rfl rfl rfl (Nat.le_of_ble_eq_true rfl) dX9_init_75 (fun H locs hP hD hS => ?_)
  exact kk u H locs ls hl hP hD hS
set_option maxRecDepth 100000 in
theorem s9_78 {a b q34 d : Nat} {g : Nat → Option Nat} {P : va_W} (B : zB9 p s m args meth c A D ca) (kk : ∀ u : Nat → Nat → Nat, zC9 p l e s m args below meth c A D Q 89 89 1475 [(1, .int 8), (0, .ref h0)] ((h0, .inr (6, [.ref a, .ref b, .int 0, .ref q34, .ref d, .ref (u 0 0)])) :: (q34, .inl (ca 3, 8, .inr (.inr (.inr (.inr g))))) :: (wQ ca (u 0) (u 1) (u 2) (u 3) (u 4) (u 9 0) ++ P))) : zC9 p l e s m args below meth c A D Q 78 54 1170 [(1, .int 8), (0, .ref h0)] ((h0, .inr (6, [.ref a, .ref b, .int 0, .ref q34, .ref d, .null])) :: (q34, .inl (ca 3, 8, .inr (.inr (.inr (.inr g))))) :: P) := by
  obtain ⟨hx, hb, hml, hown, hts, hA, hK, hO, hin⟩ := B
  intro H locs ls hl hP hD hS
  refine lv_aload_n hx hb dX9_init_78 rfl (lv_at hl 1 rfl) ?_
  refine zn_new ([(h0, .inr (6, [.ref a, .ref b, .int 0, .ref q34, .ref d, .null])), (q34, .inl (ca 3, 8, .inr (.inr (.inr (.inr g)))))]) (P) (C := RX8) (T := TX8) (N := 11) (ci := 5) (fs := [.null, .null, .null, .null, .null, .int 0, .int 0, .int 0, .int 0, .int 0, .int 0]) hx hb hts zI_X8 tyX8 tyX8_ok hown zi_92 zi_93 zi_94 hK hP hD hS hA rfl zdf_X8 (Nat.le_of_ble_eq_true rfl) (Nat.le_of_ble_eq_true rfl) dX9_init_79 (fun q H hP hD hS => ?_)
  refine W.widen (k := 55) (n := 1181) (Nat.le_of_ble_eq_true rfl) (Nat.le_of_ble_eq_true rfl) ?_
  refine lv_dup hx hb dX9_init_82 rfl ?_
  refine zn_initN ([(h0, .inr (6, [.ref a, .ref b, .int 0, .ref q34, .ref d, .null])), (q34, .inl (ca 3, 8, .inr (.inr (.inr (.inr g)))))]) (P) (kX8_init l D ca) ⟨hx, hb, hml, hown, hts⟩ ⟨va_cnB 0 hts (zGI zi_95) rfl rfl rfl (hO.2.2 _ (List.mem_of_getElem? (i := 8) rfl)) (hts _ zi_94) (by decide +kernel) ⟨(Nat.le_of_ble_eq_true rfl), (Nat.le_of_ble_eq_true rfl)⟩, rfl, hts _ zi_96⟩ hO hA hK hP hD hS hl.1 (Nat.le_of_ble_eq_true rfl) dX9_init_83 ⟨(Nat.le_of_ble_eq_true rfl), (Nat.le_of_ble_eq_true rfl)⟩ (fun u H locs hu hP9 hD9 hS9 => ?_)
  clear hP hD hS
  subst hu
  have hP : va_P D vwCl ((h0, .inr (6, [.ref a, .ref b, .int 0, .ref q34, .ref d, .null])) :: (q34, .inl (ca 3, 8, .inr (.inr (.inr (.inr g))))) :: (wQ ca (u 0) (u 1) (u 2) (u 3) (u 4) (u 9 0) ++ P)) _ := hP9
  have hD : va_D A ((h0, .inr (6, [.ref a, .ref b, .int 0, .ref q34, .ref d, .null])) :: (q34, .inl (ca 3, 8, .inr (.inr (.inr (.inr g))))) :: (wQ ca (u 0) (u 1) (u 2) (u 3) (u 4) (u 9 0) ++ P)) := hD9
  have hS := hS9
  clear hP9 hD9 hS9
  refine W.widen (k := 89) (n := 1475) (Nat.le_of_ble_eq_true rfl) (Nat.le_of_ble_eq_true rfl) ?_
  refine zn_put (C := RX9) (T := TX9) (N := 6) (ci := 6) (v := .ref (u 0 0)) (ref := "CoatsOnTheBed") true hx hb hts zI_X9 tyX9 tyX9_ok nmX9 hown hK hP hD hS rfl 5 (by decide) zi_97 (fun _ h9 => h9) rfl hin rfl rfl rfl (Nat.le_of_ble_eq_true rfl) dX9_init_86 (fun H locs hP hD hS => ?_)
  exact kk u H locs ls hl hP hD hS
end
set_option maxHeartbeats 4000000 in
set_option maxRecDepth 100000 in
theorem zend9a (ca : Nat → ClassId) (us0 us1 us2 us3 us4 us5 us6 us7 : Nat → Nat → Nat) (Z : va_W) : wS ca (us0 0) ++ (wS ca (us1 0) ++ (wS ca (us2 0) ++ (wS ca (us3 0) ++ (wS ca (us4 0) ++ (wS ca (us5 0) ++ (wS ca (us6 0) ++ (wS ca (us7 0) ++ Z))))))) = (cSh ca (zlk [us0 0 0, us0 0 1, us1 0 0, us1 0 1, us2 0 0, us2 0 1, us3 0 0, us3 0 1, us4 0 0, us4 0 1, us5 0 0, us5 0 1, us6 0 0, us6 0 1, us7 0 0, us7 0 1]) zZ zZ zZ zZ zZ (fun _ => zZ)) ++ Z := rfl
set_option maxHeartbeats 4000000 in
set_option maxRecDepth 100000 in
theorem zend9b (ca : Nat → ClassId) (h0 q34 : Nat) (ud up un uq us0 us1 us2 us3 us4 us5 us6 us7 : Nat → Nat → Nat) (Z : va_W) : ((h0, .inr (6, [.ref (ud 0 0), .ref (up 0 0), .int 0, .ref q34, .ref (un 0 0), .ref (uq 0 0)])) :: (q34, .inl (ca 3, 8, .inr (.inr (.inr (.inr (fun k => some ((zlk [us0 0 0, us0 0 1, us1 0 0, us1 0 1, us2 0 0, us2 0 1, us3 0 0, us3 0 1, us4 0 0, us4 0 1, us5 0 0, us5 0 1, us6 0 0, us6 0 1, us7 0 0, us7 0 1]) (2 * k)))))))) :: ((cSh ca (zlk [us0 0 0, us0 0 1, us1 0 0, us1 0 1, us2 0 0, us2 0 1, us3 0 0, us3 0 1, us4 0 0, us4 0 1, us5 0 0, us5 0 1, us6 0 0, us6 0 1, us7 0 0, us7 0 1]) zZ zZ zZ zZ zZ (fun _ => zZ)) ++ Z) : va_W) = uL_x ca (zlk [us0 0 0, us0 0 1, us1 0 0, us1 0 1, us2 0 0, us2 0 1, us3 0 0, us3 0 1, us4 0 0, us4 0 1, us5 0 0, us5 0 1, us6 0 0, us6 0 1, us7 0 0, us7 0 1]) (zlk [h0, q34]) (ud 0) (up 0) (un 0) (uq 0) 0 ++ ((cSh ca (zlk [us0 0 0, us0 0 1, us1 0 0, us1 0 1, us2 0 0, us2 0 1, us3 0 0, us3 0 1, us4 0 0, us4 0 1, us5 0 0, us5 0 1, us6 0 0, us6 0 1, us7 0 0, us7 0 1]) zZ zZ zZ zZ zZ (fun _ => zZ)) ++ Z) := rfl
set_option maxHeartbeats 4000000 in
set_option maxRecDepth 100000 in
theorem zend9 (ca : Nat → ClassId) (h0 q34 : Nat) (ud up un uq us0 us1 us2 us3 us4 us5 us6 us7 : Nat → Nat → Nat) : ((h0, .inr (6, [.ref (ud 0 0), .ref (up 0 0), .int 0, .ref q34, .ref (un 0 0), .ref (uq 0 0)])) :: (q34, .inl (ca 3, 8, .inr (.inr (.inr (.inr (fun k => some ((zlk [us0 0 0, us0 0 1, us1 0 0, us1 0 1, us2 0 0, us2 0 1, us3 0 0, us3 0 1, us4 0 0, us4 0 1, us5 0 0, us5 0 1, us6 0 0, us6 0 1, us7 0 0, us7 0 1]) (2 * k)))))))) :: (wS ca (us0 0) ++ (wS ca (us1 0) ++ (wS ca (us2 0) ++ (wS ca (us3 0) ++ (wS ca (us4 0) ++ (wS ca (us5 0) ++ (wS ca (us6 0) ++ (wS ca (us7 0) ++ (wQ ca (uq 0) (uq 1) (uq 2) (uq 3) (uq 4) (uq 9 0) ++ (wN ca (un 0) (un 1) (un 2) (un 9 0) ++ (wR ca (up 0) ++ (wR ca (ud 0) ++ [])))))))))))) : va_W) = wX ca (zlk [h0, q34]) (ud 0) (up 0) (zlk [us0 0 0, us0 0 1, us1 0 0, us1 0 1, us2 0 0, us2 0 1, us3 0 0, us3 0 1, us4 0 0, us4 0 1, us5 0 0, us5 0 1, us6 0 0, us6 0 1, us7 0 0, us7 0 1]) (un 0) (un 1) (un 2) (uq 0) (uq 1) (uq 2) (uq 3) (uq 4) (un 9 0) (uq 9 0) := by
  rw [zend9a ca us0 us1 us2 us3 us4 us5 us6 us7, zend9b ca h0 q34 ud up un uq us0 us1 us2 us3 us4 us5 us6 us7]
  rfl
set_option maxHeartbeats 4000000 in
set_option maxRecDepth 100000 in
theorem kX9_init (l : Launch) (D : va_G) (ca : Nat → ClassId) : zMI l D ca yX9_init (.code yX9_init cX9_init 2 none :: zI) roi_X9 6 [.null, .null, .int 0, .null, .null, .null] (fun u => wX ca (u 0) (u 1) (u 2) (u 3) (u 4) (u 5) (u 6) (u 7) (u 8) (u 9) (u 10) (u 11) (u 12 0) (u 12 1)) 89 1475 := by
  refine zMI_of (cc := cX9_init) (maxL := 2) (by decide) rfl (by decide) rfl ?_
  rintro p e s m args below meth c A Q ls h0 ⟨hx, hb, hml, hown, hts, hA, hK, hO, hS, hin⟩ hend hP hD hl
  have hown : s.vm.findClass RX9 = some m.cls := hown
  have hts : ∀ w ∈ zI, w.before args s = true := fun w h => hts w (List.mem_cons_of_mem _ h)
  have B : zB9 p s m args meth c A D ca := ⟨hx, hb, hml, hown, hts, hA, hK, hO, hin⟩
  refine lv_aload_n hx hb dX9_init_0 rfl (lv_at hl 0 rfl) ?_
  refine W.objInit hx hb hown (hts _ zi_79) (hts _ zi_1) (hts _ zi_2) rfl (by rw [hml]; exact hl.1) rfl dX9_init_1 (Nat.le_of_ble_eq_true rfl) (Nat.le_of_ble_eq_true rfl) ?_
  refine W.eq (g2 := F0 m 4 ls []) rfl ?_
  suffices hC : zC9 p l e s m args below meth c A D Q 4 0 0 [(0, .ref h0)] [(h0, .inr (6, [.null, .null, .int 0, .null, .null, .null]))] from hC _ _ _ hl hP hD hS
  clear hP hD hS
  refine s9_4 B (fun ud => ?_)
  refine s9_15 B (fun up => ?_)
  refine s9_26 B (fun q34 => ?_)
  refine s9_42_0 B (fun us0 => ?_)
  refine s9_42_1 B (fun us1 => ?_)
  refine s9_42_2 B (fun us2 => ?_)
  refine s9_42_3 B (fun us3 => ?_)
  refine s9_42_4 B (fun us4 => ?_)
  refine s9_42_5 B (fun us5 => ?_)
  refine s9_42_6 B (fun us6 => ?_)
  refine s9_42_7 B (fun us7 => ?_)
  refine s9_42_8 B ?_
  refine s9_67 B (fun un => ?_)
  refine s9_78 B (fun uq => ?_)
  intro H locs ls hl hP hD hS
  have hP := zP_perm (zperm9 _ _ _ _ _ _ _ _ _ _ _ _ _) hP
  have hD := zD_perm (zperm9 _ _ _ _ _ _ _ _ _ _ _ _ _) hD
  have hP := zP_ref1 (g := fun k => some ((zlk [us0 0 0, us0 0 1, us1 0 0, us1 0 1, us2 0 0, us2 0 1, us3 0 0, us3 0 1, us4 0 0, us4 0 1, us5 0 0, us5 0 1, us6 0 0, us6 0 1, us7 0 0, us7 0 1]) (2 * k))) (fun k hk => by rcases (show k = 0 ∨ k = 1 ∨ k = 2 ∨ k = 3 ∨ k = 4 ∨ k = 5 ∨ k = 6 ∨ k = 7 by omega) with rfl | rfl | rfl | rfl | rfl | rfl | rfl | rfl <;> rfl) hP
  have hD := zD_ref1 (e' := .inl (ca 3, 8, .inr (.inr (.inr (.inr (fun k => some ((zlk [us0 0 0, us0 0 1, us1 0 0, us1 0 1, us2 0 0, us2 0 1, us3 0 0, us3 0 1, us4 0 0, us4 0 1, us5 0 0, us5 0 1, us6 0 0, us6 0 1, us7 0 0, us7 0 1]) (2 * k)))))))) hD
  rw [zend9 ca h0 q34 ud up un uq us0 us1 us2 us3 us4 us5 us6 us7] at hP hD
  exact hend H locs 89 ls (fun p => match p with | 0 => (zlk [h0, q34]) | 1 => ud 0 | 2 => up 0 | 3 => (zlk [us0 0 0, us0 0 1, us1 0 0, us1 0 1, us2 0 0, us2 0 1, us3 0 0, us3 0 1, us4 0 0, us4 0 1, us5 0 0, us5 0 1, us6 0 0, us6 0 1, us7 0 0, us7 0 1]) | 4 => un 0 | 5 => un 1 | 6 => un 2 | 7 => uq 0 | 8 => uq 1 | 9 => uq 2 | 10 => uq 3 | 11 => uq 4 | 12 => zlk [un 9 0, uq 9 0] | _ => fun _ => 0) rfl hP hD hS dX9_init_89
abbrev roi_X10 : Room := { frames := 2, cells := 33, slots := 1296, locals := 32 }
def zB10 (p : Program) (s : State) (m : MethodId) (args : Array Value) (meth : Method) (c : Code) (A : Nat → Prop) (D : va_G) (ca : Nat → ClassId) (ls : Array Slot) (h0 : Nat) : Prop := p.tables.exec = Jvm.exec ∧ c.code = cX10_init ∧ s.vm.findClass RX10 = some m.cls ∧ (∀ w ∈ zI, w.before args s = true) ∧ (∀ q, s.heap.size ≤ q → A q) ∧ va_K D vwCl (zT ca) s ∧ meth.name = "<init>" ∧ lv_has ls 1 [(0, .ref h0)]
def zC10 (p : Program) (l : Launch) (e : Env) (s : State) (m : MethodId) (args : Array Value) (below : List Frame) (meth : Method) (c : Code) (A : Nat → Prop) (D : va_G) (ca : Nat → ClassId) (Q : State → Prop) (ls : Array Slot) (h0 : Nat) (pc cells slots : Nat) (f : List Value) (R : va_W) : Prop := ∀ (H : Heap) (locs : List Loc), f.length = 58 → va_P D vwCl ((h0, .inr (7, f)) :: R) H → va_D A ((h0, .inr (7, f)) :: R) → va_S A s.heap H locs → W p l e roi_X10 s m args below meth c H locs cells slots Q (F0 m pc ls [])
section
variable {p : Program} {l : Launch} {e : Env} {s : State} {m : MethodId} {args : Array Value} {below : List Frame} {meth : Method} {c : Code} {A : Nat → Prop} {D : va_G} {ca : Nat → ClassId} {Q : State → Prop} {ls : Array Slot} {h0 : Nat}
set_option maxRecDepth 100000 in
theorem s10_4 {f : List Value} {R : va_W} (B : zB10 p s m args meth c A D ca ls h0) (kk : ∀ q : Nat, zC10 p l e s m args below meth c A D ca Q ls h0 12 1 10 (f.set 1 (.ref q)) ((q, .inl (ca 0, 10, .inl zZ)) :: R)) : zC10 p l e s m args below meth c A D ca Q ls h0 4 0 0 f R := by
  obtain ⟨hx, hb, hown, hts, hA, hK, hin, hl⟩ := B
  intro H locs hfl hP hD hS
  refine lv_aload_n hx hb dX10_init_4 rfl (lv_at hl 0 rfl) ?_
  refine lv_bipush (v := 10) hx hb dX10_init_5 (by decide) ?_
  refine zn_newa ([(h0, .inr (7, f))]) (R) (k := 0) rfl hx hb hts zi_4 rfl hK hP hD hS hA (n := 10) (N' := 10) (a0 := (10, .inl zZ)) (fun _ => rfl) (by decide) (by decide) (by decide) (Nat.le_of_ble_eq_true rfl) (Nat.le_of_ble_eq_true rfl) dX10_init_7 (fun q H hP hD hS => ?_)
  have hP : va_P D vwCl ((h0, .inr (7, f)) :: (q, .inl (ca 0, 10, .inl zZ)) :: R) _ := hP
  have hD : va_D A ((h0, .inr (7, f)) :: (q, .inl (ca 0, 10, .inl zZ)) :: R) := hD
  refine W.widen (k := 1) (n := 10) (Nat.le_of_ble_eq_true rfl) (Nat.le_of_ble_eq_true rfl) ?_
  refine zn_put (C := RX10) (T := TX10) (N := 58) (ci := 7) (v := .ref q) (ref := "CoatsOnTheBedModel") true hx hb hts zI_X10 tyX10 tyX10_ok nmX10 hown hK hP hD hS rfl 1 (by decide) zi_99 (fun _ h9 => h9) rfl hin rfl rfl rfl (by rw [hfl]; decide) dX10_init_9 (fun H locs hP hD hS => ?_)
  exact kk q H locs (by rw [List.length_set]; exact hfl) hP hD hS
set_option maxRecDepth 100000 in
theorem s10_12 {f : List Value} {R : va_W} (B : zB10 p s m args meth c A D ca ls h0) (kk : ∀ q : Nat, zC10 p l e s m args below meth c A D ca Q ls h0 20 2 20 (f.set 2 (.ref q)) ((q, .inl (ca 0, 10, .inl zZ)) :: R)) : zC10 p l e s m args below meth c A D ca Q ls h0 12 1 10 f R := by
  obtain ⟨hx, hb, hown, hts, hA, hK, hin, hl⟩ := B
  intro H locs hfl hP hD hS
  refine lv_aload_n hx hb dX10_init_12 rfl (lv_at hl 0 rfl) ?_
  refine lv_bipush (v := 10) hx hb dX10_init_13 (by decide) ?_
  refine zn_newa ([(h0, .inr (7, f))]) (R) (k := 0) rfl hx hb hts zi_4 rfl hK hP hD hS hA (n := 10) (N' := 10) (a0 := (10, .inl zZ)) (fun _ => rfl) (by decide) (by decide) (by decide) (Nat.le_of_ble_eq_true rfl) (Nat.le_of_ble_eq_true rfl) dX10_init_15 (fun q H hP hD hS => ?_)
  have hP : va_P D vwCl ((h0, .inr (7, f)) :: (q, .inl (ca 0, 10, .inl zZ)) :: R) _ := hP
  have hD : va_D A ((h0, .inr (7, f)) :: (q, .inl (ca 0, 10, .inl zZ)) :: R) := hD
  refine W.widen (k := 2) (n := 20) (Nat.le_of_ble_eq_true rfl) (Nat.le_of_ble_eq_true rfl) ?_
  refine zn_put (C := RX10) (T := TX10) (N := 58) (ci := 7) (v := .ref q) (ref := "CoatsOnTheBedModel") true hx hb hts zI_X10 tyX10 tyX10_ok nmX10 hown hK hP hD hS rfl 2 (by decide) zi_100 (fun _ h9 => h9) rfl hin rfl rfl rfl (by rw [hfl]; decide) dX10_init_17 (fun H locs hP hD hS => ?_)
  exact kk q H locs (by rw [List.length_set]; exact hfl) hP hD hS
set_option maxRecDepth 100000 in
theorem s10_20 {f : List Value} {R : va_W} (B : zB10 p s m args meth c A D ca ls h0) (kk : ∀ q : Nat, zC10 p l e s m args below meth c A D ca Q ls h0 28 3 30 (f.set 3 (.ref q)) ((q, .inl (ca 0, 10, .inl zZ)) :: R)) : zC10 p l e s m args below meth c A D ca Q ls h0 20 2 20 f R := by
  obtain ⟨hx, hb, hown, hts, hA, hK, hin, hl⟩ := B
  intro H locs hfl hP hD hS
  refine lv_aload_n hx hb dX10_init_20 rfl (lv_at hl 0 rfl) ?_
  refine lv_bipush (v := 10) hx hb dX10_init_21 (by decide) ?_
  refine zn_newa ([(h0, .inr (7, f))]) (R) (k := 0) rfl hx hb hts zi_4 rfl hK hP hD hS hA (n := 10) (N' := 10) (a0 := (10, .inl zZ)) (fun _ => rfl) (by decide) (by decide) (by decide) (Nat.le_of_ble_eq_true rfl) (Nat.le_of_ble_eq_true rfl) dX10_init_23 (fun q H hP hD hS => ?_)
  have hP : va_P D vwCl ((h0, .inr (7, f)) :: (q, .inl (ca 0, 10, .inl zZ)) :: R) _ := hP
  have hD : va_D A ((h0, .inr (7, f)) :: (q, .inl (ca 0, 10, .inl zZ)) :: R) := hD
  refine W.widen (k := 3) (n := 30) (Nat.le_of_ble_eq_true rfl) (Nat.le_of_ble_eq_true rfl) ?_
  refine zn_put (C := RX10) (T := TX10) (N := 58) (ci := 7) (v := .ref q) (ref := "CoatsOnTheBedModel") true hx hb hts zI_X10 tyX10 tyX10_ok nmX10 hown hK hP hD hS rfl 3 (by decide) zi_101 (fun _ h9 => h9) rfl hin rfl rfl rfl (by rw [hfl]; decide) dX10_init_25 (fun H locs hP hD hS => ?_)
  exact kk q H locs (by rw [List.length_set]; exact hfl) hP hD hS
set_option maxRecDepth 100000 in
theorem s10_28 {f : List Value} {R : va_W} (B : zB10 p s m args meth c A D ca ls h0) (kk : zC10 p l e s m args below meth c A D ca Q ls h0 33 3 30 (f.set 4 (.int 2)) R) : zC10 p l e s m args below meth c A D ca Q ls h0 28 3 30 f R := by
  obtain ⟨hx, hb, hown, hts, hA, hK, hin, hl⟩ := B
  intro H locs hfl hP hD hS
  refine lv_aload_n hx hb dX10_init_28 rfl (lv_at hl 0 rfl) ?_
  refine lv_iconst (v := 2) hx hb dX10_init_29 (by decide) ?_
  refine zn_put (C := RX10) (T := TX10) (N := 58) (ci := 7) (v := .int 2) (ref := "CoatsOnTheBedModel") false hx hb hts zI_X10 tyX10 tyX10_ok nmX10 hown hK hP hD hS rfl 4 (by decide) zi_102 (fun _ h9 => h9) rfl hin rfl rfl rfl (by rw [hfl]; decide) dX10_init_30 (fun H locs hP hD hS => ?_)
  exact kk H locs (by rw [List.length_set]; exact hfl) hP hD hS
set_option maxRecDepth 100000 in
theorem s10_33 {f : List Value} {R : va_W} (B : zB10 p s m args meth c A D ca ls h0) (kk : zC10 p l e s m args below meth c A D ca Q ls h0 39 3 30 (f.set 5 (.int 9)) R) : zC10 p l e s m args below meth c A D ca Q ls h0 33 3 30 f R := by
  obtain ⟨hx, hb, hown, hts, hA, hK, hin, hl⟩ := B
  intro H locs hfl hP hD hS
  refine lv_aload_n hx hb dX10_init_33 rfl (lv_at hl 0 rfl) ?_
  refine lv_bipush (v := 9) hx hb dX10_init_34 (by decide) ?_
  refine zn_put (C := RX10) (T := TX10) (N := 58) (ci := 7) (v := .int 9) (ref := "CoatsOnTheBedModel") false hx hb hts zI_X10 tyX10 tyX10_ok nmX10 hown hK hP hD hS rfl 5 (by decide) zi_103 (fun _ h9 => h9) rfl hin rfl rfl rfl (by rw [hfl]; decide) dX10_init_36 (fun H locs hP hD hS => ?_)
  exact kk H locs (by rw [List.length_set]; exact hfl) hP hD hS
set_option maxRecDepth 100000 in
theorem s10_39 {f : List Value} {R : va_W} (B : zB10 p s m args meth c A D ca ls h0) (kk : ∀ q : Nat, zC10 p l e s m args below meth c A D ca Q ls h0 47 4 36 (f.set 10 (.ref q)) ((q, .inl (ca 0, 6, .inl zZ)) :: R)) : zC10 p l e s m args below meth c A D ca Q ls h0 39 3 30 f R := by
  obtain ⟨hx, hb, hown, hts, hA, hK, hin, hl⟩ := B
  intro H locs hfl hP hD hS
  refine lv_aload_n hx hb dX10_init_39 rfl (lv_at hl 0 rfl) ?_
  refine lv_bipush (v := 6) hx hb dX10_init_40 (by decide) ?_
  refine zn_newa ([(h0, .inr (7, f))]) (R) (k := 0) rfl hx hb hts zi_4 rfl hK hP hD hS hA (n := 6) (N' := 6) (a0 := (6, .inl zZ)) (fun _ => rfl) (by decide) (by decide) (by decide) (Nat.le_of_ble_eq_true rfl) (Nat.le_of_ble_eq_true rfl) dX10_init_42 (fun q H hP hD hS => ?_)
  have hP : va_P D vwCl ((h0, .inr (7, f)) :: (q, .inl (ca 0, 6, .inl zZ)) :: R) _ := hP
  have hD : va_D A ((h0, .inr (7, f)) :: (q, .inl (ca 0, 6, .inl zZ)) :: R) := hD
  refine W.widen (k := 4) (n := 36) (Nat.le_of_ble_eq_true rfl) (Nat.le_of_ble_eq_true rfl) ?_
  refine zn_put (C := RX10) (T := TX10) (N := 58) (ci := 7) (v := .ref q) (ref := "CoatsOnTheBedModel") true hx hb hts zI_X10 tyX10 tyX10_ok nmX10 hown hK hP hD hS rfl 10 (by decide) zi_104 (fun _ h9 => h9) rfl hin rfl rfl rfl (by rw [hfl]; decide) dX10_init_44 (fun H locs hP hD hS => ?_)
  exact kk q H locs (by rw [List.length_set]; exact hfl) hP hD hS
set_option maxRecDepth 100000 in
theorem s10_47 {f : List Value} {R : va_W} (B : zB10 p s m args meth c A D ca ls h0) (kk : ∀ q : Nat, zC10 p l e s m args below meth c A D ca Q ls h0 55 5 42 (f.set 16 (.ref q)) ((q, .inl (ca 0, 6, .inl zZ)) :: R)) : zC10 p l e s m args below meth c A D ca Q ls h0 47 4 36 f R := by
  obtain ⟨hx, hb, hown, hts, hA, hK, hin, hl⟩ := B
  intro H locs hfl hP hD hS
  refine lv_aload_n hx hb dX10_init_47 rfl (lv_at hl 0 rfl) ?_
  refine lv_bipush (v := 6) hx hb dX10_init_48 (by decide) ?_
  refine zn_newa ([(h0, .inr (7, f))]) (R) (k := 0) rfl hx hb hts zi_4 rfl hK hP hD hS hA (n := 6) (N' := 6) (a0 := (6, .inl zZ)) (fun _ => rfl) (by decide) (by decide) (by decide) (Nat.le_of_ble_eq_true rfl) (Nat.le_of_ble_eq_true rfl) dX10_init_50 (fun q H hP hD hS => ?_)
  have hP : va_P D vwCl ((h0, .inr (7, f)) :: (q, .inl (ca 0, 6, .inl zZ)) :: R) _ := hP
  have hD : va_D A ((h0, .inr (7, f)) :: (q, .inl (ca 0, 6, .inl zZ)) :: R) := hD
  refine W.widen (k := 5) (n := 42) (Nat.le_of_ble_eq_true rfl) (Nat.le_of_ble_eq_true rfl) ?_
  refine zn_put (C := RX10) (T := TX10) (N := 58) (ci := 7) (v := .ref q) (ref := "CoatsOnTheBedModel") true hx hb hts zI_X10 tyX10 tyX10_ok nmX10 hown hK hP hD hS rfl 16 (by decide) zi_105 (fun _ h9 => h9) rfl hin rfl rfl rfl (by rw [hfl]; decide) dX10_init_52 (fun H locs hP hD hS => ?_)
  exact kk q H locs (by rw [List.length_set]; exact hfl) hP hD hS
set_option maxRecDepth 100000 in
theorem s10_55 {f : List Value} {R : va_W} (B : zB10 p s m args meth c A D ca ls h0) (kk : ∀ q : Nat, zC10 p l e s m args below meth c A D ca Q ls h0 93 6 48 (f.set 18 (.ref q)) ((q, .inl (ca 2, 6, .inl (upd (upd (upd (upd (upd (upd zZ (0 : Int32).toNatClampNeg (vp_nar .char 103)) (1 : Int32).toNatClampNeg (vp_nar .char 104)) (2 : Int32).toNatClampNeg (vp_nar .char 98)) (3 : Int32).toNatClampNeg (vp_nar .char 109)) (4 : Int32).toNatClampNeg (vp_nar .char 107)) (5 : Int32).toNatClampNeg (vp_nar .char 114)))) :: R)) : zC10 p l e s m args below meth c A D ca Q ls h0 55 5 42 f R := by
  obtain ⟨hx, hb, hown, hts, hA, hK, hin, hl⟩ := B
  intro H locs hfl hP hD hS
  refine lv_aload_n hx hb dX10_init_55 rfl (lv_at hl 0 rfl) ?_
  refine lv_bipush (v := 6) hx hb dX10_init_56 (by decide) ?_
  refine zn_newa ([(h0, .inr (7, f))]) (R) (k := 2) rfl hx hb hts zi_106 rfl hK hP hD hS hA (n := 6) (N' := 6) (a0 := (6, .inl zZ)) (fun _ => rfl) (by decide) (by decide) (by decide) (Nat.le_of_ble_eq_true rfl) (Nat.le_of_ble_eq_true rfl) dX10_init_58 (fun q H hP hD hS => ?_)
  have hP : va_P D vwCl ((h0, .inr (7, f)) :: (q, .inl (ca 2, 6, .inl zZ)) :: R) _ := hP
  have hD : va_D A ((h0, .inr (7, f)) :: (q, .inl (ca 2, 6, .inl zZ)) :: R) := hD
  refine W.widen (k := 6) (n := 48) (Nat.le_of_ble_eq_true rfl) (Nat.le_of_ble_eq_true rfl) ?_
  refine lv_dup hx hb dX10_init_60 rfl ?_
  refine lv_iconst (v := 0) hx hb dX10_init_61 (by decide) ?_
  refine lv_bipush (v := 103) hx hb dX10_init_62 (by decide) ?_
  refine va_cast hx hb hK hP hD hS 1 2 rfl rfl (zin_ok (by decide)) dX10_init_64 (fun H locs hP hD hS => ?_)
  have hP : va_P D vwCl ((h0, .inr (7, f)) :: (q, .inl (ca 2, 6, .inl (upd zZ (0 : Int32).toNatClampNeg (vp_nar .char 103)))) :: R) _ := hP
  have hD : va_D A ((h0, .inr (7, f)) :: (q, .inl (ca 2, 6, .inl (upd zZ (0 : Int32).toNatClampNeg (vp_nar .char 103)))) :: R) := hD
  refine lv_dup hx hb dX10_init_65 rfl ?_
  refine lv_iconst (v := 1) hx hb dX10_init_66 (by decide) ?_
  refine lv_bipush (v := 104) hx hb dX10_init_67 (by decide) ?_
  refine va_cast hx hb hK hP hD hS 1 2 rfl rfl (zin_ok (by decide)) dX10_init_69 (fun H locs hP hD hS => ?_)
  have hP : va_P D vwCl ((h0, .inr (7, f)) :: (q, .inl (ca 2, 6, .inl (upd (upd zZ (0 : Int32).toNatClampNeg (vp_nar .char 103)) (1 : Int32).toNatClampNeg (vp_nar .char 104)))) :: R) _ := hP
  have hD : va_D A ((h0, .inr (7, f)) :: (q, .inl (ca 2, 6, .inl (upd (upd zZ (0 : Int32).toNatClampNeg (vp_nar .char 103)) (1 : Int32).toNatClampNeg (vp_nar .char 104)))) :: R) := hD
  refine lv_dup hx hb dX10_init_70 rfl ?_
  refine lv_iconst (v := 2) hx hb dX10_init_71 (by decide) ?_
  refine lv_bipush (v := 98) hx hb dX10_init_72 (by decide) ?_
  refine va_cast hx hb hK hP hD hS 1 2 rfl rfl (zin_ok (by decide)) dX10_init_74 (fun H locs hP hD hS => ?_)
  have hP : va_P D vwCl ((h0, .inr (7, f)) :: (q, .inl (ca 2, 6, .inl (upd (upd (upd zZ (0 : Int32).toNatClampNeg (vp_nar .char 103)) (1 : Int32).toNatClampNeg (vp_nar .char 104)) (2 : Int32).toNatClampNeg (vp_nar .char 98)))) :: R) _ := hP
  have hD : va_D A ((h0, .inr (7, f)) :: (q, .inl (ca 2, 6, .inl (upd (upd (upd zZ (0 : Int32).toNatClampNeg (vp_nar .char 103)) (1 : Int32).toNatClampNeg (vp_nar .char 104)) (2 : Int32).toNatClampNeg (vp_nar .char 98)))) :: R) := hD
  refine lv_dup hx hb dX10_init_75 rfl ?_
  refine lv_iconst (v := 3) hx hb dX10_init_76 (by decide) ?_
  refine lv_bipush (v := 109) hx hb dX10_init_77 (by decide) ?_
  refine va_cast hx hb hK hP hD hS 1 2 rfl rfl (zin_ok (by decide)) dX10_init_79 (fun H locs hP hD hS => ?_)
  have hP : va_P D vwCl ((h0, .inr (7, f)) :: (q, .inl (ca 2, 6, .inl (upd (upd (upd (upd zZ (0 : Int32).toNatClampNeg (vp_nar .char 103)) (1 : Int32).toNatClampNeg (vp_nar .char 104)) (2 : Int32).toNatClampNeg (vp_nar .char 98)) (3 : Int32).toNatClampNeg (vp_nar .char 109)))) :: R) _ := hP
  have hD : va_D A ((h0, .inr (7, f)) :: (q, .inl (ca 2, 6, .inl (upd (upd (upd (upd zZ (0 : Int32).toNatClampNeg (vp_nar .char 103)) (1 : Int32).toNatClampNeg (vp_nar .char 104)) (2 : Int32).toNatClampNeg (vp_nar .char 98)) (3 : Int32).toNatClampNeg (vp_nar .char 109)))) :: R) := hD
  refine lv_dup hx hb dX10_init_80 rfl ?_
  refine lv_iconst (v := 4) hx hb dX10_init_81 (by decide) ?_
  refine lv_bipush (v := 107) hx hb dX10_init_82 (by decide) ?_
  refine va_cast hx hb hK hP hD hS 1 2 rfl rfl (zin_ok (by decide)) dX10_init_84 (fun H locs hP hD hS => ?_)
  have hP : va_P D vwCl ((h0, .inr (7, f)) :: (q, .inl (ca 2, 6, .inl (upd (upd (upd (upd (upd zZ (0 : Int32).toNatClampNeg (vp_nar .char 103)) (1 : Int32).toNatClampNeg (vp_nar .char 104)) (2 : Int32).toNatClampNeg (vp_nar .char 98)) (3 : Int32).toNatClampNeg (vp_nar .char 109)) (4 : Int32).toNatClampNeg (vp_nar .char 107)))) :: R) _ := hP
  have hD : va_D A ((h0, .inr (7, f)) :: (q, .inl (ca 2, 6, .inl (upd (upd (upd (upd (upd zZ (0 : Int32).toNatClampNeg (vp_nar .char 103)) (1 : Int32).toNatClampNeg (vp_nar .char 104)) (2 : Int32).toNatClampNeg (vp_nar .char 98)) (3 : Int32).toNatClampNeg (vp_nar .char 109)) (4 : Int32).toNatClampNeg (vp_nar .char 107)))) :: R) := hD
  refine lv_dup hx hb dX10_init_85 rfl ?_
  refine lv_iconst (v := 5) hx hb dX10_init_86 (by decide) ?_
  refine lv_bipush (v := 114) hx hb dX10_init_87 (by decide) ?_
  refine va_cast hx hb hK hP hD hS 1 2 rfl rfl (zin_ok (by decide)) dX10_init_89 (fun H locs hP hD hS => ?_)
  have hP : va_P D vwCl ((h0, .inr (7, f)) :: (q, .inl (ca 2, 6, .inl (upd (upd (upd (upd (upd (upd zZ (0 : Int32).toNatClampNeg (vp_nar .char 103)) (1 : Int32).toNatClampNeg (vp_nar .char 104)) (2 : Int32).toNatClampNeg (vp_nar .char 98)) (3 : Int32).toNatClampNeg (vp_nar .char 109)) (4 : Int32).toNatClampNeg (vp_nar .char 107)) (5 : Int32).toNatClampNeg (vp_nar .char 114)))) :: R) _ := hP
  have hD : va_D A ((h0, .inr (7, f)) :: (q, .inl (ca 2, 6, .inl (upd (upd (upd (upd (upd (upd zZ (0 : Int32).toNatClampNeg (vp_nar .char 103)) (1 : Int32).toNatClampNeg (vp_nar .char 104)) (2 : Int32).toNatClampNeg (vp_nar .char 98)) (3 : Int32).toNatClampNeg (vp_nar .char 109)) (4 : Int32).toNatClampNeg (vp_nar .char 107)) (5 : Int32).toNatClampNeg (vp_nar .char 114)))) :: R) := hD
  refine zn_put (C := RX10) (T := TX10) (N := 58) (ci := 7) (v := .ref q) (ref := "CoatsOnTheBedModel") true hx hb hts zI_X10 tyX10 tyX10_ok nmX10 hown hK hP hD hS rfl 18 (by decide) zi_107 (fun _ h9 => h9) rfl hin rfl rfl rfl (by rw [hfl]; decide) dX10_init_90 (fun H locs hP hD hS => ?_)
  exact kk q H locs (by rw [List.length_set]; exact hfl) hP hD hS
set_option maxRecDepth 100000 in
theorem s10_93 {f : List Value} {R : va_W} (B : zB10 p s m args meth c A D ca ls h0) (kk : ∀ q : Nat, zC10 p l e s m args below meth c A D ca Q ls h0 131 7 54 (f.set 19 (.ref q)) ((q, .inl (ca 2, 6, .inl (upd (upd (upd (upd (upd (upd zZ (0 : Int32).toNatClampNeg (vp_nar .char 102)) (1 : Int32).toNatClampNeg (vp_nar .char 115)) (2 : Int32).toNatClampNeg (vp_nar .char 101)) (3 : Int32).toNatClampNeg (vp_nar .char 108)) (4 : Int32).toNatClampNeg (vp_nar .char 111)) (5 : Int32).toNatClampNeg (vp_nar .char 114)))) :: R)) : zC10 p l e s m args below meth c A D ca Q ls h0 93 6 48 f R := by
  obtain ⟨hx, hb, hown, hts, hA, hK, hin, hl⟩ := B
  intro H locs hfl hP hD hS
  refine lv_aload_n hx hb dX10_init_93 rfl (lv_at hl 0 rfl) ?_
  refine lv_bipush (v := 6) hx hb dX10_init_94 (by decide) ?_
  refine zn_newa ([(h0, .inr (7, f))]) (R) (k := 2) rfl hx hb hts zi_106 rfl hK hP hD hS hA (n := 6) (N' := 6) (a0 := (6, .inl zZ)) (fun _ => rfl) (by decide) (by decide) (by decide) (Nat.le_of_ble_eq_true rfl) (Nat.le_of_ble_eq_true rfl) dX10_init_96 (fun q H hP hD hS => ?_)
  have hP : va_P D vwCl ((h0, .inr (7, f)) :: (q, .inl (ca 2, 6, .inl zZ)) :: R) _ := hP
  have hD : va_D A ((h0, .inr (7, f)) :: (q, .inl (ca 2, 6, .inl zZ)) :: R) := hD
  refine W.widen (k := 7) (n := 54) (Nat.le_of_ble_eq_true rfl) (Nat.le_of_ble_eq_true rfl) ?_
  refine lv_dup hx hb dX10_init_98 rfl ?_
  refine lv_iconst (v := 0) hx hb dX10_init_99 (by decide) ?_
  refine lv_bipush (v := 102) hx hb dX10_init_100 (by decide) ?_
  refine va_cast hx hb hK hP hD hS 1 2 rfl rfl (zin_ok (by decide)) dX10_init_102 (fun H locs hP hD hS => ?_)
  have hP : va_P D vwCl ((h0, .inr (7, f)) :: (q, .inl (ca 2, 6, .inl (upd zZ (0 : Int32).toNatClampNeg (vp_nar .char 102)))) :: R) _ := hP
  have hD : va_D A ((h0, .inr (7, f)) :: (q, .inl (ca 2, 6, .inl (upd zZ (0 : Int32).toNatClampNeg (vp_nar .char 102)))) :: R) := hD
  refine lv_dup hx hb dX10_init_103 rfl ?_
  refine lv_iconst (v := 1) hx hb dX10_init_104 (by decide) ?_
  refine lv_bipush (v := 115) hx hb dX10_init_105 (by decide) ?_
  refine va_cast hx hb hK hP hD hS 1 2 rfl rfl (zin_ok (by decide)) dX10_init_107 (fun H locs hP hD hS => ?_)
  have hP : va_P D vwCl ((h0, .inr (7, f)) :: (q, .inl (ca 2, 6, .inl (upd (upd zZ (0 : Int32).toNatClampNeg (vp_nar .char 102)) (1 : Int32).toNatClampNeg (vp_nar .char 115)))) :: R) _ := hP
  have hD : va_D A ((h0, .inr (7, f)) :: (q, .inl (ca 2, 6, .inl (upd (upd zZ (0 : Int32).toNatClampNeg (vp_nar .char 102)) (1 : Int32).toNatClampNeg (vp_nar .char 115)))) :: R) := hD
  refine lv_dup hx hb dX10_init_108 rfl ?_
  refine lv_iconst (v := 2) hx hb dX10_init_109 (by decide) ?_
  refine lv_bipush (v := 101) hx hb dX10_init_110 (by decide) ?_
  refine va_cast hx hb hK hP hD hS 1 2 rfl rfl (zin_ok (by decide)) dX10_init_112 (fun H locs hP hD hS => ?_)
  have hP : va_P D vwCl ((h0, .inr (7, f)) :: (q, .inl (ca 2, 6, .inl (upd (upd (upd zZ (0 : Int32).toNatClampNeg (vp_nar .char 102)) (1 : Int32).toNatClampNeg (vp_nar .char 115)) (2 : Int32).toNatClampNeg (vp_nar .char 101)))) :: R) _ := hP
  have hD : va_D A ((h0, .inr (7, f)) :: (q, .inl (ca 2, 6, .inl (upd (upd (upd zZ (0 : Int32).toNatClampNeg (vp_nar .char 102)) (1 : Int32).toNatClampNeg (vp_nar .char 115)) (2 : Int32).toNatClampNeg (vp_nar .char 101)))) :: R) := hD
  refine lv_dup hx hb dX10_init_113 rfl ?_
  refine lv_iconst (v := 3) hx hb dX10_init_114 (by decide) ?_
  refine lv_bipush (v := 108) hx hb dX10_init_115 (by decide) ?_
  refine va_cast hx hb hK hP hD hS 1 2 rfl rfl (zin_ok (by decide)) dX10_init_117 (fun H locs hP hD hS => ?_)
  have hP : va_P D vwCl ((h0, .inr (7, f)) :: (q, .inl (ca 2, 6, .inl (upd (upd (upd (upd zZ (0 : Int32).toNatClampNeg (vp_nar .char 102)) (1 : Int32).toNatClampNeg (vp_nar .char 115)) (2 : Int32).toNatClampNeg (vp_nar .char 101)) (3 : Int32).toNatClampNeg (vp_nar .char 108)))) :: R) _ := hP
  have hD : va_D A ((h0, .inr (7, f)) :: (q, .inl (ca 2, 6, .inl (upd (upd (upd (upd zZ (0 : Int32).toNatClampNeg (vp_nar .char 102)) (1 : Int32).toNatClampNeg (vp_nar .char 115)) (2 : Int32).toNatClampNeg (vp_nar .char 101)) (3 : Int32).toNatClampNeg (vp_nar .char 108)))) :: R) := hD
  refine lv_dup hx hb dX10_init_118 rfl ?_
  refine lv_iconst (v := 4) hx hb dX10_init_119 (by decide) ?_
  refine lv_bipush (v := 111) hx hb dX10_init_120 (by decide) ?_
  refine va_cast hx hb hK hP hD hS 1 2 rfl rfl (zin_ok (by decide)) dX10_init_122 (fun H locs hP hD hS => ?_)
  have hP : va_P D vwCl ((h0, .inr (7, f)) :: (q, .inl (ca 2, 6, .inl (upd (upd (upd (upd (upd zZ (0 : Int32).toNatClampNeg (vp_nar .char 102)) (1 : Int32).toNatClampNeg (vp_nar .char 115)) (2 : Int32).toNatClampNeg (vp_nar .char 101)) (3 : Int32).toNatClampNeg (vp_nar .char 108)) (4 : Int32).toNatClampNeg (vp_nar .char 111)))) :: R) _ := hP
  have hD : va_D A ((h0, .inr (7, f)) :: (q, .inl (ca 2, 6, .inl (upd (upd (upd (upd (upd zZ (0 : Int32).toNatClampNeg (vp_nar .char 102)) (1 : Int32).toNatClampNeg (vp_nar .char 115)) (2 : Int32).toNatClampNeg (vp_nar .char 101)) (3 : Int32).toNatClampNeg (vp_nar .char 108)) (4 : Int32).toNatClampNeg (vp_nar .char 111)))) :: R) := hD
  refine lv_dup hx hb dX10_init_123 rfl ?_
  refine lv_iconst (v := 5) hx hb dX10_init_124 (by decide) ?_
  refine lv_bipush (v := 114) hx hb dX10_init_125 (by decide) ?_
  refine va_cast hx hb hK hP hD hS 1 2 rfl rfl (zin_ok (by decide)) dX10_init_127 (fun H locs hP hD hS => ?_)
  have hP : va_P D vwCl ((h0, .inr (7, f)) :: (q, .inl (ca 2, 6, .inl (upd (upd (upd (upd (upd (upd zZ (0 : Int32).toNatClampNeg (vp_nar .char 102)) (1 : Int32).toNatClampNeg (vp_nar .char 115)) (2 : Int32).toNatClampNeg (vp_nar .char 101)) (3 : Int32).toNatClampNeg (vp_nar .char 108)) (4 : Int32).toNatClampNeg (vp_nar .char 111)) (5 : Int32).toNatClampNeg (vp_nar .char 114)))) :: R) _ := hP
  have hD : va_D A ((h0, .inr (7, f)) :: (q, .inl (ca 2, 6, .inl (upd (upd (upd (upd (upd (upd zZ (0 : Int32).toNatClampNeg (vp_nar .char 102)) (1 : Int32).toNatClampNeg (vp_nar .char 115)) (2 : Int32).toNatClampNeg (vp_nar .char 101)) (3 : Int32).toNatClampNeg (vp_nar .char 108)) (4 : Int32).toNatClampNeg (vp_nar .char 111)) (5 : Int32).toNatClampNeg (vp_nar .char 114)))) :: R) := hD
  refine zn_put (C := RX10) (T := TX10) (N := 58) (ci := 7) (v := .ref q) (ref := "CoatsOnTheBedModel") true hx hb hts zI_X10 tyX10 tyX10_ok nmX10 hown hK hP hD hS rfl 19 (by decide) zi_108 (fun _ h9 => h9) rfl hin rfl rfl rfl (by rw [hfl]; decide) dX10_init_128 (fun H locs hP hD hS => ?_)
  exact kk q H locs (by rw [List.length_set]; exact hfl) hP hD hS
set_option maxRecDepth 100000 in
theorem s10_131 {f : List Value} {R : va_W} (B : zB10 p s m args meth c A D ca ls h0) (kk : ∀ q : Nat, zC10 p l e s m args below meth c A D ca Q ls h0 139 8 64 (f.set 20 (.ref q)) ((q, .inl (ca 0, 10, .inl zZ)) :: R)) : zC10 p l e s m args below meth c A D ca Q ls h0 131 7 54 f R := by
  obtain ⟨hx, hb, hown, hts, hA, hK, hin, hl⟩ := B
  intro H locs hfl hP hD hS
  refine lv_aload_n hx hb dX10_init_131 rfl (lv_at hl 0 rfl) ?_
  refine lv_bipush (v := 10) hx hb dX10_init_132 (by decide) ?_
  refine zn_newa ([(h0, .inr (7, f))]) (R) (k := 0) rfl hx hb hts zi_4 rfl hK hP hD hS hA (n := 10) (N' := 10) (a0 := (10, .inl zZ)) (fun _ => rfl) (by decide) (by decide) (by decide) (Nat.le_of_ble_eq_true rfl) (Nat.le_of_ble_eq_true rfl) dX10_init_134 (fun q H hP hD hS => ?_)
  have hP : va_P D vwCl ((h0, .inr (7, f)) :: (q, .inl (ca 0, 10, .inl zZ)) :: R) _ := hP
  have hD : va_D A ((h0, .inr (7, f)) :: (q, .inl (ca 0, 10, .inl zZ)) :: R) := hD
  refine W.widen (k := 8) (n := 64) (Nat.le_of_ble_eq_true rfl) (Nat.le_of_ble_eq_true rfl) ?_
  refine zn_put (C := RX10) (T := TX10) (N := 58) (ci := 7) (v := .ref q) (ref := "CoatsOnTheBedModel") true hx hb hts zI_X10 tyX10 tyX10_ok nmX10 hown hK hP hD hS rfl 20 (by decide) zi_109 (fun _ h9 => h9) rfl hin rfl rfl rfl (by rw [hfl]; decide) dX10_init_136 (fun H locs hP hD hS => ?_)
  exact kk q H locs (by rw [List.length_set]; exact hfl) hP hD hS
set_option maxRecDepth 100000 in
theorem s10_139 {f : List Value} {R : va_W} (B : zB10 p s m args meth c A D ca ls h0) (kk : ∀ q : Nat, zC10 p l e s m args below meth c A D ca Q ls h0 147 9 74 (f.set 22 (.ref q)) ((q, .inl (ca 0, 10, .inl zZ)) :: R)) : zC10 p l e s m args below meth c A D ca Q ls h0 139 8 64 f R := by
  obtain ⟨hx, hb, hown, hts, hA, hK, hin, hl⟩ := B
  intro H locs hfl hP hD hS
  refine lv_aload_n hx hb dX10_init_139 rfl (lv_at hl 0 rfl) ?_
  refine lv_bipush (v := 10) hx hb dX10_init_140 (by decide) ?_
  refine zn_newa ([(h0, .inr (7, f))]) (R) (k := 0) rfl hx hb hts zi_4 rfl hK hP hD hS hA (n := 10) (N' := 10) (a0 := (10, .inl zZ)) (fun _ => rfl) (by decide) (by decide) (by decide) (Nat.le_of_ble_eq_true rfl) (Nat.le_of_ble_eq_true rfl) dX10_init_142 (fun q H hP hD hS => ?_)
  have hP : va_P D vwCl ((h0, .inr (7, f)) :: (q, .inl (ca 0, 10, .inl zZ)) :: R) _ := hP
  have hD : va_D A ((h0, .inr (7, f)) :: (q, .inl (ca 0, 10, .inl zZ)) :: R) := hD
  refine W.widen (k := 9) (n := 74) (Nat.le_of_ble_eq_true rfl) (Nat.le_of_ble_eq_true rfl) ?_
  refine zn_put (C := RX10) (T := TX10) (N := 58) (ci := 7) (v := .ref q) (ref := "CoatsOnTheBedModel") true hx hb hts zI_X10 tyX10 tyX10_ok nmX10 hown hK hP hD hS rfl 22 (by decide) zi_110 (fun _ h9 => h9) rfl hin rfl rfl rfl (by rw [hfl]; decide) dX10_init_144 (fun H locs hP hD hS => ?_)
  exact kk q H locs (by rw [List.length_set]; exact hfl) hP hD hS
set_option maxRecDepth 100000 in
theorem s10_147 {f : List Value} {R : va_W} (B : zB10 p s m args meth c A D ca ls h0) (kk : ∀ q : Nat, zC10 p l e s m args below meth c A D ca Q ls h0 155 10 84 (f.set 24 (.ref q)) ((q, .inl (ca 0, 10, .inl zZ)) :: R)) : zC10 p l e s m args below meth c A D ca Q ls h0 147 9 74 f R := by
  obtain ⟨hx, hb, hown, hts, hA, hK, hin, hl⟩ := B
  intro H locs hfl hP hD hS
  refine lv_aload_n hx hb dX10_init_147 rfl (lv_at hl 0 rfl) ?_
  refine lv_bipush (v := 10) hx hb dX10_init_148 (by decide) ?_
  refine zn_newa ([(h0, .inr (7, f))]) (R) (k := 0) rfl hx hb hts zi_4 rfl hK hP hD hS hA (n := 10) (N' := 10) (a0 := (10, .inl zZ)) (fun _ => rfl) (by decide) (by decide) (by decide) (Nat.le_of_ble_eq_true rfl) (Nat.le_of_ble_eq_true rfl) dX10_init_150 (fun q H hP hD hS => ?_)
  have hP : va_P D vwCl ((h0, .inr (7, f)) :: (q, .inl (ca 0, 10, .inl zZ)) :: R) _ := hP
  have hD : va_D A ((h0, .inr (7, f)) :: (q, .inl (ca 0, 10, .inl zZ)) :: R) := hD
  refine W.widen (k := 10) (n := 84) (Nat.le_of_ble_eq_true rfl) (Nat.le_of_ble_eq_true rfl) ?_
  refine zn_put (C := RX10) (T := TX10) (N := 58) (ci := 7) (v := .ref q) (ref := "CoatsOnTheBedModel") true hx hb hts zI_X10 tyX10 tyX10_ok nmX10 hown hK hP hD hS rfl 24 (by decide) zi_111 (fun _ h9 => h9) rfl hin rfl rfl rfl (by rw [hfl]; decide) dX10_init_152 (fun H locs hP hD hS => ?_)
  exact kk q H locs (by rw [List.length_set]; exact hfl) hP hD hS
set_option maxRecDepth 100000 in
theorem s10_155 {f : List Value} {R : va_W} (B : zB10 p s m args meth c A D ca ls h0) (kk : ∀ q : Nat, zC10 p l e s m args below meth c A D ca Q ls h0 163 11 114 (f.set 25 (.ref q)) ((q, .inl (ca 0, 30, .inl zZ)) :: R)) : zC10 p l e s m args below meth c A D ca Q ls h0 155 10 84 f R := by
  obtain ⟨hx, hb, hown, hts, hA, hK, hin, hl⟩ := B
  intro H locs hfl hP hD hS
  refine lv_aload_n hx hb dX10_init_155 rfl (lv_at hl 0 rfl) ?_
  refine lv_bipush (v := 30) hx hb dX10_init_156 (by decide) ?_
  refine zn_newa ([(h0, .inr (7, f))]) (R) (k := 0) rfl hx hb hts zi_4 rfl hK hP hD hS hA (n := 30) (N' := 30) (a0 := (30, .inl zZ)) (fun _ => rfl) (by decide) (by decide) (by decide) (Nat.le_of_ble_eq_true rfl) (Nat.le_of_ble_eq_true rfl) dX10_init_158 (fun q H hP hD hS => ?_)
  have hP : va_P D vwCl ((h0, .inr (7, f)) :: (q, .inl (ca 0, 30, .inl zZ)) :: R) _ := hP
  have hD : va_D A ((h0, .inr (7, f)) :: (q, .inl (ca 0, 30, .inl zZ)) :: R) := hD
  refine W.widen (k := 11) (n := 114) (Nat.le_of_ble_eq_true rfl) (Nat.le_of_ble_eq_true rfl) ?_
  refine zn_put (C := RX10) (T := TX10) (N := 58) (ci := 7) (v := .ref q) (ref := "CoatsOnTheBedModel") true hx hb hts zI_X10 tyX10 tyX10_ok nmX10 hown hK hP hD hS rfl 25 (by decide) zi_112 (fun _ h9 => h9) rfl hin rfl rfl rfl (by rw [hfl]; decide) dX10_init_160 (fun H locs hP hD hS => ?_)
  exact kk q H locs (by rw [List.length_set]; exact hfl) hP hD hS
set_option maxRecDepth 100000 in
theorem s10_163 {f : List Value} {R : va_W} (B : zB10 p s m args meth c A D ca ls h0) (kk : ∀ q : Nat, zC10 p l e s m args below meth c A D ca Q ls h0 170 12 117 (f.set 26 (.ref q)) ((q, .inl (ca 0, 3, .inl zZ)) :: R)) : zC10 p l e s m args below meth c A D ca Q ls h0 163 11 114 f R := by
  obtain ⟨hx, hb, hown, hts, hA, hK, hin, hl⟩ := B
  intro H locs hfl hP hD hS
  refine lv_aload_n hx hb dX10_init_163 rfl (lv_at hl 0 rfl) ?_
  refine lv_iconst (v := 3) hx hb dX10_init_164 (by decide) ?_
  refine zn_newa ([(h0, .inr (7, f))]) (R) (k := 0) rfl hx hb hts zi_4 rfl hK hP hD hS hA (n := 3) (N' := 3) (a0 := (3, .inl zZ)) (fun _ => rfl) (by decide) (by decide) (by decide) (Nat.le_of_ble_eq_true rfl) (Nat.le_of_ble_eq_true rfl) dX10_init_165 (fun q H hP hD hS => ?_)
  have hP : va_P D vwCl ((h0, .inr (7, f)) :: (q, .inl (ca 0, 3, .inl zZ)) :: R) _ := hP
  have hD : va_D A ((h0, .inr (7, f)) :: (q, .inl (ca 0, 3, .inl zZ)) :: R) := hD
  refine W.widen (k := 12) (n := 117) (Nat.le_of_ble_eq_true rfl) (Nat.le_of_ble_eq_true rfl) ?_
  refine zn_put (C := RX10) (T := TX10) (N := 58) (ci := 7) (v := .ref q) (ref := "CoatsOnTheBedModel") true hx hb hts zI_X10 tyX10 tyX10_ok nmX10 hown hK hP hD hS rfl 26 (by decide) zi_113 (fun _ h9 => h9) rfl hin rfl rfl rfl (by rw [hfl]; decide) dX10_init_167 (fun H locs hP hD hS => ?_)
  exact kk q H locs (by rw [List.length_set]; exact hfl) hP hD hS
set_option maxRecDepth 100000 in
theorem s10_170 {f : List Value} {R : va_W} (B : zB10 p s m args meth c A D ca ls h0) (kk : ∀ q : Nat, zC10 p l e s m args below meth c A D ca Q ls h0 178 13 127 (f.set 27 (.ref q)) ((q, .inl (ca 0, 10, .inl zZ)) :: R)) : zC10 p l e s m args below meth c A D ca Q ls h0 170 12 117 f R := by
  obtain ⟨hx, hb, hown, hts, hA, hK, hin, hl⟩ := B
  intro H locs hfl hP hD hS
  refine lv_aload_n hx hb dX10_init_170 rfl (lv_at hl 0 rfl) ?_
  refine lv_bipush (v := 10) hx hb dX10_init_171 (by decide) ?_
  refine zn_newa ([(h0, .inr (7, f))]) (R) (k := 0) rfl hx hb hts zi_4 rfl hK hP hD hS hA (n := 10) (N' := 10) (a0 := (10, .inl zZ)) (fun _ => rfl) (by decide) (by decide) (by decide) (Nat.le_of_ble_eq_true rfl) (Nat.le_of_ble_eq_true rfl) dX10_init_173 (fun q H hP hD hS => ?_)
  have hP : va_P D vwCl ((h0, .inr (7, f)) :: (q, .inl (ca 0, 10, .inl zZ)) :: R) _ := hP
  have hD : va_D A ((h0, .inr (7, f)) :: (q, .inl (ca 0, 10, .inl zZ)) :: R) := hD
  refine W.widen (k := 13) (n := 127) (Nat.le_of_ble_eq_true rfl) (Nat.le_of_ble_eq_true rfl) ?_
  refine zn_put (C := RX10) (T := TX10) (N := 58) (ci := 7) (v := .ref q) (ref := "CoatsOnTheBedModel") true hx hb hts zI_X10 tyX10 tyX10_ok nmX10 hown hK hP hD hS rfl 27 (by decide) zi_114 (fun _ h9 => h9) rfl hin rfl rfl rfl (by rw [hfl]; decide) dX10_init_175 (fun H locs hP hD hS => ?_)
  exact kk q H locs (by rw [List.length_set]; exact hfl) hP hD hS
set_option maxRecDepth 100000 in
theorem s10_178 {f : List Value} {R : va_W} (B : zB10 p s m args meth c A D ca ls h0) (kk : ∀ q : Nat, zC10 p l e s m args below meth c A D ca Q ls h0 186 14 137 (f.set 29 (.ref q)) ((q, .inl (ca 0, 10, .inl zZ)) :: R)) : zC10 p l e s m args below meth c A D ca Q ls h0 178 13 127 f R := by
  obtain ⟨hx, hb, hown, hts, hA, hK, hin, hl⟩ := B
  intro H locs hfl hP hD hS
  refine lv_aload_n hx hb dX10_init_178 rfl (lv_at hl 0 rfl) ?_
  refine lv_bipush (v := 10) hx hb dX10_init_179 (by decide) ?_
  refine zn_newa ([(h0, .inr (7, f))]) (R) (k := 0) rfl hx hb hts zi_4 rfl hK hP hD hS hA (n := 10) (N' := 10) (a0 := (10, .inl zZ)) (fun _ => rfl) (by decide) (by decide) (by decide) (Nat.le_of_ble_eq_true rfl) (Nat.le_of_ble_eq_true rfl) dX10_init_181 (fun q H hP hD hS => ?_)
  have hP : va_P D vwCl ((h0, .inr (7, f)) :: (q, .inl (ca 0, 10, .inl zZ)) :: R) _ := hP
  have hD : va_D A ((h0, .inr (7, f)) :: (q, .inl (ca 0, 10, .inl zZ)) :: R) := hD
  refine W.widen (k := 14) (n := 137) (Nat.le_of_ble_eq_true rfl) (Nat.le_of_ble_eq_true rfl) ?_
  refine zn_put (C := RX10) (T := TX10) (N := 58) (ci := 7) (v := .ref q) (ref := "CoatsOnTheBedModel") true hx hb hts zI_X10 tyX10 tyX10_ok nmX10 hown hK hP hD hS rfl 29 (by decide) zi_115 (fun _ h9 => h9) rfl hin rfl rfl rfl (by rw [hfl]; decide) dX10_init_183 (fun H locs hP hD hS => ?_)
  exact kk q H locs (by rw [List.length_set]; exact hfl) hP hD hS
set_option maxRecDepth 100000 in
theorem s10_186 {f : List Value} {R : va_W} (B : zB10 p s m args meth c A D ca ls h0) (kk : ∀ q : Nat, zC10 p l e s m args below meth c A D ca Q ls h0 194 15 147 (f.set 30 (.ref q)) ((q, .inl (ca 0, 10, .inl zZ)) :: R)) : zC10 p l e s m args below meth c A D ca Q ls h0 186 14 137 f R := by
  obtain ⟨hx, hb, hown, hts, hA, hK, hin, hl⟩ := B
  intro H locs hfl hP hD hS
  refine lv_aload_n hx hb dX10_init_186 rfl (lv_at hl 0 rfl) ?_
  refine lv_bipush (v := 10) hx hb dX10_init_187 (by decide) ?_
  refine zn_newa ([(h0, .inr (7, f))]) (R) (k := 0) rfl hx hb hts zi_4 rfl hK hP hD hS hA (n := 10) (N' := 10) (a0 := (10, .inl zZ)) (fun _ => rfl) (by decide) (by decide) (by decide) (Nat.le_of_ble_eq_true rfl) (Nat.le_of_ble_eq_true rfl) dX10_init_189 (fun q H hP hD hS => ?_)
  have hP : va_P D vwCl ((h0, .inr (7, f)) :: (q, .inl (ca 0, 10, .inl zZ)) :: R) _ := hP
  have hD : va_D A ((h0, .inr (7, f)) :: (q, .inl (ca 0, 10, .inl zZ)) :: R) := hD
  refine W.widen (k := 15) (n := 147) (Nat.le_of_ble_eq_true rfl) (Nat.le_of_ble_eq_true rfl) ?_
  refine zn_put (C := RX10) (T := TX10) (N := 58) (ci := 7) (v := .ref q) (ref := "CoatsOnTheBedModel") true hx hb hts zI_X10 tyX10 tyX10_ok nmX10 hown hK hP hD hS rfl 30 (by decide) zi_116 (fun _ h9 => h9) rfl hin rfl rfl rfl (by rw [hfl]; decide) dX10_init_191 (fun H locs hP hD hS => ?_)
  exact kk q H locs (by rw [List.length_set]; exact hfl) hP hD hS
set_option maxRecDepth 100000 in
theorem s10_194 {f : List Value} {R : va_W} (B : zB10 p s m args meth c A D ca ls h0) (kk : ∀ q : Nat, zC10 p l e s m args below meth c A D ca Q ls h0 202 16 157 (f.set 31 (.ref q)) ((q, .inl (ca 0, 10, .inl zZ)) :: R)) : zC10 p l e s m args below meth c A D ca Q ls h0 194 15 147 f R := by
  obtain ⟨hx, hb, hown, hts, hA, hK, hin, hl⟩ := B
  intro H locs hfl hP hD hS
  refine lv_aload_n hx hb dX10_init_194 rfl (lv_at hl 0 rfl) ?_
  refine lv_bipush (v := 10) hx hb dX10_init_195 (by decide) ?_
  refine zn_newa ([(h0, .inr (7, f))]) (R) (k := 0) rfl hx hb hts zi_4 rfl hK hP hD hS hA (n := 10) (N' := 10) (a0 := (10, .inl zZ)) (fun _ => rfl) (by decide) (by decide) (by decide) (Nat.le_of_ble_eq_true rfl) (Nat.le_of_ble_eq_true rfl) dX10_init_197 (fun q H hP hD hS => ?_)
  have hP : va_P D vwCl ((h0, .inr (7, f)) :: (q, .inl (ca 0, 10, .inl zZ)) :: R) _ := hP
  have hD : va_D A ((h0, .inr (7, f)) :: (q, .inl (ca 0, 10, .inl zZ)) :: R) := hD
  refine W.widen (k := 16) (n := 157) (Nat.le_of_ble_eq_true rfl) (Nat.le_of_ble_eq_true rfl) ?_
  refine zn_put (C := RX10) (T := TX10) (N := 58) (ci := 7) (v := .ref q) (ref := "CoatsOnTheBedModel") true hx hb hts zI_X10 tyX10 tyX10_ok nmX10 hown hK hP hD hS rfl 31 (by decide) zi_117 (fun _ h9 => h9) rfl hin rfl rfl rfl (by rw [hfl]; decide) dX10_init_199 (fun H locs hP hD hS => ?_)
  exact kk q H locs (by rw [List.length_set]; exact hfl) hP hD hS
set_option maxRecDepth 100000 in
theorem s10_202 {f : List Value} {R : va_W} (B : zB10 p s m args meth c A D ca ls h0) (kk : ∀ q : Nat, zC10 p l e s m args below meth c A D ca Q ls h0 210 17 167 (f.set 32 (.ref q)) ((q, .inl (ca 0, 10, .inl zZ)) :: R)) : zC10 p l e s m args below meth c A D ca Q ls h0 202 16 157 f R := by
  obtain ⟨hx, hb, hown, hts, hA, hK, hin, hl⟩ := B
  intro H locs hfl hP hD hS
  refine lv_aload_n hx hb dX10_init_202 rfl (lv_at hl 0 rfl) ?_
  refine lv_bipush (v := 10) hx hb dX10_init_203 (by decide) ?_
  refine zn_newa ([(h0, .inr (7, f))]) (R) (k := 0) rfl hx hb hts zi_4 rfl hK hP hD hS hA (n := 10) (N' := 10) (a0 := (10, .inl zZ)) (fun _ => rfl) (by decide) (by decide) (by decide) (Nat.le_of_ble_eq_true rfl) (Nat.le_of_ble_eq_true rfl) dX10_init_205 (fun q H hP hD hS => ?_)
  have hP : va_P D vwCl ((h0, .inr (7, f)) :: (q, .inl (ca 0, 10, .inl zZ)) :: R) _ := hP
  have hD : va_D A ((h0, .inr (7, f)) :: (q, .inl (ca 0, 10, .inl zZ)) :: R) := hD
  refine W.widen (k := 17) (n := 167) (Nat.le_of_ble_eq_true rfl) (Nat.le_of_ble_eq_true rfl) ?_
  refine zn_put (C := RX10) (T := TX10) (N := 58) (ci := 7) (v := .ref q) (ref := "CoatsOnTheBedModel") true hx hb hts zI_X10 tyX10 tyX10_ok nmX10 hown hK hP hD hS rfl 32 (by decide) zi_118 (fun _ h9 => h9) rfl hin rfl rfl rfl (by rw [hfl]; decide) dX10_init_207 (fun H locs hP hD hS => ?_)
  exact kk q H locs (by rw [List.length_set]; exact hfl) hP hD hS
set_option maxRecDepth 100000 in
theorem s10_210 {f : List Value} {R : va_W} (B : zB10 p s m args meth c A D ca ls h0) (kk : ∀ q : Nat, zC10 p l e s m args below meth c A D ca Q ls h0 218 18 177 (f.set 33 (.ref q)) ((q, .inl (ca 0, 10, .inl zZ)) :: R)) : zC10 p l e s m args below meth c A D ca Q ls h0 210 17 167 f R := by
  obtain ⟨hx, hb, hown, hts, hA, hK, hin, hl⟩ := B
  intro H locs hfl hP hD hS
  refine lv_aload_n hx hb dX10_init_210 rfl (lv_at hl 0 rfl) ?_
  refine lv_bipush (v := 10) hx hb dX10_init_211 (by decide) ?_
  refine zn_newa ([(h0, .inr (7, f))]) (R) (k := 0) rfl hx hb hts zi_4 rfl hK hP hD hS hA (n := 10) (N' := 10) (a0 := (10, .inl zZ)) (fun _ => rfl) (by decide) (by decide) (by decide) (Nat.le_of_ble_eq_true rfl) (Nat.le_of_ble_eq_true rfl) dX10_init_213 (fun q H hP hD hS => ?_)
  have hP : va_P D vwCl ((h0, .inr (7, f)) :: (q, .inl (ca 0, 10, .inl zZ)) :: R) _ := hP
  have hD : va_D A ((h0, .inr (7, f)) :: (q, .inl (ca 0, 10, .inl zZ)) :: R) := hD
  refine W.widen (k := 18) (n := 177) (Nat.le_of_ble_eq_true rfl) (Nat.le_of_ble_eq_true rfl) ?_
  refine zn_put (C := RX10) (T := TX10) (N := 58) (ci := 7) (v := .ref q) (ref := "CoatsOnTheBedModel") true hx hb hts zI_X10 tyX10 tyX10_ok nmX10 hown hK hP hD hS rfl 33 (by decide) zi_119 (fun _ h9 => h9) rfl hin rfl rfl rfl (by rw [hfl]; decide) dX10_init_215 (fun H locs hP hD hS => ?_)
  exact kk q H locs (by rw [List.length_set]; exact hfl) hP hD hS
set_option maxRecDepth 100000 in
theorem s10_218 {f : List Value} {R : va_W} (B : zB10 p s m args meth c A D ca ls h0) (kk : ∀ q : Nat, zC10 p l e s m args below meth c A D ca Q ls h0 226 19 187 (f.set 34 (.ref q)) ((q, .inl (ca 1, 10, .inl zZ)) :: R)) : zC10 p l e s m args below meth c A D ca Q ls h0 218 18 177 f R := by
  obtain ⟨hx, hb, hown, hts, hA, hK, hin, hl⟩ := B
  intro H locs hfl hP hD hS
  refine lv_aload_n hx hb dX10_init_218 rfl (lv_at hl 0 rfl) ?_
  refine lv_bipush (v := 10) hx hb dX10_init_219 (by decide) ?_
  refine zn_newa ([(h0, .inr (7, f))]) (R) (k := 1) rfl hx hb hts zi_52 rfl hK hP hD hS hA (n := 10) (N' := 10) (a0 := (10, .inl zZ)) (fun _ => rfl) (by decide) (by decide) (by decide) (Nat.le_of_ble_eq_true rfl) (Nat.le_of_ble_eq_true rfl) dX10_init_221 (fun q H hP hD hS => ?_)
  have hP : va_P D vwCl ((h0, .inr (7, f)) :: (q, .inl (ca 1, 10, .inl zZ)) :: R) _ := hP
  have hD : va_D A ((h0, .inr (7, f)) :: (q, .inl (ca 1, 10, .inl zZ)) :: R) := hD
  refine W.widen (k := 19) (n := 187) (Nat.le_of_ble_eq_true rfl) (Nat.le_of_ble_eq_true rfl) ?_
  refine zn_put (C := RX10) (T := TX10) (N := 58) (ci := 7) (v := .ref q) (ref := "CoatsOnTheBedModel") true hx hb hts zI_X10 tyX10 tyX10_ok nmX10 hown hK hP hD hS rfl 34 (by decide) zi_120 (fun _ h9 => h9) rfl hin rfl rfl rfl (by rw [hfl]; decide) dX10_init_223 (fun H locs hP hD hS => ?_)
  exact kk q H locs (by rw [List.length_set]; exact hfl) hP hD hS
set_option maxRecDepth 100000 in
theorem s10_226 {f : List Value} {R : va_W} (B : zB10 p s m args meth c A D ca ls h0) (kk : ∀ q : Nat, zC10 p l e s m args below meth c A D ca Q ls h0 234 20 197 (f.set 35 (.ref q)) ((q, .inl (ca 0, 10, .inl zZ)) :: R)) : zC10 p l e s m args below meth c A D ca Q ls h0 226 19 187 f R := by
  obtain ⟨hx, hb, hown, hts, hA, hK, hin, hl⟩ := B
  intro H locs hfl hP hD hS
  refine lv_aload_n hx hb dX10_init_226 rfl (lv_at hl 0 rfl) ?_
  refine lv_bipush (v := 10) hx hb dX10_init_227 (by decide) ?_
  refine zn_newa ([(h0, .inr (7, f))]) (R) (k := 0) rfl hx hb hts zi_4 rfl hK hP hD hS hA (n := 10) (N' := 10) (a0 := (10, .inl zZ)) (fun _ => rfl) (by decide) (by decide) (by decide) (Nat.le_of_ble_eq_true rfl) (Nat.le_of_ble_eq_true rfl) dX10_init_229 (fun q H hP hD hS => ?_)
  have hP : va_P D vwCl ((h0, .inr (7, f)) :: (q, .inl (ca 0, 10, .inl zZ)) :: R) _ := hP
  have hD : va_D A ((h0, .inr (7, f)) :: (q, .inl (ca 0, 10, .inl zZ)) :: R) := hD
  refine W.widen (k := 20) (n := 197) (Nat.le_of_ble_eq_true rfl) (Nat.le_of_ble_eq_true rfl) ?_
  refine zn_put (C := RX10) (T := TX10) (N := 58) (ci := 7) (v := .ref q) (ref := "CoatsOnTheBedModel") true hx hb hts zI_X10 tyX10 tyX10_ok nmX10 hown hK hP hD hS rfl 35 (by decide) zi_121 (fun _ h9 => h9) rfl hin rfl rfl rfl (by rw [hfl]; decide) dX10_init_231 (fun H locs hP hD hS => ?_)
  exact kk q H locs (by rw [List.length_set]; exact hfl) hP hD hS
set_option maxRecDepth 100000 in
theorem s10_234 {f : List Value} {R : va_W} (B : zB10 p s m args meth c A D ca ls h0) (kk : ∀ q : Nat, zC10 p l e s m args below meth c A D ca Q ls h0 242 21 208 (f.set 38 (.ref q)) ((q, .inl (ca 0, 11, .inl zZ)) :: R)) : zC10 p l e s m args below meth c A D ca Q ls h0 234 20 197 f R := by
  obtain ⟨hx, hb, hown, hts, hA, hK, hin, hl⟩ := B
  intro H locs hfl hP hD hS
  refine lv_aload_n hx hb dX10_init_234 rfl (lv_at hl 0 rfl) ?_
  refine lv_bipush (v := 11) hx hb dX10_init_235 (by decide) ?_
  refine zn_newa ([(h0, .inr (7, f))]) (R) (k := 0) rfl hx hb hts zi_4 rfl hK hP hD hS hA (n := 11) (N' := 11) (a0 := (11, .inl zZ)) (fun _ => rfl) (by decide) (by decide) (by decide) (Nat.le_of_ble_eq_true rfl) (Nat.le_of_ble_eq_true rfl) dX10_init_237 (fun q H hP hD hS => ?_)
  have hP : va_P D vwCl ((h0, .inr (7, f)) :: (q, .inl (ca 0, 11, .inl zZ)) :: R) _ := hP
  have hD : va_D A ((h0, .inr (7, f)) :: (q, .inl (ca 0, 11, .inl zZ)) :: R) := hD
  refine W.widen (k := 21) (n := 208) (Nat.le_of_ble_eq_true rfl) (Nat.le_of_ble_eq_true rfl) ?_
  refine zn_put (C := RX10) (T := TX10) (N := 58) (ci := 7) (v := .ref q) (ref := "CoatsOnTheBedModel") true hx hb hts zI_X10 tyX10 tyX10_ok nmX10 hown hK hP hD hS rfl 38 (by decide) zi_122 (fun _ h9 => h9) rfl hin rfl rfl rfl (by rw [hfl]; decide) dX10_init_239 (fun H locs hP hD hS => ?_)
  exact kk q H locs (by rw [List.length_set]; exact hfl) hP hD hS
set_option maxRecDepth 100000 in
theorem s10_242 {f : List Value} {R : va_W} (B : zB10 p s m args meth c A D ca ls h0) (kk : ∀ q : Nat, zC10 p l e s m args below meth c A D ca Q ls h0 250 22 218 (f.set 39 (.ref q)) ((q, .inl (ca 0, 10, .inl zZ)) :: R)) : zC10 p l e s m args below meth c A D ca Q ls h0 242 21 208 f R := by
  obtain ⟨hx, hb, hown, hts, hA, hK, hin, hl⟩ := B
  intro H locs hfl hP hD hS
  refine lv_aload_n hx hb dX10_init_242 rfl (lv_at hl 0 rfl) ?_
  refine lv_bipush (v := 10) hx hb dX10_init_243 (by decide) ?_
  refine zn_newa ([(h0, .inr (7, f))]) (R) (k := 0) rfl hx hb hts zi_4 rfl hK hP hD hS hA (n := 10) (N' := 10) (a0 := (10, .inl zZ)) (fun _ => rfl) (by decide) (by decide) (by decide) (Nat.le_of_ble_eq_true rfl) (Nat.le_of_ble_eq_true rfl) dX10_init_245 (fun q H hP hD hS => ?_)
  have hP : va_P D vwCl ((h0, .inr (7, f)) :: (q, .inl (ca 0, 10, .inl zZ)) :: R) _ := hP
  have hD : va_D A ((h0, .inr (7, f)) :: (q, .inl (ca 0, 10, .inl zZ)) :: R) := hD
  refine W.widen (k := 22) (n := 218) (Nat.le_of_ble_eq_true rfl) (Nat.le_of_ble_eq_true rfl) ?_
  refine zn_put (C := RX10) (T := TX10) (N := 58) (ci := 7) (v := .ref q) (ref := "CoatsOnTheBedModel") true hx hb hts zI_X10 tyX10 tyX10_ok nmX10 hown hK hP hD hS rfl 39 (by decide) zi_123 (fun _ h9 => h9) rfl hin rfl rfl rfl (by rw [hfl]; decide) dX10_init_247 (fun H locs hP hD hS => ?_)
  exact kk q H locs (by rw [List.length_set]; exact hfl) hP hD hS
set_option maxRecDepth 100000 in
theorem s10_250 {f : List Value} {R : va_W} (B : zB10 p s m args meth c A D ca ls h0) (kk : ∀ q : Nat, zC10 p l e s m args below meth c A D ca Q ls h0 258 23 227 (f.set 44 (.ref q)) ((q, .inl (ca 0, 9, .inl zZ)) :: R)) : zC10 p l e s m args below meth c A D ca Q ls h0 250 22 218 f R := by
  obtain ⟨hx, hb, hown, hts, hA, hK, hin, hl⟩ := B
  intro H locs hfl hP hD hS
  refine lv_aload_n hx hb dX10_init_250 rfl (lv_at hl 0 rfl) ?_
  refine lv_bipush (v := 9) hx hb dX10_init_251 (by decide) ?_
  refine zn_newa ([(h0, .inr (7, f))]) (R) (k := 0) rfl hx hb hts zi_4 rfl hK hP hD hS hA (n := 9) (N' := 9) (a0 := (9, .inl zZ)) (fun _ => rfl) (by decide) (by decide) (by decide) (Nat.le_of_ble_eq_true rfl) (Nat.le_of_ble_eq_true rfl) dX10_init_253 (fun q H hP hD hS => ?_)
  have hP : va_P D vwCl ((h0, .inr (7, f)) :: (q, .inl (ca 0, 9, .inl zZ)) :: R) _ := hP
  have hD : va_D A ((h0, .inr (7, f)) :: (q, .inl (ca 0, 9, .inl zZ)) :: R) := hD
  refine W.widen (k := 23) (n := 227) (Nat.le_of_ble_eq_true rfl) (Nat.le_of_ble_eq_true rfl) ?_
  refine zn_put (C := RX10) (T := TX10) (N := 58) (ci := 7) (v := .ref q) (ref := "CoatsOnTheBedModel") true hx hb hts zI_X10 tyX10 tyX10_ok nmX10 hown hK hP hD hS rfl 44 (by decide) zi_124 (fun _ h9 => h9) rfl hin rfl rfl rfl (by rw [hfl]; decide) dX10_init_255 (fun H locs hP hD hS => ?_)
  exact kk q H locs (by rw [List.length_set]; exact hfl) hP hD hS
set_option maxRecDepth 100000 in
theorem s10_258 {f : List Value} {R : va_W} (B : zB10 p s m args meth c A D ca ls h0) (kk : ∀ q : Nat, zC10 p l e s m args below meth c A D ca Q ls h0 266 24 236 (f.set 45 (.ref q)) ((q, .inl (ca 0, 9, .inl zZ)) :: R)) : zC10 p l e s m args below meth c A D ca Q ls h0 258 23 227 f R := by
  obtain ⟨hx, hb, hown, hts, hA, hK, hin, hl⟩ := B
  intro H locs hfl hP hD hS
  refine lv_aload_n hx hb dX10_init_258 rfl (lv_at hl 0 rfl) ?_
  refine lv_bipush (v := 9) hx hb dX10_init_259 (by decide) ?_
  refine zn_newa ([(h0, .inr (7, f))]) (R) (k := 0) rfl hx hb hts zi_4 rfl hK hP hD hS hA (n := 9) (N' := 9) (a0 := (9, .inl zZ)) (fun _ => rfl) (by decide) (by decide) (by decide) (Nat.le_of_ble_eq_true rfl) (Nat.le_of_ble_eq_true rfl) dX10_init_261 (fun q H hP hD hS => ?_)
  have hP : va_P D vwCl ((h0, .inr (7, f)) :: (q, .inl (ca 0, 9, .inl zZ)) :: R) _ := hP
  have hD : va_D A ((h0, .inr (7, f)) :: (q, .inl (ca 0, 9, .inl zZ)) :: R) := hD
  refine W.widen (k := 24) (n := 236) (Nat.le_of_ble_eq_true rfl) (Nat.le_of_ble_eq_true rfl) ?_
  refine zn_put (C := RX10) (T := TX10) (N := 58) (ci := 7) (v := .ref q) (ref := "CoatsOnTheBedModel") true hx hb hts zI_X10 tyX10 tyX10_ok nmX10 hown hK hP hD hS rfl 45 (by decide) zi_125 (fun _ h9 => h9) rfl hin rfl rfl rfl (by rw [hfl]; decide) dX10_init_263 (fun H locs hP hD hS => ?_)
  exact kk q H locs (by rw [List.length_set]; exact hfl) hP hD hS
set_option maxRecDepth 100000 in
theorem s10_266 {f : List Value} {R : va_W} (B : zB10 p s m args meth c A D ca ls h0) (kk : ∀ q : Nat, zC10 p l e s m args below meth c A D ca Q ls h0 274 25 296 (f.set 47 (.ref q)) ((q, .inl (ca 0, 60, .inl zZ)) :: R)) : zC10 p l e s m args below meth c A D ca Q ls h0 266 24 236 f R := by
  obtain ⟨hx, hb, hown, hts, hA, hK, hin, hl⟩ := B
  intro H locs hfl hP hD hS
  refine lv_aload_n hx hb dX10_init_266 rfl (lv_at hl 0 rfl) ?_
  refine lv_bipush (v := 60) hx hb dX10_init_267 (by decide) ?_
  refine zn_newa ([(h0, .inr (7, f))]) (R) (k := 0) rfl hx hb hts zi_4 rfl hK hP hD hS hA (n := 60) (N' := 60) (a0 := (60, .inl zZ)) (fun _ => rfl) (by decide) (by decide) (by decide) (Nat.le_of_ble_eq_true rfl) (Nat.le_of_ble_eq_true rfl) dX10_init_269 (fun q H hP hD hS => ?_)
  have hP : va_P D vwCl ((h0, .inr (7, f)) :: (q, .inl (ca 0, 60, .inl zZ)) :: R) _ := hP
  have hD : va_D A ((h0, .inr (7, f)) :: (q, .inl (ca 0, 60, .inl zZ)) :: R) := hD
  refine W.widen (k := 25) (n := 296) (Nat.le_of_ble_eq_true rfl) (Nat.le_of_ble_eq_true rfl) ?_
  refine zn_put (C := RX10) (T := TX10) (N := 58) (ci := 7) (v := .ref q) (ref := "CoatsOnTheBedModel") true hx hb hts zI_X10 tyX10 tyX10_ok nmX10 hown hK hP hD hS rfl 47 (by decide) zi_126 (fun _ h9 => h9) rfl hin rfl rfl rfl (by rw [hfl]; decide) dX10_init_271 (fun H locs hP hD hS => ?_)
  exact kk q H locs (by rw [List.length_set]; exact hfl) hP hD hS
set_option maxRecDepth 100000 in
theorem s10_274 {f : List Value} {R : va_W} (B : zB10 p s m args meth c A D ca ls h0) (kk : ∀ q : Nat, zC10 p l e s m args below meth c A D ca Q ls h0 282 26 356 (f.set 48 (.ref q)) ((q, .inl (ca 0, 60, .inl zZ)) :: R)) : zC10 p l e s m args below meth c A D ca Q ls h0 274 25 296 f R := by
  obtain ⟨hx, hb, hown, hts, hA, hK, hin, hl⟩ := B
  intro H locs hfl hP hD hS
  refine lv_aload_n hx hb dX10_init_274 rfl (lv_at hl 0 rfl) ?_
  refine lv_bipush (v := 60) hx hb dX10_init_275 (by decide) ?_
  refine zn_newa ([(h0, .inr (7, f))]) (R) (k := 0) rfl hx hb hts zi_4 rfl hK hP hD hS hA (n := 60) (N' := 60) (a0 := (60, .inl zZ)) (fun _ => rfl) (by decide) (by decide) (by decide) (Nat.le_of_ble_eq_true rfl) (Nat.le_of_ble_eq_true rfl) dX10_init_277 (fun q H hP hD hS => ?_)
  have hP : va_P D vwCl ((h0, .inr (7, f)) :: (q, .inl (ca 0, 60, .inl zZ)) :: R) _ := hP
  have hD : va_D A ((h0, .inr (7, f)) :: (q, .inl (ca 0, 60, .inl zZ)) :: R) := hD
  refine W.widen (k := 26) (n := 356) (Nat.le_of_ble_eq_true rfl) (Nat.le_of_ble_eq_true rfl) ?_
  refine zn_put (C := RX10) (T := TX10) (N := 58) (ci := 7) (v := .ref q) (ref := "CoatsOnTheBedModel") true hx hb hts zI_X10 tyX10 tyX10_ok nmX10 hown hK hP hD hS rfl 48 (by decide) zi_127 (fun _ h9 => h9) rfl hin rfl rfl rfl (by rw [hfl]; decide) dX10_init_279 (fun H locs hP hD hS => ?_)
  exact kk q H locs (by rw [List.length_set]; exact hfl) hP hD hS
set_option maxRecDepth 100000 in
theorem s10_282 {f : List Value} {R : va_W} (B : zB10 p s m args meth c A D ca ls h0) (kk : ∀ q : Nat, zC10 p l e s m args below meth c A D ca Q ls h0 290 27 364 (f.set 50 (.ref q)) ((q, .inl (ca 0, 8, .inl zZ)) :: R)) : zC10 p l e s m args below meth c A D ca Q ls h0 282 26 356 f R := by
  obtain ⟨hx, hb, hown, hts, hA, hK, hin, hl⟩ := B
  intro H locs hfl hP hD hS
  refine lv_aload_n hx hb dX10_init_282 rfl (lv_at hl 0 rfl) ?_
  refine lv_bipush (v := 8) hx hb dX10_init_283 (by decide) ?_
  refine zn_newa ([(h0, .inr (7, f))]) (R) (k := 0) rfl hx hb hts zi_4 rfl hK hP hD hS hA (n := 8) (N' := 8) (a0 := (8, .inl zZ)) (fun _ => rfl) (by decide) (by decide) (by decide) (Nat.le_of_ble_eq_true rfl) (Nat.le_of_ble_eq_true rfl) dX10_init_285 (fun q H hP hD hS => ?_)
  have hP : va_P D vwCl ((h0, .inr (7, f)) :: (q, .inl (ca 0, 8, .inl zZ)) :: R) _ := hP
  have hD : va_D A ((h0, .inr (7, f)) :: (q, .inl (ca 0, 8, .inl zZ)) :: R) := hD
  refine W.widen (k := 27) (n := 364) (Nat.le_of_ble_eq_true rfl) (Nat.le_of_ble_eq_true rfl) ?_
  refine zn_put (C := RX10) (T := TX10) (N := 58) (ci := 7) (v := .ref q) (ref := "CoatsOnTheBedModel") true hx hb hts zI_X10 tyX10 tyX10_ok nmX10 hown hK hP hD hS rfl 50 (by decide) zi_128 (fun _ h9 => h9) rfl hin rfl rfl rfl (by rw [hfl]; decide) dX10_init_287 (fun H locs hP hD hS => ?_)
  exact kk q H locs (by rw [List.length_set]; exact hfl) hP hD hS
set_option maxRecDepth 100000 in
theorem s10_290 {f : List Value} {R : va_W} (B : zB10 p s m args meth c A D ca ls h0) (kk : ∀ q : Nat, zC10 p l e s m args below meth c A D ca Q ls h0 298 28 372 (f.set 51 (.ref q)) ((q, .inl (ca 0, 8, .inl zZ)) :: R)) : zC10 p l e s m args below meth c A D ca Q ls h0 290 27 364 f R := by
  obtain ⟨hx, hb, hown, hts, hA, hK, hin, hl⟩ := B
  intro H locs hfl hP hD hS
  refine lv_aload_n hx hb dX10_init_290 rfl (lv_at hl 0 rfl) ?_
  refine lv_bipush (v := 8) hx hb dX10_init_291 (by decide) ?_
  refine zn_newa ([(h0, .inr (7, f))]) (R) (k := 0) rfl hx hb hts zi_4 rfl hK hP hD hS hA (n := 8) (N' := 8) (a0 := (8, .inl zZ)) (fun _ => rfl) (by decide) (by decide) (by decide) (Nat.le_of_ble_eq_true rfl) (Nat.le_of_ble_eq_true rfl) dX10_init_293 (fun q H hP hD hS => ?_)
  have hP : va_P D vwCl ((h0, .inr (7, f)) :: (q, .inl (ca 0, 8, .inl zZ)) :: R) _ := hP
  have hD : va_D A ((h0, .inr (7, f)) :: (q, .inl (ca 0, 8, .inl zZ)) :: R) := hD
  refine W.widen (k := 28) (n := 372) (Nat.le_of_ble_eq_true rfl) (Nat.le_of_ble_eq_true rfl) ?_
  refine zn_put (C := RX10) (T := TX10) (N := 58) (ci := 7) (v := .ref q) (ref := "CoatsOnTheBedModel") true hx hb hts zI_X10 tyX10 tyX10_ok nmX10 hown hK hP hD hS rfl 51 (by decide) zi_129 (fun _ h9 => h9) rfl hin rfl rfl rfl (by rw [hfl]; decide) dX10_init_295 (fun H locs hP hD hS => ?_)
  exact kk q H locs (by rw [List.length_set]; exact hfl) hP hD hS
set_option maxRecDepth 100000 in
theorem s10_298 {f : List Value} {R : va_W} (B : zB10 p s m args meth c A D ca ls h0) (kk : ∀ q : Nat, zC10 p l e s m args below meth c A D ca Q ls h0 306 29 380 (f.set 52 (.ref q)) ((q, .inl (ca 0, 8, .inl zZ)) :: R)) : zC10 p l e s m args below meth c A D ca Q ls h0 298 28 372 f R := by
  obtain ⟨hx, hb, hown, hts, hA, hK, hin, hl⟩ := B
  intro H locs hfl hP hD hS
  refine lv_aload_n hx hb dX10_init_298 rfl (lv_at hl 0 rfl) ?_
  refine lv_bipush (v := 8) hx hb dX10_init_299 (by decide) ?_
  refine zn_newa ([(h0, .inr (7, f))]) (R) (k := 0) rfl hx hb hts zi_4 rfl hK hP hD hS hA (n := 8) (N' := 8) (a0 := (8, .inl zZ)) (fun _ => rfl) (by decide) (by decide) (by decide) (Nat.le_of_ble_eq_true rfl) (Nat.le_of_ble_eq_true rfl) dX10_init_301 (fun q H hP hD hS => ?_)
  have hP : va_P D vwCl ((h0, .inr (7, f)) :: (q, .inl (ca 0, 8, .inl zZ)) :: R) _ := hP
  have hD : va_D A ((h0, .inr (7, f)) :: (q, .inl (ca 0, 8, .inl zZ)) :: R) := hD
  refine W.widen (k := 29) (n := 380) (Nat.le_of_ble_eq_true rfl) (Nat.le_of_ble_eq_true rfl) ?_
  refine zn_put (C := RX10) (T := TX10) (N := 58) (ci := 7) (v := .ref q) (ref := "CoatsOnTheBedModel") true hx hb hts zI_X10 tyX10 tyX10_ok nmX10 hown hK hP hD hS rfl 52 (by decide) zi_130 (fun _ h9 => h9) rfl hin rfl rfl rfl (by rw [hfl]; decide) dX10_init_303 (fun H locs hP hD hS => ?_)
  exact kk q H locs (by rw [List.length_set]; exact hfl) hP hD hS
set_option maxRecDepth 100000 in
theorem s10_306 {f : List Value} {R : va_W} (B : zB10 p s m args meth c A D ca ls h0) (kk : ∀ q : Nat, zC10 p l e s m args below meth c A D ca Q ls h0 314 30 388 (f.set 53 (.ref q)) ((q, .inl (ca 0, 8, .inl zZ)) :: R)) : zC10 p l e s m args below meth c A D ca Q ls h0 306 29 380 f R := by
  obtain ⟨hx, hb, hown, hts, hA, hK, hin, hl⟩ := B
  intro H locs hfl hP hD hS
  refine lv_aload_n hx hb dX10_init_306 rfl (lv_at hl 0 rfl) ?_
  refine lv_bipush (v := 8) hx hb dX10_init_307 (by decide) ?_
  refine zn_newa ([(h0, .inr (7, f))]) (R) (k := 0) rfl hx hb hts zi_4 rfl hK hP hD hS hA (n := 8) (N' := 8) (a0 := (8, .inl zZ)) (fun _ => rfl) (by decide) (by decide) (by decide) (Nat.le_of_ble_eq_true rfl) (Nat.le_of_ble_eq_true rfl) dX10_init_309 (fun q H hP hD hS => ?_)
  have hP : va_P D vwCl ((h0, .inr (7, f)) :: (q, .inl (ca 0, 8, .inl zZ)) :: R) _ := hP
  have hD : va_D A ((h0, .inr (7, f)) :: (q, .inl (ca 0, 8, .inl zZ)) :: R) := hD
  refine W.widen (k := 30) (n := 388) (Nat.le_of_ble_eq_true rfl) (Nat.le_of_ble_eq_true rfl) ?_
  refine zn_put (C := RX10) (T := TX10) (N := 58) (ci := 7) (v := .ref q) (ref := "CoatsOnTheBedModel") true hx hb hts zI_X10 tyX10 tyX10_ok nmX10 hown hK hP hD hS rfl 53 (by decide) zi_131 (fun _ h9 => h9) rfl hin rfl rfl rfl (by rw [hfl]; decide) dX10_init_311 (fun H locs hP hD hS => ?_)
  exact kk q H locs (by rw [List.length_set]; exact hfl) hP hD hS
set_option maxRecDepth 100000 in
theorem s10_314 {f : List Value} {R : va_W} (B : zB10 p s m args meth c A D ca ls h0) (kk : ∀ q : Nat, zC10 p l e s m args below meth c A D ca Q ls h0 322 31 396 (f.set 54 (.ref q)) ((q, .inl (ca 0, 8, .inl zZ)) :: R)) : zC10 p l e s m args below meth c A D ca Q ls h0 314 30 388 f R := by
  obtain ⟨hx, hb, hown, hts, hA, hK, hin, hl⟩ := B
  intro H locs hfl hP hD hS
  refine lv_aload_n hx hb dX10_init_314 rfl (lv_at hl 0 rfl) ?_
  refine lv_bipush (v := 8) hx hb dX10_init_315 (by decide) ?_
  refine zn_newa ([(h0, .inr (7, f))]) (R) (k := 0) rfl hx hb hts zi_4 rfl hK hP hD hS hA (n := 8) (N' := 8) (a0 := (8, .inl zZ)) (fun _ => rfl) (by decide) (by decide) (by decide) (Nat.le_of_ble_eq_true rfl) (Nat.le_of_ble_eq_true rfl) dX10_init_317 (fun q H hP hD hS => ?_)
  have hP : va_P D vwCl ((h0, .inr (7, f)) :: (q, .inl (ca 0, 8, .inl zZ)) :: R) _ := hP
  have hD : va_D A ((h0, .inr (7, f)) :: (q, .inl (ca 0, 8, .inl zZ)) :: R) := hD
  refine W.widen (k := 31) (n := 396) (Nat.le_of_ble_eq_true rfl) (Nat.le_of_ble_eq_true rfl) ?_
  refine zn_put (C := RX10) (T := TX10) (N := 58) (ci := 7) (v := .ref q) (ref := "CoatsOnTheBedModel") true hx hb hts zI_X10 tyX10 tyX10_ok nmX10 hown hK hP hD hS rfl 54 (by decide) zi_132 (fun _ h9 => h9) rfl hin rfl rfl rfl (by rw [hfl]; decide) dX10_init_319 (fun H locs hP hD hS => ?_)
  exact kk q H locs (by rw [List.length_set]; exact hfl) hP hD hS
set_option maxRecDepth 100000 in
theorem s10_322 {f : List Value} {R : va_W} (B : zB10 p s m args meth c A D ca ls h0) (kk : ∀ q : Nat, zC10 p l e s m args below meth c A D ca Q ls h0 331 32 1196 (f.set 55 (.ref q)) ((q, .inl (ca 0, 800, .inl zZ)) :: R)) : zC10 p l e s m args below meth c A D ca Q ls h0 322 31 396 f R := by
  obtain ⟨hx, hb, hown, hts, hA, hK, hin, hl⟩ := B
  intro H locs hfl hP hD hS
  refine lv_aload_n hx hb dX10_init_322 rfl (lv_at hl 0 rfl) ?_
  refine lv_sipush (v := 800) hx hb dX10_init_323 (by decide) ?_
  refine zn_newa ([(h0, .inr (7, f))]) (R) (k := 0) rfl hx hb hts zi_4 rfl hK hP hD hS hA (n := 800) (N' := 800) (a0 := (800, .inl zZ)) (fun _ => rfl) (by decide) (by decide) (by decide) (Nat.le_of_ble_eq_true rfl) (Nat.le_of_ble_eq_true rfl) dX10_init_326 (fun q H hP hD hS => ?_)
  have hP : va_P D vwCl ((h0, .inr (7, f)) :: (q, .inl (ca 0, 800, .inl zZ)) :: R) _ := hP
  have hD : va_D A ((h0, .inr (7, f)) :: (q, .inl (ca 0, 800, .inl zZ)) :: R) := hD
  refine W.widen (k := 32) (n := 1196) (Nat.le_of_ble_eq_true rfl) (Nat.le_of_ble_eq_true rfl) ?_
  refine zn_put (C := RX10) (T := TX10) (N := 58) (ci := 7) (v := .ref q) (ref := "CoatsOnTheBedModel") true hx hb hts zI_X10 tyX10 tyX10_ok nmX10 hown hK hP hD hS rfl 55 (by decide) zi_133 (fun _ h9 => h9) rfl hin rfl rfl rfl (by rw [hfl]; decide) dX10_init_328 (fun H locs hP hD hS => ?_)
  exact kk q H locs (by rw [List.length_set]; exact hfl) hP hD hS
set_option maxRecDepth 100000 in
theorem s10_331 {f : List Value} {R : va_W} (B : zB10 p s m args meth c A D ca ls h0) (kk : ∀ q : Nat, zC10 p l e s m args below meth c A D ca Q ls h0 339 33 1296 (f.set 56 (.ref q)) ((q, .inl (ca 0, 100, .inl zZ)) :: R)) : zC10 p l e s m args below meth c A D ca Q ls h0 331 32 1196 f R := by
  obtain ⟨hx, hb, hown, hts, hA, hK, hin, hl⟩ := B
  intro H locs hfl hP hD hS
  refine lv_aload_n hx hb dX10_init_331 rfl (lv_at hl 0 rfl) ?_
  refine lv_bipush (v := 100) hx hb dX10_init_332 (by decide) ?_
  refine zn_newa ([(h0, .inr (7, f))]) (R) (k := 0) rfl hx hb hts zi_4 rfl hK hP hD hS hA (n := 100) (N' := 100) (a0 := (100, .inl zZ)) (fun _ => rfl) (by decide) (by decide) (by decide) (Nat.le_of_ble_eq_true rfl) (Nat.le_of_ble_eq_true rfl) dX10_init_334 (fun q H hP hD hS => ?_)
  have hP : va_P D vwCl ((h0, .inr (7, f)) :: (q, .inl (ca 0, 100, .inl zZ)) :: R) _ := hP
  have hD : va_D A ((h0, .inr (7, f)) :: (q, .inl (ca 0, 100, .inl zZ)) :: R) := hD
  refine W.widen (k := 33) (n := 1296) (Nat.le_of_ble_eq_true rfl) (Nat.le_of_ble_eq_true rfl) ?_
  refine zn_put (C := RX10) (T := TX10) (N := 58) (ci := 7) (v := .ref q) (ref := "CoatsOnTheBedModel") true hx hb hts zI_X10 tyX10 tyX10_ok nmX10 hown hK hP hD hS rfl 56 (by decide) zi_134 (fun _ h9 => h9) rfl hin rfl rfl rfl (by rw [hfl]; decide) dX10_init_336 (fun H locs hP hD hS => ?_)
  exact kk q H locs (by rw [List.length_set]; exact hfl) hP hD hS
end
set_option maxHeartbeats 4000000 in
set_option maxRecDepth 100000 in
theorem zfin10 (q4 q12 q20 q39 q47 q55 q93 q131 q139 q147 q155 q163 q170 q178 q186 q194 q202 q210 q218 q226 q234 q242 q250 q258 q266 q274 q282 q290 q298 q306 q314 q322 q331 : Nat) : (((((((((((((((((((((((((((((((((((zf10.set 1 (.ref q4)).set 2 (.ref q12)).set 3 (.ref q20)).set 4 (.int 2)).set 5 (.int 9)).set 10 (.ref q39)).set 16 (.ref q47)).set 18 (.ref q55)).set 19 (.ref q93)).set 20 (.ref q131)).set 22 (.ref q139)).set 24 (.ref q147)).set 25 (.ref q155)).set 26 (.ref q163)).set 27 (.ref q170)).set 29 (.ref q178)).set 30 (.ref q186)).set 31 (.ref q194)).set 32 (.ref q202)).set 33 (.ref q210)).set 34 (.ref q218)).set 35 (.ref q226)).set 38 (.ref q234)).set 39 (.ref q242)).set 44 (.ref q250)).set 45 (.ref q258)).set 47 (.ref q266)).set 48 (.ref q274)).set 50 (.ref q282)).set 51 (.ref q290)).set 52 (.ref q298)).set 53 (.ref q306)).set 54 (.ref q314)).set 55 (.ref q322)).set 56 (.ref q331)) = ([.int 0, .ref q4, .ref q12, .ref q20, .int 2, .int 9, .int 0, .int 0, .int 0, .int 0, .ref q39, .int 0, .int 0, .int 0, .int 0, .int 0, .ref q47, .int 0, .ref q55, .ref q93, .ref q131, .int 0, .ref q139, .int 0, .ref q147, .ref q155, .ref q163, .ref q170, .int 0, .ref q178, .ref q186, .ref q194, .ref q202, .ref q210, .ref q218, .ref q226, .int 0, .int 0, .ref q234, .ref q242, .int 0, .int 0, .int 0, .int 0, .ref q250, .ref q258, .int 0, .ref q266, .ref q274, .int 0, .ref q282, .ref q290, .ref q298, .ref q306, .ref q314, .ref q322, .ref q331, .int 0] : List Value) := rfl
set_option maxHeartbeats 4000000 in
set_option maxRecDepth 100000 in
theorem zend10 (ca : Nat → ClassId) (h0 q4 q12 q20 q39 q47 q55 q93 q131 q139 q147 q155 q163 q170 q178 q186 q194 q202 q210 q218 q226 q234 q242 q250 q258 q266 q274 q282 q290 q298 q306 q314 q322 q331 : Nat) : ((h0, .inr (7, [.int 0, .ref q4, .ref q12, .ref q20, .int 2, .int 9, .int 0, .int 0, .int 0, .int 0, .ref q39, .int 0, .int 0, .int 0, .int 0, .int 0, .ref q47, .int 0, .ref q55, .ref q93, .ref q131, .int 0, .ref q139, .int 0, .ref q147, .ref q155, .ref q163, .ref q170, .int 0, .ref q178, .ref q186, .ref q194, .ref q202, .ref q210, .ref q218, .ref q226, .int 0, .int 0, .ref q234, .ref q242, .int 0, .int 0, .int 0, .int 0, .ref q250, .ref q258, .int 0, .ref q266, .ref q274, .int 0, .ref q282, .ref q290, .ref q298, .ref q306, .ref q314, .ref q322, .ref q331, .int 0])) :: List.reverse ((q331, .inl (ca 0, 100, .inl zZ)) :: (q322, .inl (ca 0, 800, .inl zZ)) :: (q314, .inl (ca 0, 8, .inl zZ)) :: (q306, .inl (ca 0, 8, .inl zZ)) :: (q298, .inl (ca 0, 8, .inl zZ)) :: (q290, .inl (ca 0, 8, .inl zZ)) :: (q282, .inl (ca 0, 8, .inl zZ)) :: (q274, .inl (ca 0, 60, .inl zZ)) :: (q266, .inl (ca 0, 60, .inl zZ)) :: (q258, .inl (ca 0, 9, .inl zZ)) :: (q250, .inl (ca 0, 9, .inl zZ)) :: (q242, .inl (ca 0, 10, .inl zZ)) :: (q234, .inl (ca 0, 11, .inl zZ)) :: (q226, .inl (ca 0, 10, .inl zZ)) :: (q218, .inl (ca 1, 10, .inl zZ)) :: (q210, .inl (ca 0, 10, .inl zZ)) :: (q202, .inl (ca 0, 10, .inl zZ)) :: (q194, .inl (ca 0, 10, .inl zZ)) :: (q186, .inl (ca 0, 10, .inl zZ)) :: (q178, .inl (ca 0, 10, .inl zZ)) :: (q170, .inl (ca 0, 10, .inl zZ)) :: (q163, .inl (ca 0, 3, .inl zZ)) :: (q155, .inl (ca 0, 30, .inl zZ)) :: (q147, .inl (ca 0, 10, .inl zZ)) :: (q139, .inl (ca 0, 10, .inl zZ)) :: (q131, .inl (ca 0, 10, .inl zZ)) :: (q93, .inl (ca 2, 6, .inl (upd (upd (upd (upd (upd (upd zZ (0 : Int32).toNatClampNeg (vp_nar .char 102)) (1 : Int32).toNatClampNeg (vp_nar .char 115)) (2 : Int32).toNatClampNeg (vp_nar .char 101)) (3 : Int32).toNatClampNeg (vp_nar .char 108)) (4 : Int32).toNatClampNeg (vp_nar .char 111)) (5 : Int32).toNatClampNeg (vp_nar .char 114)))) :: (q55, .inl (ca 2, 6, .inl (upd (upd (upd (upd (upd (upd zZ (0 : Int32).toNatClampNeg (vp_nar .char 103)) (1 : Int32).toNatClampNeg (vp_nar .char 104)) (2 : Int32).toNatClampNeg (vp_nar .char 98)) (3 : Int32).toNatClampNeg (vp_nar .char 109)) (4 : Int32).toNatClampNeg (vp_nar .char 107)) (5 : Int32).toNatClampNeg (vp_nar .char 114)))) :: (q47, .inl (ca 0, 6, .inl zZ)) :: (q39, .inl (ca 0, 6, .inl zZ)) :: (q20, .inl (ca 0, 10, .inl zZ)) :: (q12, .inl (ca 0, 10, .inl zZ)) :: (q4, .inl (ca 0, 10, .inl zZ)) :: []) : va_W) = wM ca (zlk [h0, q4, q12, q20, q39, q47, q55, q93, q131, q139, q147, q155, q163, q170, q178, q186, q194, q202, q210, q218, q226, q234, q242, q250, q258, q266, q274, q282, q290, q298, q306, q314, q322, q331]) := rfl
set_option maxHeartbeats 4000000 in
set_option maxRecDepth 100000 in
theorem kX10_init (l : Launch) (D : va_G) (ca : Nat → ClassId) : zMI l D ca yX10_init (.code yX10_init cX10_init 1 none :: zI) roi_X10 7 zf10 (fun u => wM ca (u 0)) 33 1296 := by
  refine zMI_of (cc := cX10_init) (maxL := 1) (by decide) rfl (by decide) rfl ?_
  rintro p e s m args below meth c A Q ls h0 ⟨hx, hb, hml, hown, hts, hA, hK, hO, hS, hin⟩ hend hP hD hl
  have hown : s.vm.findClass RX10 = some m.cls := hown
  have hts : ∀ w ∈ zI, w.before args s = true := fun w h => hts w (List.mem_cons_of_mem _ h)
  have B : zB10 p s m args meth c A D ca ls h0 := ⟨hx, hb, hown, hts, hA, hK, hin, hl⟩
  refine lv_aload_n hx hb dX10_init_0 rfl (lv_at hl 0 rfl) ?_
  refine W.objInit hx hb hown (hts _ zi_98) (hts _ zi_1) (hts _ zi_2) rfl (by rw [hml]; exact hl.1) rfl dX10_init_1 (Nat.le_of_ble_eq_true rfl) (Nat.le_of_ble_eq_true rfl) ?_
  refine W.eq (g2 := F0 m 4 ls []) rfl ?_
  suffices hC : zC10 p l e s m args below meth c A D ca Q ls h0 4 0 0 zf10 [] from hC _ _ rfl hP hD hS
  clear hP hD hS
  refine s10_4 B (fun q4 => ?_)
  refine s10_12 B (fun q12 => ?_)
  refine s10_20 B (fun q20 => ?_)
  refine s10_28 B ?_
  refine s10_33 B ?_
  refine s10_39 B (fun q39 => ?_)
  refine s10_47 B (fun q47 => ?_)
  refine s10_55 B (fun q55 => ?_)
  refine s10_93 B (fun q93 => ?_)
  refine s10_131 B (fun q131 => ?_)
  refine s10_139 B (fun q139 => ?_)
  refine s10_147 B (fun q147 => ?_)
  refine s10_155 B (fun q155 => ?_)
  refine s10_163 B (fun q163 => ?_)
  refine s10_170 B (fun q170 => ?_)
  refine s10_178 B (fun q178 => ?_)
  refine s10_186 B (fun q186 => ?_)
  refine s10_194 B (fun q194 => ?_)
  refine s10_202 B (fun q202 => ?_)
  refine s10_210 B (fun q210 => ?_)
  refine s10_218 B (fun q218 => ?_)
  refine s10_226 B (fun q226 => ?_)
  refine s10_234 B (fun q234 => ?_)
  refine s10_242 B (fun q242 => ?_)
  refine s10_250 B (fun q250 => ?_)
  refine s10_258 B (fun q258 => ?_)
  refine s10_266 B (fun q266 => ?_)
  refine s10_274 B (fun q274 => ?_)
  refine s10_282 B (fun q282 => ?_)
  refine s10_290 B (fun q290 => ?_)
  refine s10_298 B (fun q298 => ?_)
  refine s10_306 B (fun q306 => ?_)
  refine s10_314 B (fun q314 => ?_)
  refine s10_322 B (fun q322 => ?_)
  refine s10_331 B (fun q331 => ?_)
  intro H locs _ hP hD hS
  rw [zfin10 q4 q12 q20 q39 q47 q55 q93 q131 q139 q147 q155 q163 q170 q178 q186 q194 q202 q210 q218 q226 q234 q242 q250 q258 q266 q274 q282 q290 q298 q306 q314 q322 q331] at hP hD
  have hP := zP_perm (List.Perm.cons _ (List.reverse_perm _).symm) hP
  have hD := zD_perm (List.Perm.cons _ (List.reverse_perm _).symm) hD
  rw [zend10 ca h0 q4 q12 q20 q39 q47 q55 q93 q131 q139 q147 q155 q163 q170 q178 q186 q194 q202 q210 q218 q226 q234 q242 q250 q258 q266 q274 q282 q290 q298 q306 q314 q322 q331] at hP hD
  exact hend H locs 339 ls (fun p => match p with | 0 => (zlk [h0, q4, q12, q20, q39, q47, q55, q93, q131, q139, q147, q155, q163, q170, q178, q186, q194, q202, q210, q218, q226, q234, q242, q250, q258, q266, q274, q282, q290, q298, q306, q314, q322, q331]) | _ => fun _ => 0) rfl hP hD hS dX10_init_339
def zB : List Cond := [Cond.instantiable RX0 4, Cond.instantiable RX2 5, Cond.instantiable RX3 15, Cond.instantiable RX5 8, Cond.instantiable RX7 6, Cond.instantiable RX8 11, Cond.instantiable RX9 6, Cond.instantiable RX10 58, Cond.arrayOver (.object RX7), Cond.arrayOver (.array .int), Cond.arrayClass .int, Cond.arrayClass .boolean, Cond.arrayClass .char, Cond.arrayClass .long, Cond.laysStatic RX9 "LETTERS" "[C", Cond.initialized RX9, Cond.laysStatic RX5 "LEAST" "[I", Cond.initialized RX5, Cond.laysStatic RX5 "MOST" "[I", Cond.methodLinkNest RX0 36 yX9_isHeap RX9, Cond.methodLinkNest RX2 52 yX9_isHeap RX9, Cond.methodLinkNest RX3 102 yX9_isHeap RX9, Cond.fieldLinkNest RX6 32 RX9 "LETTERS" "[C" RX9, Cond.fieldLinkNest RX8 128 RX9 "LETTERS" "[C" RX9, Cond.laysStatic Bundle.tN "UNASSIGNED_STACK" Bundle.steD, Cond.initialized Bundle.tN, Cond.laysStatic Bundle.tN "SUPPRESSED_SENTINEL" Bundle.listD, Cond.stringRef RX1 19 "a scarf is no coat", Cond.stringRef RX1 30 "one black coat is like another", Cond.stringRef RX1 35 "a coat fails", Cond.stringRef RX9 364 "no such shelf", Cond.stringRef RX9 371 "no row, or no such place", Cond.classLink RL 8 RX9, Cond.code yX9_init cX9_init 2 none, Cond.methodLink RL 17 yX9_init, Cond.instanceMethod yX9_init, Cond.classLink RL 18 RX10, Cond.initialized RX10, Cond.code yX10_init cX10_init 1 none, Cond.methodLink RL 20 yX10_init, Cond.instanceMethod yX10_init]
theorem zB_in : ∀ w ∈ zB, w ∈ lw_tbl := fun w h => of_decide_eq_true (List.all_eq_true.mp (by decide +kernel : (zB.all fun w => decide (w ∈ lw_tbl)) = true) w h)
theorem zB_l (i : Nat) {w : Cond} (h : zB[i]? = some w) : w ∈ lw_tbl := zB_in w (List.mem_of_getElem? h)
theorem zstart_arr {s : State} {args : Array Value} {ty : FieldType} (h : (Cond.arrayClass ty).before args s = true) : ∃ c, ArrOfT s c ty ∧ s.vm.findClass ("[" ++ ty.toString) = some c := by
  obtain ⟨c, k, comp, h1, h2, h3⟩ := Cond.arrayClass_spec h
  exact ⟨c, fun n z => ⟨fun k h => (by cases h), k, h2, comp, h3⟩, h1⟩
theorem zstart_K {s : State} {args : Array Value} (hts : ∀ w ∈ lw_tbl, w.before args s = true) : ∃ (D : va_G) (ca : Nat → ClassId), va_K D vwCl (zT ca) s ∧ zAO s := by
  obtain ⟨c0, i0, k0⟩ := u_known (C := RX0) (T := TX0) (N := 4) (n := 4) hts (fun w h => zW_in w (zin_X0 w h)) (hts _ (zB_l 0 rfl))
  obtain ⟨c1, i1, k1⟩ := u_known (C := RX2) (T := TX2) (N := 5) (n := 5) hts (fun w h => zW_in w (zin_X2 w h)) (hts _ (zB_l 1 rfl))
  obtain ⟨c2, i2, k2⟩ := u_known (C := RX3) (T := TX3) (N := 15) (n := 15) hts (fun w h => zW_in w (zin_X3 w h)) (hts _ (zB_l 2 rfl))
  obtain ⟨c3, i3, k3⟩ := u_known (C := RX5) (T := TX5) (N := 8) (n := 8) hts (fun w h => zW_in w (zin_X5 w h)) (hts _ (zB_l 3 rfl))
  obtain ⟨c4, i4, k4⟩ := u_known (C := RX7) (T := TX7) (N := 6) (n := 6) hts (fun w h => zW_in w (zin_X7 w h)) (hts _ (zB_l 4 rfl))
  obtain ⟨c5, i5, k5⟩ := u_known (C := RX8) (T := TX8) (N := 11) (n := 11) hts (fun w h => zW_in w (zin_X8 w h)) (hts _ (zB_l 5 rfl))
  obtain ⟨c6, i6, k6⟩ := u_known (C := RX9) (T := TX9) (N := 6) (n := 6) hts (fun w h => zW_in w (zin_X9 w h)) (hts _ (zB_l 6 rfl))
  obtain ⟨c7, i7, k7⟩ := u_known (C := RX10) (T := TX10) (N := 58) (n := 58) hts (fun w h => zW_in w (zin_X10 w h)) (hts _ (zB_l 7 rfl))
  have hO : zAO s := ⟨va_AO.of (hts _ (zB_l 8 rfl)), hts _ (zB_l 9 rfl), fun q hq => va_Nw.of rfl (hts _ (zNl_in q hq))⟩
  obtain ⟨a0, r0, n0⟩ := zstart_arr (hts _ (zB_l 10 rfl))
  obtain ⟨a1, r1, n1⟩ := zstart_arr (hts _ (zB_l 11 rfl))
  obtain ⟨a2, r2, n2⟩ := zstart_arr (hts _ (zB_l 12 rfl))
  obtain ⟨a5, r5, n5⟩ := zstart_arr (hts _ (zB_l 13 rfl))
  obtain ⟨m3, a3, kk3, f3, g3, h3, j3, n3⟩ := Cond.arrayOver_spec (va_AO.use (A := #[]) hO.1)
  obtain ⟨m4, a4, kk4, f4, g4, h4, j4, n4⟩ := arrayOver_specB hO.2.1
  refine ⟨(fun c => match c with | 0 => c0 | 1 => c1 | 2 => c2 | 3 => c3 | 4 => c4 | 5 => c5 | 6 => c6 | _ => c7, fun c => match c with | 0 => i0 | 1 => i1 | 2 => i2 | 3 => i3 | 4 => i4 | 5 => i5 | 6 => i6 | _ => i7), fun k => match k with | 0 => a0 | 1 => a1 | 2 => a2 | 3 => a3 | 4 => a4 | _ => a5, ⟨?_, ?_⟩, hO⟩
  · intro c q hq
    match c, hq with
    | 0, hq => have e : (RX0, TX0, 4) = q := Option.some.inj (show some (RX0, TX0, 4) = some q from hq); subst e; exact k0
    | 1, hq => have e : (RX2, TX2, 5) = q := Option.some.inj (show some (RX2, TX2, 5) = some q from hq); subst e; exact k1
    | 2, hq => have e : (RX3, TX3, 15) = q := Option.some.inj (show some (RX3, TX3, 15) = some q from hq); subst e; exact k2
    | 3, hq => have e : (RX5, TX5, 8) = q := Option.some.inj (show some (RX5, TX5, 8) = some q from hq); subst e; exact k3
    | 4, hq => have e : (RX7, TX7, 6) = q := Option.some.inj (show some (RX7, TX7, 6) = some q from hq); subst e; exact k4
    | 5, hq => have e : (RX8, TX8, 11) = q := Option.some.inj (show some (RX8, TX8, 11) = some q from hq); subst e; exact k5
    | 6, hq => have e : (RX9, TX9, 6) = q := Option.some.inj (show some (RX9, TX9, 6) = some q from hq); subst e; exact k6
    | 7, hq => have e : (RX10, TX10, 58) = q := Option.some.inj (show some (RX10, TX10, 58) = some q from hq); subst e; exact k7
    | n + 8, hq => cases (show (none : Option vw_C) = some q from hq)
  · intro k q hq
    match k, hq with
    | 0, hq => have e : (a0, (.int : FieldType)) = q := Option.some.inj (show some (a0, (.int : FieldType)) = some q from hq); subst e; exact ⟨r0, n0⟩
    | 1, hq => have e : (a1, (.boolean : FieldType)) = q := Option.some.inj (show some (a1, (.boolean : FieldType)) = some q from hq); subst e; exact ⟨r1, n1⟩
    | 2, hq => have e : (a2, (.char : FieldType)) = q := Option.some.inj (show some (a2, (.char : FieldType)) = some q from hq); subst e; exact ⟨r2, n2⟩
    | 3, hq => have e : (a3, (.object RX7 : FieldType)) = q := Option.some.inj (show some (a3, (.object RX7 : FieldType)) = some q from hq); subst e; exact ⟨fun n z => ⟨fun k h => (by cases h), kk3, h3, m3, j3⟩, ⟨kk3, m3, h3, j3, f3, n3⟩⟩
    | 4, hq => have e : (a4, (.array .int : FieldType)) = q := Option.some.inj (show some (a4, (.array .int : FieldType)) = some q from hq); subst e; exact ⟨fun n z => ⟨fun k h => (by cases h), kk4, h4, m4, j4⟩, n4⟩
    | 5, hq => have e : (a5, (.long : FieldType)) = q := Option.some.inj (show some (a5, (.long : FieldType)) = some q from hq); subst e; exact ⟨r5, n5⟩
    | n + 6, hq => cases (show (none : Option (ClassId × FieldType)) = some q from hq)
set_option maxHeartbeats 4000000 in
theorem zstart_E {s : State} {args : Array Value} {A : Nat → Prop} (hts : ∀ w ∈ lw_tbl, w.before args s = true) (hg : (Jvm.Cond.and given_1 narrow_1).before args s = true) (hA : ∀ a : Nat, a < s.heap.size → ¬ A a) : ∃ t : Nat → Nat, zE t A s s.heap := by
  have hs := flat_of_before _ hg
  obtain ⟨t0, e0, T0⟩ := va_Tof (tm := .static RX9 "LETTERS" "[C") (ty := .char) (N := 6) (f := fun j => .int (zLet j)) (A := A) (by decide) (hs _ (by decide +kernel)) (va_eqt (hs _ (by decide +kernel))) (fun j hj => by
    rcases (show j = 0 ∨ j = 1 ∨ j = 2 ∨ j = 3 ∨ j = 4 ∨ j = 5 by omega) with rfl | rfl | rfl | rfl | rfl | rfl <;> exact va_eqt (hs _ (by decide +kernel))) hA
  have Z0 := va_Zref (A := A) (hts _ (zB_l 14 rfl)) (hts _ (zB_l 15 rfl)) e0 hA
  obtain ⟨t1, e1, T1⟩ := va_Tof (tm := .static RX5 "LEAST" "[I") (ty := .int) (N := 4) (f := fun j => .int (zLeast j)) (A := A) (by decide) (hs _ (by decide +kernel)) (va_eqt (hs _ (by decide +kernel))) (fun j hj => by
    rcases (show j = 0 ∨ j = 1 ∨ j = 2 ∨ j = 3 by omega) with rfl | rfl | rfl | rfl <;> exact va_eqt (hs _ (by decide +kernel))) hA
  have Z1 := va_Zref (A := A) (hts _ (zB_l 16 rfl)) (hts _ (zB_l 17 rfl)) e1 hA
  obtain ⟨t2, e2, T2⟩ := va_Tof (tm := .static RX5 "MOST" "[I") (ty := .int) (N := 4) (f := fun j => .int (zMost j)) (A := A) (by decide) (hs _ (by decide +kernel)) (va_eqt (hs _ (by decide +kernel))) (fun j hj => by
    rcases (show j = 0 ∨ j = 1 ∨ j = 2 ∨ j = 3 by omega) with rfl | rfl | rfl | rfl <;> exact va_eqt (hs _ (by decide +kernel))) hA
  have Z2 := va_Zref (A := A) (hts _ (zB_l 18 rfl)) (hts _ (zB_l 17 rfl)) e2 hA
  refine ⟨fun k => match k with | 0 => t0 | 1 => t1 | _ => t2, ⟨va_Nw.of rfl (hts _ (zB_l 19 rfl)), va_Nw.of rfl (hts _ (zB_l 20 rfl)), va_Nw.of rfl (hts _ (zB_l 21 rfl)), va_Nw.of rfl (hts _ (zB_l 22 rfl)), va_Nw.of rfl (hts _ (zB_l 23 rfl))⟩, ⟨Z0, T0⟩, ⟨Z1, T1⟩, ⟨Z2, T2⟩, vx_Zqof (hts _ (zB_l 24 rfl)) (hts _ (zB_l 25 rfl)) (hs _ (by decide +kernel)) hA, vx_Zqof (hts _ (zB_l 26 rfl)) (hts _ (zB_l 25 rfl)) (hs _ (by decide +kernel)) hA⟩
theorem zstart_X {s : State} {args : Array Value} (hts : ∀ w ∈ lw_tbl, w.before args s = true) (hg : (Jvm.Cond.and given_1 narrow_1).before args s = true) : zXs s := by
  have hs := flat_of_before _ hg
  refine ⟨fun w hw => va_Nw.of (zXk_tab (zXw_k w hw)) (hts w (zAt_in w (List.mem_filter.mp hw).1)), ⟨va_Nc.of (hs _ (by decide +kernel)), va_Nc.of (hs _ (by decide +kernel)), va_Nc.of (hs _ (by decide +kernel))⟩, ?_, ?_, ?_, ?_, ?_⟩
  · obtain ⟨a, c, cell, k, q1, -⟩ := Cond.exactly_spec (args := args) (first := s) (o := none) (s := s) (idx := []) (t := .string RX1 19) (cls := "java/lang/String") (hs (.exactly (.string RX1 19) "java/lang/String") (by decide +kernel))
    exact ⟨a, vk_R.of (hts _ (zB_l 27 rfl)) q1⟩
  · obtain ⟨a, c, cell, k, q1, -⟩ := Cond.exactly_spec (args := args) (first := s) (o := none) (s := s) (idx := []) (t := .string RX1 30) (cls := "java/lang/String") (hs (.exactly (.string RX1 30) "java/lang/String") (by decide +kernel))
    exact ⟨a, vk_R.of (hts _ (zB_l 28 rfl)) q1⟩
  · obtain ⟨a, c, cell, k, q1, -⟩ := Cond.exactly_spec (args := args) (first := s) (o := none) (s := s) (idx := []) (t := .string RX1 35) (cls := "java/lang/String") (hs (.exactly (.string RX1 35) "java/lang/String") (by decide +kernel))
    exact ⟨a, vk_R.of (hts _ (zB_l 29 rfl)) q1⟩
  · obtain ⟨a, c, cell, k, q1, -⟩ := Cond.exactly_spec (args := args) (first := s) (o := none) (s := s) (idx := []) (t := .string RX9 364) (cls := "java/lang/String") (hs (.exactly (.string RX9 364) "java/lang/String") (by decide +kernel))
    exact ⟨a, vk_R.of (hts _ (zB_l 30 rfl)) q1⟩
  · obtain ⟨a, c, cell, k, q1, -⟩ := Cond.exactly_spec (args := args) (first := s) (o := none) (s := s) (idx := []) (t := .string RX9 371) (cls := "java/lang/String") (hs (.exactly (.string RX9 371) "java/lang/String") (by decide +kernel))
    exact ⟨a, vk_R.of (hts _ (zB_l 31 rfl)) q1⟩
def r0 : SR := (0, fun _ => 0, fun _ => 0, fun _ => 0, 2, 9, 0, 0, 0, [])
theorem zw0 : okT r0 ∧ cR r0 0 zZ zZ zZ zSet 0 zZ 0 ∧ mR r0 0 zZ zZ zZ 2 9 0 0 0 0 zZ ∧ cSH zZ zZ zZ zZ zZ (fun _ => zZ) zZ zZ zZ zZ zZ zZ ∧ mLet zLets ∧ mBeg zBegs := by
  refine ⟨⟨⟨by decide, fun i hi => absurd hi (Nat.not_lt_zero i), by decide, by decide, by decide, by decide, by decide, by decide, by decide, by decide, fun x hx => by cases hx⟩, fun i hi => absurd hi (Nat.not_lt_zero i), by decide, by decide⟩, ?_, ?_, ?_, ?_, ?_⟩
  · exact ⟨rfl, fun i hi => absurd hi (Nat.not_lt_zero i), by decide, by decide, by decide, by decide, rfl, fun i x h => by cases (show (none : Option Nat) = some x from h), rfl⟩
  · exact ⟨rfl, fun i hi => absurd hi (Nat.not_lt_zero i), rfl, rfl, rfl, rfl, rfl, rfl, fun i x h => by cases (show (none : Option Nat) = some x from h)⟩
  · exact fun d hd => ⟨0, by decide, rfl, rfl, fun h => absurd h (by decide), fun h => absurd h (by decide)⟩
  · intro i hi
    rcases (show i = 0 ∨ i = 1 ∨ i = 2 ∨ i = 3 ∨ i = 4 ∨ i = 5 by omega) with rfl | rfl | rfl | rfl | rfl | rfl <;> decide
  · intro i hi
    rcases (show i = 0 ∨ i = 1 ∨ i = 2 ∨ i = 3 ∨ i = 4 ∨ i = 5 by omega) with rfl | rfl | rfl | rfl | rfl | rfl <;> decide
theorem zap {U : Nat → List Nat} : ∀ js : List Nat, ((js.map U).flatten).Nodup → (∀ i ∈ js, (U i).Nodup) ∧ ∀ i j, i ∈ js → j ∈ js → ∀ a, a ∈ U i → a ∈ U j → i = j
  | [], _ => ⟨fun i h => (by cases h), fun i j h => (by cases h)⟩
  | k :: js, h => by
    rw [List.map_cons, List.flatten_cons, List.nodup_append] at h
    obtain ⟨h1, h2⟩ := zap js h.2.1
    have hin : ∀ j a, j ∈ js → a ∈ U j → a ∈ (js.map U).flatten := fun j a hj ha => List.mem_flatten.mpr ⟨U j, List.mem_map.mpr ⟨j, hj, rfl⟩, ha⟩
    refine ⟨fun i hi => ?_, fun i j hi hj a ha hb => ?_⟩
    · rcases List.mem_cons.mp hi with rfl | hi
      · exact h.1
      · exact h1 i hi
    · rcases List.mem_cons.mp hi with rfl | hi
      · rcases List.mem_cons.mp hj with rfl | hj
        · rfl
        · exact absurd rfl (h.2.2 a ha a (hin j a hj hb))
      · rcases List.mem_cons.mp hj with rfl | hj
        · exact absurd rfl (h.2.2 a hb a (hin i a hi ha))
        · exact h2 i j hi hj a ha hb
theorem zSt_of {U : Nat → List Nat} {A : Nat → Prop} {ws : va_W} (js : List Nat) (hD : va_D A ws) (hw : ws.map Prod.fst = (js.map U).flatten) (he : ∀ i, i ∉ js → U i = []) : zSt U A := by
  obtain ⟨h1, h2⟩ := zD_iff.mp hD
  rw [hw] at h1
  obtain ⟨g1, g2⟩ := zap js h1
  refine ⟨fun i j a ha hb => ?_, fun j => ?_, fun j a ha => ?_⟩
  · by_cases hi : i ∈ js
    · by_cases hj : j ∈ js
      · exact g2 i j hi hj a ha hb
      · rw [he j hj] at hb; cases hb
    · rw [he i hi] at ha; cases ha
  · by_cases hj : j ∈ js
    · exact g1 j hj
    · rw [he j hj]; exact List.nodup_nil
  · by_cases hj : j ∈ js
    · have : a ∈ (js.map U).flatten := List.mem_flatten.mpr ⟨U j, List.mem_map.mpr ⟨j, hj, rfl⟩, ha⟩
      rw [← hw] at this
      obtain ⟨q, hq, rfl⟩ := List.mem_map.mp this
      exact h2 q hq
    · rw [he j hj] at ha; cases ha
theorem zGL {w : Cond} (h : w ∈ lw_tbl) (hg : goodWord w = true) : GoodIn lw_tbl (w :: zI) := fun v hv => by
  rcases List.mem_cons.mp hv with rfl | q
  · exact ⟨h, good_of_word hg⟩
  · exact ⟨zI_in v q, good_of_word (zI_ok v q)⟩
set_option maxHeartbeats 4000000 in
set_option maxRecDepth 100000 in
theorem zeM {ca : Nat → ClassId} {u2 : Nat → Nat → Nat} : wM ca (u2 0) = (uL_M ca (u2 0) 0 zZ zZ zZ 2 9 0 0 0 0 zZ 0 0 0 0 0 zZ 0 zBegs zLets zZ 0 zZ 0 zZ zZ zZ zZ 0 zZ zZ zZ zZ zZ zZ zZ 0 0 zZ zZ 0 0 0 0 zZ zZ 0 zZ zZ 0 zZ zZ zZ zZ zZ zZ zZ 0) := rfl
set_option maxHeartbeats 4000000 in
set_option maxRecDepth 100000 in
theorem zeX {ca : Nat → ClassId} {u1 : Nat → Nat → Nat} : wX ca (u1 0) (u1 1) (u1 2) (u1 3) (u1 4) (u1 5) (u1 6) (u1 7) (u1 8) (u1 9) (u1 10) (u1 11) (u1 12 0) (u1 12 1) = ((uL_x ca (u1 3) (u1 0) (u1 1) (u1 2) (u1 4) (u1 7) 0) ++ ((uL_s ca (u1 3) zZ zZ zZ zZ zZ (fun _ => zZ)) ++ (((uL_q ca (u1 7) (u1 8) (u1 9) zZ zZ zZ 0 (-4) (-4) 0 0 0) ++ (((uL_m ca (u1 9) (u1 10) (u1 11) (u1 12 1) zZ zZ zZ zZ zZ zZ zZ zZ 0 0) ++ ((uL_z ca (u1 10) (u1 11) zZ zZ 1 (-4)) ++ (uL_c ca (u1 11) 1 (fun _ => zZ) zZ zZ))) ++ ((uL_t ca (u1 8) 0 zZ zZ zZ zSet 0 zZ 0) ++ []))) ++ (((uL_n ca (u1 4) (u1 5) (u1 6) (u1 12 0) zZ zZ zZ zZ zZ zZ zZ zZ 0 0) ++ ((uL_y ca (u1 5) (u1 6) zZ zZ 1 (-4)) ++ (uL_b ca (u1 6) 1 (fun _ => zZ) zZ zZ))) ++ ((uL_p ca (u1 2) 0 zZ zZ zZ zSet 0 zZ 0) ++ ((uL_d ca (u1 1) 0 zZ zZ zZ zSet 0 zZ 0) ++ [])))))) := rfl
set_option maxHeartbeats 4000000 in
set_option maxRecDepth 100000 in
theorem zf_s {ca : Nat → ClassId} {u1 : Nat → Nat → Nat} : ((uL_s ca (u1 3) zZ zZ zZ zZ zZ (fun _ => zZ))).map Prod.fst = (List.range 16).map (u1 3) := rfl
set_option maxHeartbeats 4000000 in
set_option maxRecDepth 100000 in
theorem zf_x {ca : Nat → ClassId} {u1 : Nat → Nat → Nat} : ((uL_x ca (u1 3) (u1 0) (u1 1) (u1 2) (u1 4) (u1 7) 0)).map Prod.fst = (List.range 2).map (u1 0) := rfl
set_option maxHeartbeats 4000000 in
set_option maxRecDepth 100000 in
theorem zf_d {ca : Nat → ClassId} {u1 : Nat → Nat → Nat} : ((uL_d ca (u1 1) 0 zZ zZ zZ zSet 0 zZ 0)).map Prod.fst = (List.range 6).map (u1 1) := rfl
set_option maxHeartbeats 4000000 in
set_option maxRecDepth 100000 in
theorem zf_p {ca : Nat → ClassId} {u1 : Nat → Nat → Nat} : ((uL_p ca (u1 2) 0 zZ zZ zZ zSet 0 zZ 0)).map Prod.fst = (List.range 6).map (u1 2) := rfl
set_option maxHeartbeats 4000000 in
set_option maxRecDepth 100000 in
theorem zf_n {ca : Nat → ClassId} {u1 : Nat → Nat → Nat} : ((uL_n ca (u1 4) (u1 5) (u1 6) (u1 12 0) zZ zZ zZ zZ zZ zZ zZ zZ 0 0)).map Prod.fst = (List.range 9).map (u1 4) := rfl
set_option maxHeartbeats 4000000 in
set_option maxRecDepth 100000 in
theorem zf_y {ca : Nat → ClassId} {u1 : Nat → Nat → Nat} : ((uL_y ca (u1 5) (u1 6) zZ zZ 1 (-4))).map Prod.fst = (List.range 3).map (u1 5) := rfl
set_option maxHeartbeats 4000000 in
set_option maxRecDepth 100000 in
theorem zf_b {ca : Nat → ClassId} {u1 : Nat → Nat → Nat} : ((uL_b ca (u1 6) 1 (fun _ => zZ) zZ zZ)).map Prod.fst = (List.range 7).map (u1 6) := rfl
set_option maxHeartbeats 4000000 in
set_option maxRecDepth 100000 in
theorem zf_q {ca : Nat → ClassId} {u1 : Nat → Nat → Nat} : ((uL_q ca (u1 7) (u1 8) (u1 9) zZ zZ zZ 0 (-4) (-4) 0 0 0)).map Prod.fst = (List.range 4).map (u1 7) := rfl
set_option maxHeartbeats 4000000 in
set_option maxRecDepth 100000 in
theorem zf_t {ca : Nat → ClassId} {u1 : Nat → Nat → Nat} : ((uL_t ca (u1 8) 0 zZ zZ zZ zSet 0 zZ 0)).map Prod.fst = (List.range 6).map (u1 8) := rfl
set_option maxHeartbeats 4000000 in
set_option maxRecDepth 100000 in
theorem zf_m {ca : Nat → ClassId} {u1 : Nat → Nat → Nat} : ((uL_m ca (u1 9) (u1 10) (u1 11) (u1 12 1) zZ zZ zZ zZ zZ zZ zZ zZ 0 0)).map Prod.fst = (List.range 9).map (u1 9) := rfl
set_option maxHeartbeats 4000000 in
set_option maxRecDepth 100000 in
theorem zf_z {ca : Nat → ClassId} {u1 : Nat → Nat → Nat} : ((uL_z ca (u1 10) (u1 11) zZ zZ 1 (-4))).map Prod.fst = (List.range 3).map (u1 10) := rfl
set_option maxHeartbeats 4000000 in
set_option maxRecDepth 100000 in
theorem zf_c {ca : Nat → ClassId} {u1 : Nat → Nat → Nat} : ((uL_c ca (u1 11) 1 (fun _ => zZ) zZ zZ)).map Prod.fst = (List.range 7).map (u1 11) := rfl
set_option maxHeartbeats 4000000 in
set_option maxRecDepth 100000 in
theorem zf_M {ca : Nat → ClassId} {u2 : Nat → Nat → Nat} : ((uL_M ca (u2 0) 0 zZ zZ zZ 2 9 0 0 0 0 zZ 0 0 0 0 0 zZ 0 zBegs zLets zZ 0 zZ 0 zZ zZ zZ zZ 0 zZ zZ zZ zZ zZ zZ zZ 0 0 zZ zZ 0 0 0 0 zZ zZ 0 zZ zZ 0 zZ zZ zZ zZ zZ zZ zZ 0)).map Prod.fst = (List.range 34).map (u2 0) := rfl
set_option maxHeartbeats 4000000 in
set_option maxRecDepth 100000 in
theorem zf_o {ca : Nat → ClassId} {q17 : Nat} : ((uL_o ca q17 (fun _ => 0))).map Prod.fst = [q17] := rfl
set_option maxHeartbeats 4000000 in
set_option maxRecDepth 100000 in
theorem zstart_U {D : va_G} {A : Nat → Prop} {ca : Nat → ClassId} {u1 u2 : Nat → Nat → Nat} {q17 : Nat} (hD : va_D A ((uL_o ca q17 (fun _ => 0)) ++ ((uL_M ca (u2 0) 0 zZ zZ zZ 2 9 0 0 0 0 zZ 0 0 0 0 0 zZ 0 zBegs zLets zZ 0 zZ 0 zZ zZ zZ zZ 0 zZ zZ zZ zZ zZ zZ zZ 0 0 zZ zZ 0 0 0 0 zZ zZ 0 zZ zZ 0 zZ zZ zZ zZ zZ zZ zZ 0) ++ (((uL_x ca (u1 3) (u1 0) (u1 1) (u1 2) (u1 4) (u1 7) 0) ++ ((uL_s ca (u1 3) zZ zZ zZ zZ zZ (fun _ => zZ)) ++ (((uL_q ca (u1 7) (u1 8) (u1 9) zZ zZ zZ 0 (-4) (-4) 0 0 0) ++ (((uL_m ca (u1 9) (u1 10) (u1 11) (u1 12 1) zZ zZ zZ zZ zZ zZ zZ zZ 0 0) ++ ((uL_z ca (u1 10) (u1 11) zZ zZ 1 (-4)) ++ (uL_c ca (u1 11) 1 (fun _ => zZ) zZ zZ))) ++ ((uL_t ca (u1 8) 0 zZ zZ zZ zSet 0 zZ 0) ++ []))) ++ (((uL_n ca (u1 4) (u1 5) (u1 6) (u1 12 0) zZ zZ zZ zZ zZ zZ zZ zZ 0 0) ++ ((uL_y ca (u1 5) (u1 6) zZ zZ 1 (-4)) ++ (uL_b ca (u1 6) 1 (fun _ => zZ) zZ zZ))) ++ ((uL_p ca (u1 2) 0 zZ zZ zZ zSet 0 zZ 0) ++ ((uL_d ca (u1 1) 0 zZ zZ zZ zSet 0 zZ 0) ++ [])))))) ++ [])))) : zSt (aL (u1 3) (u1 0) (u1 1) (u1 2) (u1 4) (u1 5) (u1 6) (u1 7) (u1 8) (u1 9) (u1 10) (u1 11) (u2 0) q17) A :=
  zSt_of [13, 12, 1, 0, 7, 9, 10, 11, 8, 4, 5, 6, 3, 2] hD (by
    simp only [List.map_append, zf_o, zf_s, zf_x, zf_d, zf_p, zf_n, zf_y, zf_b, zf_q, zf_t, zf_m, zf_z, zf_c, zf_M, List.map_nil, List.append_nil, List.append_assoc, List.map_cons, List.flatten_cons, List.flatten_nil]
    rfl) (fun i hi => by
    match i, hi with
    | 0, hi => exact absurd (by decide) hi
    | 1, hi => exact absurd (by decide) hi
    | 2, hi => exact absurd (by decide) hi
    | 3, hi => exact absurd (by decide) hi
    | 4, hi => exact absurd (by decide) hi
    | 5, hi => exact absurd (by decide) hi
    | 6, hi => exact absurd (by decide) hi
    | 7, hi => exact absurd (by decide) hi
    | 8, hi => exact absurd (by decide) hi
    | 9, hi => exact absurd (by decide) hi
    | 10, hi => exact absurd (by decide) hi
    | 11, hi => exact absurd (by decide) hi
    | 12, hi => exact absurd (by decide) hi
    | 13, hi => exact absurd (by decide) hi
    | n + 14, _ => rfl)
set_option maxHeartbeats 8000000 in
set_option maxRecDepth 100000 in
theorem whole_start {p : Program} {e : Env} {s : State} {m : MethodId} {below : List Frame} {meth : Method} {c : Code} (l : Launch) (hst : l.stackTraces = false) {b L : Nat} {xs : Nat → Int32} (hL : L ≤ 3072) (C0 : lw_At p s m meth c b L xs) : W p l e room_1 s m #[Value.ref b] below meth c s.heap [] 0 0 (lw_Z below #[Value.ref b] s) (entryFrame m ([Value.ref b] : List Value).toArray 8) := by
  obtain ⟨hx, hb, hr, hml, hown, hts, hX, hbl, hlocks, hg⟩ := C0
  have hown : s.vm.findClass RL = some m.cls := hown
  obtain ⟨D, ca, hK, hO⟩ := zstart_K hts
  obtain ⟨A, hA0⟩ : ∃ A : Nat → Prop, ∀ q, A q ↔ s.heap.size ≤ q := ⟨fun q => s.heap.size ≤ q, fun _ => Iff.rfl⟩
  have hA : ∀ q, s.heap.size ≤ q → A q := fun q h => (hA0 q).mpr h
  obtain ⟨t, hE⟩ := zstart_E (A := A) hts hg (fun a h1 h2 => by have := (hA0 a).mp h2; omega)
  have hXs := zstart_X hts hg
  have hS : va_S A s.heap s.heap [] := va_S.rf
  have hbA : ¬ A b := fun h => by have := (hA0 b).mp h; omega
  have hP : va_P D vwCl [] s.heap := fun k q h => by simp at h
  have hD : va_D A [] := ⟨fun i j p q hi => by simp at hi, fun k q h => by simp at h⟩
  have hl := lv_entry [.ref b] (n := 8) (Nat.le_of_ble_eq_true rfl)
  rw [lg_entry_eq]
  generalize (lg_sl ([.ref b]) ++ List.replicate (8 - (lg_sl ([.ref b])).length) Slot.unset).toArray = ls at hl ⊢
  have hl : lv_has ls 8 [(0, .ref b)] := hl
  show W p l e room_1 s m _ below meth c s.heap [] 0 0 _ _
  refine zn_new [] ([]) (C := RX9) (T := TX9) (N := 6) (ci := 6) (fs := [.null, .null, .int 0, .null, .null, .null]) hx hb hts (fun w h => zW_in w (zin_X9 w h)) tyX9 tyX9_ok hown (zB_l 32 rfl) (zB_l 6 rfl) (zB_l 15 rfl) hK hP hD hS hA rfl zdf_X9 (Nat.le_of_ble_eq_true rfl) (Nat.le_of_ble_eq_true rfl) dL_law_0 (fun q0 H hP hD hS => ?_)
  refine W.widen (k := 1) (n := 6) (Nat.le_of_ble_eq_true rfl) (Nat.le_of_ble_eq_true rfl) ?_
  refine lv_dup hx hb dL_law_3 rfl ?_
  refine zn_init [] ([]) (kX9_init l D ca) ⟨hx, hb, hml, hown, hts⟩ (cwI 0 hts (zGL (zB_l 33 rfl) rfl) rfl rfl rfl (hts _ (zB_l 15 rfl)) (hts _ (zB_l 34 rfl)) (hts _ (zB_l 35 rfl)) rfl (by decide +kernel) ⟨(Nat.le_of_ble_eq_true rfl), (Nat.le_of_ble_eq_true rfl)⟩) hO hA hK hP hD hS hl.1 (Nat.le_of_ble_eq_true rfl) dL_law_4 ⟨(Nat.le_of_ble_eq_true rfl), (Nat.le_of_ble_eq_true rfl)⟩ (fun u1 H locs hu hP9 hD9 hS9 => ?_)
  clear hP hD hS
  subst hu
  have hP := hP9
  have hD := hD9
  have hS := hS9
  clear hP9 hD9 hS9
  refine W.widen (k := 90) (n := 1481) (Nat.le_of_ble_eq_true rfl) (Nat.le_of_ble_eq_true rfl) ?_
  refine lv_astore_n (lv' := [(1, .ref (u1 0 0)), (0, .ref b)]) hx hb dL_law_7 rfl hl (by decide) rfl (fun ls hl => ?_)
  have hP : va_P D vwCl (wX ca (u1 0) (u1 1) (u1 2) (u1 3) (u1 4) (u1 5) (u1 6) (u1 7) (u1 8) (u1 9) (u1 10) (u1 11) (u1 12 0) (u1 12 1) ++ []) H := hP
  have hD : va_D A (wX ca (u1 0) (u1 1) (u1 2) (u1 3) (u1 4) (u1 5) (u1 6) (u1 7) (u1 8) (u1 9) (u1 10) (u1 11) (u1 12 0) (u1 12 1) ++ []) := hD
  refine zn_new [] (wX ca (u1 0) (u1 1) (u1 2) (u1 3) (u1 4) (u1 5) (u1 6) (u1 7) (u1 8) (u1 9) (u1 10) (u1 11) (u1 12 0) (u1 12 1) ++ []) (C := RX10) (T := TX10) (N := 58) (ci := 7) (fs := zf10) hx hb hts (fun w h => zW_in w (zin_X10 w h)) tyX10 tyX10_ok hown (zB_l 36 rfl) (zB_l 7 rfl) (zB_l 37 rfl) hK hP hD hS hA rfl zdf_X10 (Nat.le_of_ble_eq_true rfl) (Nat.le_of_ble_eq_true rfl) dL_law_8 (fun q8 H hP hD hS => ?_)
  refine W.widen (k := 91) (n := 1539) (Nat.le_of_ble_eq_true rfl) (Nat.le_of_ble_eq_true rfl) ?_
  refine lv_dup hx hb dL_law_11 rfl ?_
  refine zn_init [] (wX ca (u1 0) (u1 1) (u1 2) (u1 3) (u1 4) (u1 5) (u1 6) (u1 7) (u1 8) (u1 9) (u1 10) (u1 11) (u1 12 0) (u1 12 1) ++ []) (kX10_init l D ca) ⟨hx, hb, hml, hown, hts⟩ (cwI 0 hts (zGL (zB_l 38 rfl) rfl) rfl rfl rfl (hts _ (zB_l 37 rfl)) (hts _ (zB_l 39 rfl)) (hts _ (zB_l 40 rfl)) rfl (by decide +kernel) ⟨(Nat.le_of_ble_eq_true rfl), (Nat.le_of_ble_eq_true rfl)⟩) hO hA hK hP hD hS hl.1 (Nat.le_of_ble_eq_true rfl) dL_law_12 ⟨(Nat.le_of_ble_eq_true rfl), (Nat.le_of_ble_eq_true rfl)⟩ (fun u2 H locs hu hP9 hD9 hS9 => ?_)
  clear hP hD hS
  subst hu
  have hP := hP9
  have hD := hD9
  have hS := hS9
  clear hP9 hD9 hS9
  refine W.widen (k := 124) (n := 2835) (Nat.le_of_ble_eq_true rfl) (Nat.le_of_ble_eq_true rfl) ?_
  refine lv_astore_n (lv' := [(2, .ref (u2 0 0)), (1, .ref (u1 0 0)), (0, .ref b)]) hx hb dL_law_15 rfl hl (by decide) rfl (fun ls hl => ?_)
  refine lv_iconst (v := 1) hx hb dL_law_16 (by decide) ?_
  have hP : va_P D vwCl (wM ca (u2 0) ++ (wX ca (u1 0) (u1 1) (u1 2) (u1 3) (u1 4) (u1 5) (u1 6) (u1 7) (u1 8) (u1 9) (u1 10) (u1 11) (u1 12 0) (u1 12 1) ++ [])) H := hP
  have hD : va_D A (wM ca (u2 0) ++ (wX ca (u1 0) (u1 1) (u1 2) (u1 3) (u1 4) (u1 5) (u1 6) (u1 7) (u1 8) (u1 9) (u1 10) (u1 11) (u1 12 0) (u1 12 1) ++ [])) := hD
  refine zn_newa [] (wM ca (u2 0) ++ (wX ca (u1 0) (u1 1) (u1 2) (u1 3) (u1 4) (u1 5) (u1 6) (u1 7) (u1 8) (u1 9) (u1 10) (u1 11) (u1 12 0) (u1 12 1) ++ [])) (k := 5) rfl hx hb hts (zB_l 13 rfl) rfl hK hP hD hS hA (n := 1) (N' := 1) (a0 := (1, .inr (.inl (fun _ => 0)))) (fun _ => rfl) (by decide) (by decide) (by decide) (Nat.le_of_ble_eq_true rfl) (Nat.le_of_ble_eq_true rfl) dL_law_17 (fun q17 H hP hD hS => ?_)
  refine W.widen (k := 125) (n := 2836) (Nat.le_of_ble_eq_true rfl) (Nat.le_of_ble_eq_true rfl) ?_
  refine lv_astore_n (lv' := [(3, .ref q17), (2, .ref (u2 0 0)), (1, .ref (u1 0 0)), (0, .ref b)]) hx hb dL_law_19 rfl hl (by decide) rfl (fun ls hl => ?_)
  refine lv_iconst (v := 0) hx hb dL_law_20 (by decide) ?_
  refine lv_istore (lv' := [(4, .int 0), (3, .ref q17), (2, .ref (u2 0 0)), (1, .ref (u1 0 0)), (0, .ref b)]) hx hb dL_law_21 hl (by decide) rfl (fun ls hl => ?_)
  have hP : va_P D vwCl ((uL_o ca q17 (fun _ => 0)) ++ (wM ca (u2 0) ++ (wX ca (u1 0) (u1 1) (u1 2) (u1 3) (u1 4) (u1 5) (u1 6) (u1 7) (u1 8) (u1 9) (u1 10) (u1 11) (u1 12 0) (u1 12 1) ++ []))) H := hP
  have hD : va_D A ((uL_o ca q17 (fun _ => 0)) ++ (wM ca (u2 0) ++ (wX ca (u1 0) (u1 1) (u1 2) (u1 3) (u1 4) (u1 5) (u1 6) (u1 7) (u1 8) (u1 9) (u1 10) (u1 11) (u1 12 0) (u1 12 1) ++ []))) := hD
  rw [zeM, zeX] at hP hD
  have hU : zSt (aL (u1 3) (u1 0) (u1 1) (u1 2) (u1 4) (u1 5) (u1 6) (u1 7) (u1 8) (u1 9) (u1 10) (u1 11) (u2 0) q17) A := zstart_U hD
  have h1 := hP
  have hP_o := zPfst h1
  have h1 := zPsnd h1
  have hP_M := zPfst h1
  have h1 := zPfst (zPsnd h1)
  have hP_x := zPfst h1
  have h1 := zPsnd h1
  have hP_s := zPfst h1
  have h1 := zPsnd h1
  have h2 := zPfst h1
  have h1 := zPsnd h1
  have hP_q := zPfst h2
  have h2 := zPsnd h2
  have h3 := zPfst h2
  have hP_t := zPfst (zPsnd h2)
  have hP_m := zPfst h3
  have hP_z := zPfst (zPsnd h3)
  have hP_c := zPsnd (zPsnd h3)
  have h3 := zPfst h1
  have h1 := zPsnd h1
  have hP_n := zPfst h3
  have hP_y := zPfst (zPsnd h3)
  have hP_b := zPsnd (zPsnd h3)
  have hP_p := zPfst h1
  have hP_d := zPfst (zPsnd h1)
  obtain ⟨w1, w2, w3, w4, w5, w6⟩ := zw0
  have hI : wJ D ca (u1 3) (u1 0) (u1 1) (u1 2) (u1 4) (u1 5) (u1 6) (u1 7) (u1 8) (u1 9) (u1 10) (u1 11) (u2 0) q17 r0 zZ zZ zZ zZ zZ (fun _ => zZ) 0 0 zZ zZ zZ zSet 0 zZ 0 0 zZ zZ zZ zSet 0 zZ 0 (u1 12 0) zZ zZ zZ zZ zZ zZ zZ zZ 0 0 zZ zZ 1 (-4) 1 (fun _ => zZ) zZ zZ zZ zZ zZ 0 (-4) (-4) 0 0 0 0 zZ zZ zZ zSet 0 zZ 0 (u1 12 1) zZ zZ zZ zZ zZ zZ zZ zZ 0 0 zZ zZ 1 (-4) 1 (fun _ => zZ) zZ zZ 0 zZ zZ zZ 2 9 0 0 0 0 zZ 0 0 0 0 0 zZ 0 zBegs zLets zZ 0 zZ 0 zZ zZ zZ zZ 0 zZ zZ zZ zZ zZ zZ zZ 0 0 zZ zZ 0 0 0 0 zZ zZ 0 zZ zZ 0 zZ zZ zZ zZ zZ zZ zZ 0 (fun _ => 0) H := ⟨w1, w2, w3, w4, Or.inl ⟨rfl, rfl⟩, w5, w6, hP_s, hP_x, hP_d, hP_p, hP_n, hP_y, hP_b, hP_q, hP_t, hP_m, hP_z, hP_c, hP_M, hP_o⟩
  have cx : lCx p s m c b L xs D ca t A (aL (u1 3) (u1 0) (u1 1) (u1 2) (u1 4) (u1 5) (u1 6) (u1 7) (u1 8) (u1 9) (u1 10) (u1 11) (u2 0) q17) := ⟨hx, hb, hml, hown, hts, hX, hbl, hbA, hA, hK, hE, hU⟩
  exact W.widen (k := 125 + 2 * 0) (n := 2836 + 12 * 0) (by decide) (by decide) (law_loop cx hr hlocks hL (fun q h => (hA0 q).mp h) (K0 := 125) (S0 := 2836) (by decide) (by decide) (lo_element cx hL hXs hst) (lo_toss cx hL hXs hst) 600 0 0 rfl (by omega) (by omega) H _ r0 zZ zZ zZ zZ zZ (fun _ => zZ) 0 0 zZ zZ zZ zSet 0 zZ 0 0 zZ zZ zZ zSet 0 zZ 0 (u1 12 0) zZ zZ zZ zZ zZ zZ zZ zZ 0 0 zZ zZ 1 (-4) 1 (fun _ => zZ) zZ zZ zZ zZ zZ 0 (-4) (-4) 0 0 0 0 zZ zZ zZ zSet 0 zZ 0 (u1 12 1) zZ zZ zZ zZ zZ zZ zZ zZ 0 0 zZ zZ 1 (-4) 1 (fun _ => zZ) zZ zZ 0 zZ zZ zZ 2 9 0 0 0 0 zZ 0 0 0 0 0 zZ 0 zBegs zLets zZ 0 zZ 0 zZ zZ zZ zZ 0 zZ zZ zZ zZ zZ zZ zZ 0 0 zZ zZ 0 0 0 0 zZ zZ 0 zZ zZ 0 zZ zZ zZ zZ zZ zZ zZ 0 (fun _ => 0) hI hS ls hl)
set_option maxHeartbeats 4000000 in
theorem lw_walk (l : Launch) (hst : l.stackTraces = false) (b : Addr) (xs : List Int32) : MetFree l x (headSpec (Jvm.Cond.code x code maxLocals ret :: tables_1) room_1) (lw_P b xs) (fun _ _ _ _ _ => True) lw_Q := by
  refine MetFree.of_bodyS (code := code) (maxLocals := maxLocals) (ret := ret) (by decide) ?_ ?_
  · intro args s m h hn
    obtain ⟨meth, c, h1, h2, h3, h4, h5, h6, -, -⟩ := Cond.code_spec hn (atoms_spec (ws := Jvm.Cond.code x code maxLocals ret :: tables_1) h _ List.mem_cons_self)
    exact ⟨meth, c, h1, h2, h3, h4, h5, h6⟩
  · intro p e s m args below meth c s₁ B hml0 hP _
    obtain ⟨rfl, hx, hbd, hgv⟩ := hP
    obtain ⟨scr, harrAt, hlist, hof, hsmall⟩ := hx
    obtain ⟨hcb, hkn, -, -⟩ := State.arrayAt?_spec harrAt
    have hown : s.vm.findClass R_law = some m.cls := findClass_of_methodNamed B.named
    have hts0 : ∀ c ∈ (Jvm.Cond.code x code maxLocals ret :: tables_1), c.before #[Value.ref b] s = true := atoms_spec (ws := Jvm.Cond.code x code maxLocals ret :: tables_1) B.pre
    have hts : ∀ w ∈ lw_tbl, w.before #[Value.ref b] s = true := k2_hts_sels lw_privs (fun w hw => hts0 w (List.mem_cons_of_mem _ hw)) lw_privs_ok
    have hml : c.maxLocals = 8 := B.maxLocals_eq (hts0 _ List.mem_cons_self)
    have X₀ : Stand p l e room_1 s m #[Value.ref b] below meth c s₁ [] 0 0 := Stand.of_body B
    have hh0 : s₁.heap = s.heap := by rw [B.state]; rfl
    have hsz : scr.slots.size = xs.length := by rw [← Array.length_toList, hlist, List.length_map]
    have hval : ∀ j : Nat, j < xs.length → scr.slots[j]? = some (.int (xs.getD j 0)) := fun j hj => by
      rw [← Array.getElem?_toList, hlist]
      simp [hj]
    have hbl : b < s.heap.size := (Array.getElem?_eq_some_iff.mp hcb).1
    have hX : va_X b xs.length (fun j => xs.getD j 0) s s.heap := ⟨scr, hcb, hof, hkn, hsz, hval⟩
    have K : W p l e room_1 s m #[Value.ref b] below meth c s₁.heap [] 0 0 (lw_Z below #[Value.ref b] s) (entryFrame m ([Value.ref b] : List Value).toArray 8) := by
      rw [hh0]
      exact whole_start l hst hbd ⟨B.exec, B.bytes, B.returns, hml, hown, hts, hX, hbl, B.notSynchronized, hgv⟩
    obtain ⟨t, a1, o, b1, b2, b3⟩ := K s₁ rfl X₀
    exact ⟨t, o, a1, b1, b2, b3⟩
theorem lw_pre_spec {args : Array Value} {s : State} (h : (Jvm.Cond.and given_1 narrow_1).before args s = true) (hr : rest_1_c.before args s = true) : ∃ (b : Addr) (xs : List Int32), lw_P b xs args s := by
  have hs := flat_of_before _ h
  have hq := flat_of_before _ hr
  have hc : (Cond.count 1).before args s = true := hs _ (by decide +kernel)
  have harr : (Cond.arrayOf (.arg 0) .int).before args s = true := hs _ (by decide +kernel)
  have hle : (Cond.le (.length (.arg 0)) (.int 3072)).before args s = true := hs _ (by decide +kernel)
  have hlen : (Cond.isInt (.length (.arg 0))).before args s = true := hq _ (by decide +kernel)
  have hall : (Cond.all (.arg 0) (.isInt (.elem (.arg 0) (.index 0)))).before args s = true := hq _ (by decide +kernel)
  obtain ⟨b, xs, hb, hx⟩ := State.ints_of_pre rfl harr hlen hall
  have hsm : xs.length < 2 ^ 31 := hx.choose_spec.2.2.2
  have hev : (Term.length (.arg 0)).eval args s none [] s = some (.int xs.length.toInt32) := hx.length_eval hb
  have hv := Cond.le_ints hev (show (Term.int 3072).eval args s none [] s = some (.int 3072) from rfl)
  have hd : xs.length.toInt32 ≤ 3072 := by
    simpa [Cond.before, Cond.holds, hv] using hle
  have hN : xs.length ≤ 3072 := (Int32.ofNat_le_ofNat hsm (by decide)).mp (show Int32.ofNat xs.length ≤ Int32.ofNat 3072 from hd)
  exact ⟨b, xs, Cond.one_arg hc (show args[0]? = some (.ref b) from hb), hx, hN, h⟩
theorem lw_comes (l : Launch) (hst : l.stackTraces = false) : Comes l x (Jvm.Cond.code x code maxLocals ret :: tables_1) room_1 (fun tb e args s => Calls_1 tb e args s ∧ rest_1 tb e args s ∧ Pre_1 tb e args s)
    (fun _ _ args s o t => lw_Q args s o t) := by
  intro p e ha hc hk s m args below hf hfit hheap happ hpre
  obtain ⟨b, xs, hP⟩ := lw_pre_spec hpre.2.2 hpre.2.1
  obtain ⟨k, o, h1, h2, h3, hQ⟩ := lw_walk l hst b xs p e ha hc hk s m args below hf ((Spec.applies_iff_loose hf).mp happ).1 hP trivial
  exact ⟨k, o, h1, h2, h3, hQ⟩
theorem lw_frame {s t : State} {o : Outcome} {args : Array Value} (h : Framed s o t [] 601024 7293034) :
    Framed s o t (fieldLocs frame_1_writes args s ++ arrayLocs frame_1_arrays args s ++ staticLocs frame_1_statics s) 601024 7293034 := h
theorem lw_limb (L : Cond) (hL : ∀ (args : Array Value) (s t : State), L.after args s (.returned (some (.int 1))) t = true) :
    ArmFor flags0 classFile x code maxLocals ret World_1 tables_1 room_1 Calls_1 rest_1 Pre_1
      (fun tb e a s o t => postC L tb e a s o t ∧ Framed s o t (fieldLocs frame_1_writes a s ++ arrayLocs frame_1_arrays a s ++ staticLocs frame_1_statics s) 601024 7293034) := by
  intro l hfl _ _ p e ha hc hk s m args below hf hfit hheap happ hpre
  obtain ⟨k, o, h1, h2, h3, rfl, hF⟩ := lw_comes l (by show (!l.flags.contains noTraceFlag) = false; rw [hfl]; decide +kernel) p e ha hc hk s m args below hf hfit hheap happ hpre
  exact ⟨k, _, h1, h2, h3, hL args s _, lw_frame hF⟩
theorem i_vc : Claimed_1_1 ∧ Claimed_1_2 := ⟨lw_limb limb_1_1 (fun args s t => by simp [limb_1_1, Cond.after, Cond.holds, Cond.value]), lw_limb limb_1_2 (fun args s t => Cond.after_iff.mpr (by
  first | (rw [show limb_1_2 = Cond.eq .result (.int 1) from rfl, Cond.eq_ints (x := 1) (y := 1) rfl rfl]; simp; done) | (simp [limb_1_2, Cond.value, Term.eval]; done)))⟩
