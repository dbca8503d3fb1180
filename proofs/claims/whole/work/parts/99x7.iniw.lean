def zZ : Nat → Int32 := fun _ => 0
def zSet : Nat → Int32 := (upd (upd (upd (upd zZ (0 : Int32).toNatClampNeg 2) (1 : Int32).toNatClampNeg 9) (2 : Int32).toNatClampNeg 0) (3 : Int32).toNatClampNeg 0)
def zBegs : Nat → Int32 := (upd (upd (upd (upd (upd (upd zZ (0 : Int32).toNatClampNeg (vp_nar .char 103)) (1 : Int32).toNatClampNeg (vp_nar .char 104)) (2 : Int32).toNatClampNeg (vp_nar .char 98)) (3 : Int32).toNatClampNeg (vp_nar .char 109)) (4 : Int32).toNatClampNeg (vp_nar .char 107)) (5 : Int32).toNatClampNeg (vp_nar .char 114))
def zLets : Nat → Int32 := (upd (upd (upd (upd (upd (upd zZ (0 : Int32).toNatClampNeg (vp_nar .char 102)) (1 : Int32).toNatClampNeg (vp_nar .char 115)) (2 : Int32).toNatClampNeg (vp_nar .char 101)) (3 : Int32).toNatClampNeg (vp_nar .char 108)) (4 : Int32).toNatClampNeg (vp_nar .char 111)) (5 : Int32).toNatClampNeg (vp_nar .char 114))
def wR (ca : Nat → ClassId) (a : Nat → Nat) : va_W := uL_d ca a 0 zZ zZ zZ zSet 0 zZ 0
def wB (ca : Nat → ClassId) (a : Nat → Nat) : va_W := uL_b ca a 1 (fun _ => zZ) zZ zZ
def wY (ca : Nat → ClassId) (a b : Nat → Nat) : va_W := uL_y ca a b zZ zZ 1 (-4) ++ wB ca b
def wN (ca : Nat → ClassId) (n y b : Nat → Nat) (r : Nat) : va_W := uL_n ca n y b r zZ zZ zZ zZ zZ zZ zZ zZ 0 0 ++ wY ca y b
def wQ (ca : Nat → ClassId) (q t n y b : Nat → Nat) (r : Nat) : va_W := uL_q ca q t n zZ zZ zZ 0 (-4) (-4) 0 0 0 ++ (wN ca n y b r ++ (wR ca t ++ []))
def wS (ca : Nat → ClassId) (a : Nat → Nat) : va_W := [(a 0, .inr (4, [.int 0, .int 0, .int 0, .int 0, .int 0, .ref (a 1)])), (a 1, .inl (ca 0, 100, .inl zZ))]
def wX (ca : Nat → ClassId) (x d p s n y b q t m z c : Nat → Nat) (r r' : Nat) : va_W := uL_x ca s x d p n q 0 ++ (cSh ca s zZ zZ zZ zZ zZ (fun _ => zZ) ++ (wQ ca q t m z c r' ++ (wN ca n y b r ++ (wR ca p ++ (wR ca d ++ [])))))
def wM (ca : Nat → ClassId) (a : Nat → Nat) : va_W := uL_M ca a 0 zZ zZ zZ 2 9 0 0 0 0 zZ 0 0 0 0 0 zZ 0 zBegs zLets zZ 0 zZ 0 zZ zZ zZ zZ 0 zZ zZ zZ zZ zZ zZ zZ 0 0 zZ zZ 0 0 0 0 zZ zZ 0 zZ zZ 0 zZ zZ zZ zZ zZ zZ zZ 0
def zf10 : List Value := [.int 0, .null, .null, .null, .int 0, .int 0, .int 0, .int 0, .int 0, .int 0, .null, .int 0, .int 0, .int 0, .int 0, .int 0, .null, .int 0, .null, .null, .null, .int 0, .null, .int 0, .null, .null, .null, .null, .int 0, .null, .null, .null, .null, .null, .null, .null, .int 0, .int 0, .null, .null, .int 0, .int 0, .int 0, .int 0, .null, .null, .int 0, .null, .null, .int 0, .null, .null, .null, .null, .null, .null, .null, .int 0]
theorem zP_ref1 {D : va_G} {H : Heap} {x : Nat × va_E} {a n : Nat} {cA : ClassId} {f g : Nat → Option Nat} {R : va_W} (hfg : ∀ k, k < n → f k = g k) (h : va_P D vwCl (x :: (a, .inl (cA, n, .inr (.inr (.inr (.inr f))))) :: R) H) : va_P D vwCl (x :: (a, .inl (cA, n, .inr (.inr (.inr (.inr g))))) :: R) H := zP_iff.mpr (fun q hq => by
  rcases List.mem_cons.mp hq with rfl | hq
  · exact zP_iff.mp h _ List.mem_cons_self
  · rcases List.mem_cons.mp hq with rfl | hq
    · exact zrefs hfg (zP_iff.mp h _ (List.mem_cons_of_mem _ List.mem_cons_self))
    · exact zP_iff.mp h q (List.mem_cons_of_mem _ (List.mem_cons_of_mem _ hq)))
theorem zD_addr {A : Nat → Prop} {ws ws' : va_W} (e : ws.map Prod.fst = ws'.map Prod.fst) (h : va_D A ws) : va_D A ws' := by
  obtain ⟨h1, h2⟩ := zD_iff.mp h
  refine zD_iff.mpr ⟨e ▸ h1, fun q hq => ?_⟩
  have : q.1 ∈ ws.map Prod.fst := by rw [e]; exact List.mem_map.mpr ⟨q, hq, rfl⟩
  obtain ⟨z, hz, hz2⟩ := List.mem_map.mp this
  exact hz2 ▸ h2 z hz
theorem zbed {r : Nat → Nat} {f : Nat → va_E} {v : va_E} : va_pl ([] ++ (List.range 3).map r) (vr_up f ((List.range 3).map r) v) = [(r 0, v), (r 1, v), (r 2, v)] := by
  simp [va_pl, vr_up, List.range, List.range.loop]
theorem zcl2 {own : String} {idx : Nat} {args : Array Value} {s : State} (h : (Cond.classLink own idx "[[I").before args s = true) : (Cond.classLink own idx ("[" ++ (FieldType.array .int).toString)).before args s = true := by
  have e : "[" ++ (FieldType.array .int).toString = "[[I" := by decide +kernel
  rw [e]
  exact h
def zIl : List Cond := [Cond.methodLink RX5 3 objectInit, Cond.instanceMethod objectInit, Cond.code objectInit ⟨#[0xb1]⟩ 1 none, Cond.fieldLink RX5 9 "CoatsOnTheBed$Room" "guests" "I", Cond.arrayClass .int, Cond.fieldLink RX5 15 "CoatsOnTheBed$Room" "kinds" "[I", Cond.fieldLink RX5 19 "CoatsOnTheBed$Room" "figures" "[I", Cond.fieldLink RX5 22 "CoatsOnTheBed$Room" "minutes" "[I", Cond.fieldLink RX5 25 "CoatsOnTheBed$Room" "settings" "[I", Cond.fieldLink RX5 28 "CoatsOnTheBed$Room" "hooks" "I", Cond.fieldLink RX5 31 "CoatsOnTheBed$Room" "letters" "[I", Cond.fieldLink RX5 34 "CoatsOnTheBed$Room" "letterCount" "I", Cond.methodLink RX0 3 objectInit, Cond.fieldLink RX0 9 "CoatsOnTheBed$Bed" "heaps" "I", Cond.classLink RX0 15 "[[I", Cond.fieldLink RX0 17 "CoatsOnTheBed$Bed" "piles" "[[I", Cond.fieldLink RX0 20 "CoatsOnTheBed$Bed" "heights" "[I", Cond.fieldLink RX0 24 "CoatsOnTheBed$Bed" "spots" "[I", Cond.methodLink RX7 3 objectInit, Cond.fieldLink RX7 9 "CoatsOnTheBed$Shelf" "elements" "[I", Cond.methodLink RX2 3 objectInit, Cond.classLink RX2 9 RX0, Cond.instantiable RX0 4, Cond.initialized RX0, Cond.code yX0_init cX0_init 1 none, Cond.instanceMethod yX0_init, Cond.fieldLink RX2 12 "CoatsOnTheBed$Laying" "bed" "LCoatsOnTheBed$Bed;", Cond.fieldLink RX2 18 "CoatsOnTheBed$Laying" "going" "[I", Cond.fieldLink RX2 22 "CoatsOnTheBed$Laying" "coming" "[I", Cond.fieldLink RX2 25 "CoatsOnTheBed$Laying" "holds" "I", Cond.fieldLink RX2 29 "CoatsOnTheBed$Laying" "latest" "I", Cond.methodLink RX3 3 objectInit, Cond.classLink RX3 9 RX5, Cond.instantiable RX5 8, Cond.initialized RX5, Cond.code yX5_init cX5_init 1 none, Cond.instanceMethod yX5_init, Cond.fieldLink RX3 12 "CoatsOnTheBed$Night" "room" "LCoatsOnTheBed$Room;", Cond.classLink RX3 18 RX2, Cond.instantiable RX2 5, Cond.initialized RX2, Cond.code yX2_init cX2_init 1 none, Cond.instanceMethod yX2_init, Cond.fieldLink RX3 21 "CoatsOnTheBed$Night" "laying" "LCoatsOnTheBed$Laying;", Cond.fieldLink RX3 25 "CoatsOnTheBed$Laying" "bed" "LCoatsOnTheBed$Bed;", Cond.fieldLink RX3 29 "CoatsOnTheBed$Night" "bed" "LCoatsOnTheBed$Bed;", Cond.fieldLink RX3 30 "CoatsOnTheBed$Laying" "going" "[I", Cond.fieldLink RX3 34 "CoatsOnTheBed$Night" "going" "[I", Cond.fieldLink RX3 35 "CoatsOnTheBed$Laying" "coming" "[I", Cond.fieldLink RX3 38 "CoatsOnTheBed$Night" "coming" "[I", Cond.fieldLink RX3 39 "CoatsOnTheBed$Night" "order" "[I", Cond.fieldLink RX3 42 "CoatsOnTheBed$Night" "weights" "[I", Cond.arrayClass .boolean, Cond.fieldLink RX3 45 "CoatsOnTheBed$Night" "black" "[Z", Cond.fieldLink RX3 49 "CoatsOnTheBed$Night" "lifts" "[I", Cond.fieldLink RX3 52 "CoatsOnTheBed$Night" "begins" "[I", Cond.fieldLink RX3 55 "CoatsOnTheBed$Night" "ends" "[I", Cond.fieldLink RX3 58 "CoatsOnTheBed$Night" "has" "[I", Cond.fieldLink RX3 61 "CoatsOnTheBed$Night" "lifted" "[I", Cond.fieldLink RX3 64 "CoatsOnTheBed$Night" "allLifts" "I", Cond.fieldLink RX3 68 "CoatsOnTheBed$Night" "doneAt" "I", Cond.methodLink RX8 3 objectInit, Cond.classLink RX8 9 RX5, Cond.fieldLink RX8 12 "CoatsOnTheBed$Trials" "trial" "LCoatsOnTheBed$Room;", Cond.classLink RX8 18 RX3, Cond.instantiable RX3 15, Cond.initialized RX3, Cond.code yX3_init cX3_init 1 none, Cond.instanceMethod yX3_init, Cond.fieldLink RX8 21 "CoatsOnTheBed$Trials" "night" "LCoatsOnTheBed$Night;", Cond.fieldLink RX8 25 "CoatsOnTheBed$Trials" "row" "[I", Cond.fieldLink RX8 29 "CoatsOnTheBed$Trials" "firstsLifts" "[I", Cond.fieldLink RX8 32 "CoatsOnTheBed$Trials" "othersLifts" "[I", Cond.fieldLink RX8 35 "CoatsOnTheBed$Trials" "seed" "I", Cond.fieldLink RX8 39 "CoatsOnTheBed$Trials" "found" "I", Cond.fieldLink RX8 42 "CoatsOnTheBed$Trials" "foundLifts" "I", Cond.fieldLink RX8 45 "CoatsOnTheBed$Trials" "mostLifts" "I", Cond.fieldLink RX8 48 "CoatsOnTheBed$Trials" "sumOfLifts" "I", Cond.fieldLink RX8 51 "CoatsOnTheBed$Trials" "sumOfMissers" "I", Cond.methodLink RX9 1 objectInit, Cond.classLink RX9 7 RX5, Cond.fieldLink RX9 10 "CoatsOnTheBed" "told" "LCoatsOnTheBed$Room;", Cond.fieldLink RX9 16 "CoatsOnTheBed" "pictured" "LCoatsOnTheBed$Room;", Cond.fieldLink RX9 19 "CoatsOnTheBed" "hasPicture" "Z", Cond.classLink RX9 23 RX7, Cond.fieldLink RX9 25 "CoatsOnTheBed" "shelves" "[LCoatsOnTheBed$Shelf;", Cond.instantiable RX7 6, Cond.initialized RX7, Cond.code yX7_init cX7_init 1 none, Cond.instanceMethod yX7_init, Cond.classLink RX9 30 RX3, Cond.fieldLink RX9 33 "CoatsOnTheBed" "night" "LCoatsOnTheBed$Night;", Cond.classLink RX9 37 RX8, Cond.instantiable RX8 11, Cond.initialized RX8, Cond.code yX8_init cX8_init 1 none, Cond.instanceMethod yX8_init, Cond.fieldLink RX9 40 "CoatsOnTheBed" "trials" "LCoatsOnTheBed$Trials;", Cond.methodLink RX10 1 objectInit, Cond.fieldLink RX10 7 "CoatsOnTheBedModel" "kind" "[I", Cond.fieldLink RX10 13 "CoatsOnTheBedModel" "figure" "[I", Cond.fieldLink RX10 16 "CoatsOnTheBedModel" "told" "[I", Cond.fieldLink RX10 19 "CoatsOnTheBedModel" "heaps" "I", Cond.fieldLink RX10 23 "CoatsOnTheBedModel" "holds" "I", Cond.fieldLink RX10 26 "CoatsOnTheBedModel" "rule" "[I", Cond.fieldLink RX10 29 "CoatsOnTheBedModel" "field" "[I", Cond.arrayClass .char, Cond.fieldLink RX10 32 "CoatsOnTheBedModel" "begins" "[C", Cond.fieldLink RX10 36 "CoatsOnTheBedModel" "ruleLetters" "[C", Cond.fieldLink RX10 39 "CoatsOnTheBedModel" "coming" "[I", Cond.fieldLink RX10 42 "CoatsOnTheBedModel" "going" "[I", Cond.fieldLink RX10 45 "CoatsOnTheBedModel" "minute" "[I", Cond.fieldLink RX10 48 "CoatsOnTheBedModel" "pile" "[I", Cond.fieldLink RX10 51 "CoatsOnTheBedModel" "high" "[I", Cond.fieldLink RX10 54 "CoatsOnTheBedModel" "where" "[I", Cond.fieldLink RX10 57 "CoatsOnTheBedModel" "lifts" "[I", Cond.fieldLink RX10 60 "CoatsOnTheBedModel" "begun" "[I", Cond.fieldLink RX10 63 "CoatsOnTheBedModel" "left" "[I", Cond.fieldLink RX10 66 "CoatsOnTheBedModel" "has" "[I", Cond.fieldLink RX10 69 "CoatsOnTheBedModel" "lifted" "[I", Cond.fieldLink RX10 72 "CoatsOnTheBedModel" "taken" "[Z", Cond.fieldLink RX10 76 "CoatsOnTheBedModel" "above" "[I", Cond.fieldLink RX10 79 "CoatsOnTheBedModel" "longest" "[I", Cond.fieldLink RX10 82 "CoatsOnTheBedModel" "onto" "[I", Cond.fieldLink RX10 85 "CoatsOnTheBedModel" "ofOne" "[I", Cond.fieldLink RX10 88 "CoatsOnTheBedModel" "ofOther" "[I", Cond.fieldLink RX10 91 "CoatsOnTheBedModel" "then" "[I", Cond.fieldLink RX10 94 "CoatsOnTheBedModel" "was" "[I", Cond.fieldLink RX10 97 "CoatsOnTheBedModel" "held" "[I", Cond.fieldLink RX10 100 "CoatsOnTheBedModel" "kindOn" "[I", Cond.fieldLink RX10 103 "CoatsOnTheBedModel" "figureOn" "[I", Cond.fieldLink RX10 106 "CoatsOnTheBedModel" "sorts" "[I", Cond.fieldLink RX10 109 "CoatsOnTheBedModel" "size" "[I", Cond.fieldLink RX10 112 "CoatsOnTheBedModel" "items" "[I", Cond.fieldLink RX10 115 "CoatsOnTheBedModel" "moved" "[I"]
theorem zIl_in : ∀ w ∈ zIl, w ∈ lw_tbl := fun w h => of_decide_eq_true (List.all_eq_true.mp (by decide +kernel : (zIl.all fun w => decide (w ∈ lw_tbl)) = true) w h)
theorem zIl_ok : ∀ w ∈ zIl, goodWord w = true := fun w h => List.all_eq_true.mp (by decide +kernel : zIl.all goodWord = true) w h
def zI : List Cond := zIl ++ zW
theorem zI_in : ∀ w ∈ zI, w ∈ lw_tbl := fun w h => by
  rcases List.mem_append.mp h with q | q
  · exact zIl_in w q
  · exact zW_in w q
theorem zI_ok : ∀ w ∈ zI, goodWord w = true := fun w h => by
  rcases List.mem_append.mp h with q | q
  · exact zIl_ok w q
  · exact zW_ok w q
theorem zI_l (i : Nat) {w : Cond} (h : zIl[i]? = some w) : w ∈ zI := List.mem_append_left _ (List.mem_of_getElem? h)
theorem zGI {w : Cond} (h : w ∈ zI) : GoodIn zI (w :: zI) := fun v hv => by
  rcases List.mem_cons.mp hv with rfl | q
  · exact ⟨h, good_of_word (zI_ok v h)⟩
  · exact ⟨q, good_of_word (zI_ok v q)⟩
theorem zi_0 : Cond.methodLink RX5 3 objectInit ∈ zI := zI_l 0 rfl
theorem zi_1 : Cond.instanceMethod objectInit ∈ zI := zI_l 1 rfl
theorem zi_2 : Cond.code objectInit ⟨#[0xb1]⟩ 1 none ∈ zI := zI_l 2 rfl
theorem zi_3 : Cond.fieldLink RX5 9 "CoatsOnTheBed$Room" "guests" "I" ∈ zI := zI_l 3 rfl
theorem zi_4 : Cond.arrayClass .int ∈ zI := zI_l 4 rfl
theorem zi_5 : Cond.fieldLink RX5 15 "CoatsOnTheBed$Room" "kinds" "[I" ∈ zI := zI_l 5 rfl
theorem zi_6 : Cond.fieldLink RX5 19 "CoatsOnTheBed$Room" "figures" "[I" ∈ zI := zI_l 6 rfl
theorem zi_7 : Cond.fieldLink RX5 22 "CoatsOnTheBed$Room" "minutes" "[I" ∈ zI := zI_l 7 rfl
theorem zi_8 : Cond.fieldLink RX5 25 "CoatsOnTheBed$Room" "settings" "[I" ∈ zI := zI_l 8 rfl
theorem zi_9 : Cond.fieldLink RX5 28 "CoatsOnTheBed$Room" "hooks" "I" ∈ zI := zI_l 9 rfl
theorem zi_10 : Cond.fieldLink RX5 31 "CoatsOnTheBed$Room" "letters" "[I" ∈ zI := zI_l 10 rfl
theorem zi_11 : Cond.fieldLink RX5 34 "CoatsOnTheBed$Room" "letterCount" "I" ∈ zI := zI_l 11 rfl
theorem zi_12 : Cond.methodLink RX0 3 objectInit ∈ zI := zI_l 12 rfl
theorem zi_13 : Cond.fieldLink RX0 9 "CoatsOnTheBed$Bed" "heaps" "I" ∈ zI := zI_l 13 rfl
theorem zi_14 : Cond.classLink RX0 15 "[[I" ∈ zI := zI_l 14 rfl
theorem zi_15 : Cond.fieldLink RX0 17 "CoatsOnTheBed$Bed" "piles" "[[I" ∈ zI := zI_l 15 rfl
theorem zi_16 : Cond.fieldLink RX0 20 "CoatsOnTheBed$Bed" "heights" "[I" ∈ zI := zI_l 16 rfl
theorem zi_17 : Cond.fieldLink RX0 24 "CoatsOnTheBed$Bed" "spots" "[I" ∈ zI := zI_l 17 rfl
theorem zi_18 : Cond.methodLink RX7 3 objectInit ∈ zI := zI_l 18 rfl
theorem zi_19 : Cond.fieldLink RX7 9 "CoatsOnTheBed$Shelf" "elements" "[I" ∈ zI := zI_l 19 rfl
theorem zi_20 : Cond.methodLink RX2 3 objectInit ∈ zI := zI_l 20 rfl
theorem zi_21 : Cond.classLink RX2 9 RX0 ∈ zI := zI_l 21 rfl
theorem zi_22 : Cond.instantiable RX0 4 ∈ zI := zI_l 22 rfl
theorem zi_23 : Cond.initialized RX0 ∈ zI := zI_l 23 rfl
theorem zi_24 : Cond.code yX0_init cX0_init 1 none ∈ zI := zI_l 24 rfl
theorem zi_25 : Cond.instanceMethod yX0_init ∈ zI := zI_l 25 rfl
theorem zi_26 : Cond.fieldLink RX2 12 "CoatsOnTheBed$Laying" "bed" "LCoatsOnTheBed$Bed;" ∈ zI := zI_l 26 rfl
theorem zi_27 : Cond.fieldLink RX2 18 "CoatsOnTheBed$Laying" "going" "[I" ∈ zI := zI_l 27 rfl
theorem zi_28 : Cond.fieldLink RX2 22 "CoatsOnTheBed$Laying" "coming" "[I" ∈ zI := zI_l 28 rfl
theorem zi_29 : Cond.fieldLink RX2 25 "CoatsOnTheBed$Laying" "holds" "I" ∈ zI := zI_l 29 rfl
theorem zi_30 : Cond.fieldLink RX2 29 "CoatsOnTheBed$Laying" "latest" "I" ∈ zI := zI_l 30 rfl
theorem zi_31 : Cond.methodLink RX3 3 objectInit ∈ zI := zI_l 31 rfl
theorem zi_32 : Cond.classLink RX3 9 RX5 ∈ zI := zI_l 32 rfl
theorem zi_33 : Cond.instantiable RX5 8 ∈ zI := zI_l 33 rfl
theorem zi_34 : Cond.initialized RX5 ∈ zI := zI_l 34 rfl
theorem zi_35 : Cond.code yX5_init cX5_init 1 none ∈ zI := zI_l 35 rfl
theorem zi_36 : Cond.instanceMethod yX5_init ∈ zI := zI_l 36 rfl
theorem zi_37 : Cond.fieldLink RX3 12 "CoatsOnTheBed$Night" "room" "LCoatsOnTheBed$Room;" ∈ zI := zI_l 37 rfl
theorem zi_38 : Cond.classLink RX3 18 RX2 ∈ zI := zI_l 38 rfl
theorem zi_39 : Cond.instantiable RX2 5 ∈ zI := zI_l 39 rfl
theorem zi_40 : Cond.initialized RX2 ∈ zI := zI_l 40 rfl
theorem zi_41 : Cond.code yX2_init cX2_init 1 none ∈ zI := zI_l 41 rfl
theorem zi_42 : Cond.instanceMethod yX2_init ∈ zI := zI_l 42 rfl
theorem zi_43 : Cond.fieldLink RX3 21 "CoatsOnTheBed$Night" "laying" "LCoatsOnTheBed$Laying;" ∈ zI := zI_l 43 rfl
theorem zi_44 : Cond.fieldLink RX3 25 "CoatsOnTheBed$Laying" "bed" "LCoatsOnTheBed$Bed;" ∈ zI := zI_l 44 rfl
theorem zi_45 : Cond.fieldLink RX3 29 "CoatsOnTheBed$Night" "bed" "LCoatsOnTheBed$Bed;" ∈ zI := zI_l 45 rfl
theorem zi_46 : Cond.fieldLink RX3 30 "CoatsOnTheBed$Laying" "going" "[I" ∈ zI := zI_l 46 rfl
theorem zi_47 : Cond.fieldLink RX3 34 "CoatsOnTheBed$Night" "going" "[I" ∈ zI := zI_l 47 rfl
theorem zi_48 : Cond.fieldLink RX3 35 "CoatsOnTheBed$Laying" "coming" "[I" ∈ zI := zI_l 48 rfl
theorem zi_49 : Cond.fieldLink RX3 38 "CoatsOnTheBed$Night" "coming" "[I" ∈ zI := zI_l 49 rfl
theorem zi_50 : Cond.fieldLink RX3 39 "CoatsOnTheBed$Night" "order" "[I" ∈ zI := zI_l 50 rfl
theorem zi_51 : Cond.fieldLink RX3 42 "CoatsOnTheBed$Night" "weights" "[I" ∈ zI := zI_l 51 rfl
theorem zi_52 : Cond.arrayClass .boolean ∈ zI := zI_l 52 rfl
theorem zi_53 : Cond.fieldLink RX3 45 "CoatsOnTheBed$Night" "black" "[Z" ∈ zI := zI_l 53 rfl
theorem zi_54 : Cond.fieldLink RX3 49 "CoatsOnTheBed$Night" "lifts" "[I" ∈ zI := zI_l 54 rfl
theorem zi_55 : Cond.fieldLink RX3 52 "CoatsOnTheBed$Night" "begins" "[I" ∈ zI := zI_l 55 rfl
theorem zi_56 : Cond.fieldLink RX3 55 "CoatsOnTheBed$Night" "ends" "[I" ∈ zI := zI_l 56 rfl
theorem zi_57 : Cond.fieldLink RX3 58 "CoatsOnTheBed$Night" "has" "[I" ∈ zI := zI_l 57 rfl
theorem zi_58 : Cond.fieldLink RX3 61 "CoatsOnTheBed$Night" "lifted" "[I" ∈ zI := zI_l 58 rfl
theorem zi_59 : Cond.fieldLink RX3 64 "CoatsOnTheBed$Night" "allLifts" "I" ∈ zI := zI_l 59 rfl
theorem zi_60 : Cond.fieldLink RX3 68 "CoatsOnTheBed$Night" "doneAt" "I" ∈ zI := zI_l 60 rfl
theorem zi_61 : Cond.methodLink RX8 3 objectInit ∈ zI := zI_l 61 rfl
theorem zi_62 : Cond.classLink RX8 9 RX5 ∈ zI := zI_l 62 rfl
theorem zi_63 : Cond.fieldLink RX8 12 "CoatsOnTheBed$Trials" "trial" "LCoatsOnTheBed$Room;" ∈ zI := zI_l 63 rfl
theorem zi_64 : Cond.classLink RX8 18 RX3 ∈ zI := zI_l 64 rfl
theorem zi_65 : Cond.instantiable RX3 15 ∈ zI := zI_l 65 rfl
theorem zi_66 : Cond.initialized RX3 ∈ zI := zI_l 66 rfl
theorem zi_67 : Cond.code yX3_init cX3_init 1 none ∈ zI := zI_l 67 rfl
theorem zi_68 : Cond.instanceMethod yX3_init ∈ zI := zI_l 68 rfl
theorem zi_69 : Cond.fieldLink RX8 21 "CoatsOnTheBed$Trials" "night" "LCoatsOnTheBed$Night;" ∈ zI := zI_l 69 rfl
theorem zi_70 : Cond.fieldLink RX8 25 "CoatsOnTheBed$Trials" "row" "[I" ∈ zI := zI_l 70 rfl
theorem zi_71 : Cond.fieldLink RX8 29 "CoatsOnTheBed$Trials" "firstsLifts" "[I" ∈ zI := zI_l 71 rfl
theorem zi_72 : Cond.fieldLink RX8 32 "CoatsOnTheBed$Trials" "othersLifts" "[I" ∈ zI := zI_l 72 rfl
theorem zi_73 : Cond.fieldLink RX8 35 "CoatsOnTheBed$Trials" "seed" "I" ∈ zI := zI_l 73 rfl
theorem zi_74 : Cond.fieldLink RX8 39 "CoatsOnTheBed$Trials" "found" "I" ∈ zI := zI_l 74 rfl
theorem zi_75 : Cond.fieldLink RX8 42 "CoatsOnTheBed$Trials" "foundLifts" "I" ∈ zI := zI_l 75 rfl
theorem zi_76 : Cond.fieldLink RX8 45 "CoatsOnTheBed$Trials" "mostLifts" "I" ∈ zI := zI_l 76 rfl
theorem zi_77 : Cond.fieldLink RX8 48 "CoatsOnTheBed$Trials" "sumOfLifts" "I" ∈ zI := zI_l 77 rfl
theorem zi_78 : Cond.fieldLink RX8 51 "CoatsOnTheBed$Trials" "sumOfMissers" "I" ∈ zI := zI_l 78 rfl
theorem zi_79 : Cond.methodLink RX9 1 objectInit ∈ zI := zI_l 79 rfl
theorem zi_80 : Cond.classLink RX9 7 RX5 ∈ zI := zI_l 80 rfl
theorem zi_81 : Cond.fieldLink RX9 10 "CoatsOnTheBed" "told" "LCoatsOnTheBed$Room;" ∈ zI := zI_l 81 rfl
theorem zi_82 : Cond.fieldLink RX9 16 "CoatsOnTheBed" "pictured" "LCoatsOnTheBed$Room;" ∈ zI := zI_l 82 rfl
theorem zi_83 : Cond.fieldLink RX9 19 "CoatsOnTheBed" "hasPicture" "Z" ∈ zI := zI_l 83 rfl
theorem zi_84 : Cond.classLink RX9 23 RX7 ∈ zI := zI_l 84 rfl
theorem zi_85 : Cond.fieldLink RX9 25 "CoatsOnTheBed" "shelves" "[LCoatsOnTheBed$Shelf;" ∈ zI := zI_l 85 rfl
theorem zi_86 : Cond.instantiable RX7 6 ∈ zI := zI_l 86 rfl
theorem zi_87 : Cond.initialized RX7 ∈ zI := zI_l 87 rfl
theorem zi_88 : Cond.code yX7_init cX7_init 1 none ∈ zI := zI_l 88 rfl
theorem zi_89 : Cond.instanceMethod yX7_init ∈ zI := zI_l 89 rfl
theorem zi_90 : Cond.classLink RX9 30 RX3 ∈ zI := zI_l 90 rfl
theorem zi_91 : Cond.fieldLink RX9 33 "CoatsOnTheBed" "night" "LCoatsOnTheBed$Night;" ∈ zI := zI_l 91 rfl
theorem zi_92 : Cond.classLink RX9 37 RX8 ∈ zI := zI_l 92 rfl
theorem zi_93 : Cond.instantiable RX8 11 ∈ zI := zI_l 93 rfl
theorem zi_94 : Cond.initialized RX8 ∈ zI := zI_l 94 rfl
theorem zi_95 : Cond.code yX8_init cX8_init 1 none ∈ zI := zI_l 95 rfl
theorem zi_96 : Cond.instanceMethod yX8_init ∈ zI := zI_l 96 rfl
theorem zi_97 : Cond.fieldLink RX9 40 "CoatsOnTheBed" "trials" "LCoatsOnTheBed$Trials;" ∈ zI := zI_l 97 rfl
theorem zi_98 : Cond.methodLink RX10 1 objectInit ∈ zI := zI_l 98 rfl
theorem zi_99 : Cond.fieldLink RX10 7 "CoatsOnTheBedModel" "kind" "[I" ∈ zI := zI_l 99 rfl
theorem zi_100 : Cond.fieldLink RX10 13 "CoatsOnTheBedModel" "figure" "[I" ∈ zI := zI_l 100 rfl
theorem zi_101 : Cond.fieldLink RX10 16 "CoatsOnTheBedModel" "told" "[I" ∈ zI := zI_l 101 rfl
theorem zi_102 : Cond.fieldLink RX10 19 "CoatsOnTheBedModel" "heaps" "I" ∈ zI := zI_l 102 rfl
theorem zi_103 : Cond.fieldLink RX10 23 "CoatsOnTheBedModel" "holds" "I" ∈ zI := zI_l 103 rfl
theorem zi_104 : Cond.fieldLink RX10 26 "CoatsOnTheBedModel" "rule" "[I" ∈ zI := zI_l 104 rfl
theorem zi_105 : Cond.fieldLink RX10 29 "CoatsOnTheBedModel" "field" "[I" ∈ zI := zI_l 105 rfl
theorem zi_106 : Cond.arrayClass .char ∈ zI := zI_l 106 rfl
theorem zi_107 : Cond.fieldLink RX10 32 "CoatsOnTheBedModel" "begins" "[C" ∈ zI := zI_l 107 rfl
theorem zi_108 : Cond.fieldLink RX10 36 "CoatsOnTheBedModel" "ruleLetters" "[C" ∈ zI := zI_l 108 rfl
theorem zi_109 : Cond.fieldLink RX10 39 "CoatsOnTheBedModel" "coming" "[I" ∈ zI := zI_l 109 rfl
theorem zi_110 : Cond.fieldLink RX10 42 "CoatsOnTheBedModel" "going" "[I" ∈ zI := zI_l 110 rfl
theorem zi_111 : Cond.fieldLink RX10 45 "CoatsOnTheBedModel" "minute" "[I" ∈ zI := zI_l 111 rfl
theorem zi_112 : Cond.fieldLink RX10 48 "CoatsOnTheBedModel" "pile" "[I" ∈ zI := zI_l 112 rfl
theorem zi_113 : Cond.fieldLink RX10 51 "CoatsOnTheBedModel" "high" "[I" ∈ zI := zI_l 113 rfl
theorem zi_114 : Cond.fieldLink RX10 54 "CoatsOnTheBedModel" "where" "[I" ∈ zI := zI_l 114 rfl
theorem zi_115 : Cond.fieldLink RX10 57 "CoatsOnTheBedModel" "lifts" "[I" ∈ zI := zI_l 115 rfl
theorem zi_116 : Cond.fieldLink RX10 60 "CoatsOnTheBedModel" "begun" "[I" ∈ zI := zI_l 116 rfl
theorem zi_117 : Cond.fieldLink RX10 63 "CoatsOnTheBedModel" "left" "[I" ∈ zI := zI_l 117 rfl
theorem zi_118 : Cond.fieldLink RX10 66 "CoatsOnTheBedModel" "has" "[I" ∈ zI := zI_l 118 rfl
theorem zi_119 : Cond.fieldLink RX10 69 "CoatsOnTheBedModel" "lifted" "[I" ∈ zI := zI_l 119 rfl
theorem zi_120 : Cond.fieldLink RX10 72 "CoatsOnTheBedModel" "taken" "[Z" ∈ zI := zI_l 120 rfl
theorem zi_121 : Cond.fieldLink RX10 76 "CoatsOnTheBedModel" "above" "[I" ∈ zI := zI_l 121 rfl
theorem zi_122 : Cond.fieldLink RX10 79 "CoatsOnTheBedModel" "longest" "[I" ∈ zI := zI_l 122 rfl
theorem zi_123 : Cond.fieldLink RX10 82 "CoatsOnTheBedModel" "onto" "[I" ∈ zI := zI_l 123 rfl
theorem zi_124 : Cond.fieldLink RX10 85 "CoatsOnTheBedModel" "ofOne" "[I" ∈ zI := zI_l 124 rfl
theorem zi_125 : Cond.fieldLink RX10 88 "CoatsOnTheBedModel" "ofOther" "[I" ∈ zI := zI_l 125 rfl
theorem zi_126 : Cond.fieldLink RX10 91 "CoatsOnTheBedModel" "then" "[I" ∈ zI := zI_l 126 rfl
theorem zi_127 : Cond.fieldLink RX10 94 "CoatsOnTheBedModel" "was" "[I" ∈ zI := zI_l 127 rfl
theorem zi_128 : Cond.fieldLink RX10 97 "CoatsOnTheBedModel" "held" "[I" ∈ zI := zI_l 128 rfl
theorem zi_129 : Cond.fieldLink RX10 100 "CoatsOnTheBedModel" "kindOn" "[I" ∈ zI := zI_l 129 rfl
theorem zi_130 : Cond.fieldLink RX10 103 "CoatsOnTheBedModel" "figureOn" "[I" ∈ zI := zI_l 130 rfl
theorem zi_131 : Cond.fieldLink RX10 106 "CoatsOnTheBedModel" "sorts" "[I" ∈ zI := zI_l 131 rfl
theorem zi_132 : Cond.fieldLink RX10 109 "CoatsOnTheBedModel" "size" "[I" ∈ zI := zI_l 132 rfl
theorem zi_133 : Cond.fieldLink RX10 112 "CoatsOnTheBedModel" "items" "[I" ∈ zI := zI_l 133 rfl
theorem zi_134 : Cond.fieldLink RX10 115 "CoatsOnTheBedModel" "moved" "[I" ∈ zI := zI_l 134 rfl
theorem zI_X0 : ∀ w ∈ u_ws RX0 TX0 4, w ∈ zI := fun w h => List.mem_append_right _ (zin_X0 w h)
theorem zI_X2 : ∀ w ∈ u_ws RX2 TX2 5, w ∈ zI := fun w h => List.mem_append_right _ (zin_X2 w h)
theorem zI_X3 : ∀ w ∈ u_ws RX3 TX3 15, w ∈ zI := fun w h => List.mem_append_right _ (zin_X3 w h)
theorem zI_X5 : ∀ w ∈ u_ws RX5 TX5 8, w ∈ zI := fun w h => List.mem_append_right _ (zin_X5 w h)
theorem zI_X7 : ∀ w ∈ u_ws RX7 TX7 6, w ∈ zI := fun w h => List.mem_append_right _ (zin_X7 w h)
theorem zI_X8 : ∀ w ∈ u_ws RX8 TX8 11, w ∈ zI := fun w h => List.mem_append_right _ (zin_X8 w h)
theorem zI_X9 : ∀ w ∈ u_ws RX9 TX9 6, w ∈ zI := fun w h => List.mem_append_right _ (zin_X9 w h)
theorem zI_X10 : ∀ w ∈ u_ws RX10 TX10 58, w ∈ zI := fun w h => List.mem_append_right _ (zin_X10 w h)
theorem zdf_X0 : ∀ j, j < 4 → defaultValue (tyX0 j) = vp_V [.int 0, .null, .null, .null] j := fun j hj => by
  rcases (show j = 0 ∨ j = 1 ∨ j = 2 ∨ j = 3 by omega) with rfl | rfl | rfl | rfl <;> rfl
theorem zdf_X2 : ∀ j, j < 5 → defaultValue (tyX2 j) = vp_V [.null, .null, .null, .int 0, .int 0] j := fun j hj => by
  rcases (show j = 0 ∨ j = 1 ∨ j = 2 ∨ j = 3 ∨ j = 4 by omega) with rfl | rfl | rfl | rfl | rfl <;> rfl
theorem zdf_X3 : ∀ j, j < 15 → defaultValue (tyX3 j) = vp_V [.null, .null, .null, .null, .null, .null, .null, .null, .null, .null, .null, .null, .null, .int 0, .int 0] j := fun j hj => by
  rcases (show j = 0 ∨ j = 1 ∨ j = 2 ∨ j = 3 ∨ j = 4 ∨ j = 5 ∨ j = 6 ∨ j = 7 ∨ j = 8 ∨ j = 9 ∨ j = 10 ∨ j = 11 ∨ j = 12 ∨ j = 13 ∨ j = 14 by omega) with rfl | rfl | rfl | rfl | rfl | rfl | rfl | rfl | rfl | rfl | rfl | rfl | rfl | rfl | rfl <;> rfl
theorem zdf_X5 : ∀ j, j < 8 → defaultValue (tyX5 j) = vp_V [.int 0, .null, .null, .null, .null, .int 0, .null, .int 0] j := fun j hj => by
  rcases (show j = 0 ∨ j = 1 ∨ j = 2 ∨ j = 3 ∨ j = 4 ∨ j = 5 ∨ j = 6 ∨ j = 7 by omega) with rfl | rfl | rfl | rfl | rfl | rfl | rfl | rfl <;> rfl
theorem zdf_X7 : ∀ j, j < 6 → defaultValue (tyX7 j) = vp_V [.int 0, .int 0, .int 0, .int 0, .int 0, .null] j := fun j hj => by
  rcases (show j = 0 ∨ j = 1 ∨ j = 2 ∨ j = 3 ∨ j = 4 ∨ j = 5 by omega) with rfl | rfl | rfl | rfl | rfl | rfl <;> rfl
theorem zdf_X8 : ∀ j, j < 11 → defaultValue (tyX8 j) = vp_V [.null, .null, .null, .null, .null, .int 0, .int 0, .int 0, .int 0, .int 0, .int 0] j := fun j hj => by
  rcases (show j = 0 ∨ j = 1 ∨ j = 2 ∨ j = 3 ∨ j = 4 ∨ j = 5 ∨ j = 6 ∨ j = 7 ∨ j = 8 ∨ j = 9 ∨ j = 10 by omega) with rfl | rfl | rfl | rfl | rfl | rfl | rfl | rfl | rfl | rfl | rfl <;> rfl
theorem zdf_X9 : ∀ j, j < 6 → defaultValue (tyX9 j) = vp_V [.null, .null, .int 0, .null, .null, .null] j := fun j hj => by
  rcases (show j = 0 ∨ j = 1 ∨ j = 2 ∨ j = 3 ∨ j = 4 ∨ j = 5 by omega) with rfl | rfl | rfl | rfl | rfl | rfl <;> rfl
theorem zdf_X10 : ∀ j, j < 58 → defaultValue (tyX10 j) = vp_V zf10 j := fun j hj => by
  rcases (show j = 0 ∨ j = 1 ∨ j = 2 ∨ j = 3 ∨ j = 4 ∨ j = 5 ∨ j = 6 ∨ j = 7 ∨ j = 8 ∨ j = 9 ∨ j = 10 ∨ j = 11 ∨ j = 12 ∨ j = 13 ∨ j = 14 ∨ j = 15 ∨ j = 16 ∨ j = 17 ∨ j = 18 ∨ j = 19 ∨ j = 20 ∨ j = 21 ∨ j = 22 ∨ j = 23 ∨ j = 24 ∨ j = 25 ∨ j = 26 ∨ j = 27 ∨ j = 28 ∨ j = 29 ∨ j = 30 ∨ j = 31 ∨ j = 32 ∨ j = 33 ∨ j = 34 ∨ j = 35 ∨ j = 36 ∨ j = 37 ∨ j = 38 ∨ j = 39 ∨ j = 40 ∨ j = 41 ∨ j = 42 ∨ j = 43 ∨ j = 44 ∨ j = 45 ∨ j = 46 ∨ j = 47 ∨ j = 48 ∨ j = 49 ∨ j = 50 ∨ j = 51 ∨ j = 52 ∨ j = 53 ∨ j = 54 ∨ j = 55 ∨ j = 56 ∨ j = 57 by omega) with rfl | rfl | rfl | rfl | rfl | rfl | rfl | rfl | rfl | rfl | rfl | rfl | rfl | rfl | rfl | rfl | rfl | rfl | rfl | rfl | rfl | rfl | rfl | rfl | rfl | rfl | rfl | rfl | rfl | rfl | rfl | rfl | rfl | rfl | rfl | rfl | rfl | rfl | rfl | rfl | rfl | rfl | rfl | rfl | rfl | rfl | rfl | rfl | rfl | rfl | rfl | rfl | rfl | rfl | rfl | rfl | rfl | rfl <;> rfl
