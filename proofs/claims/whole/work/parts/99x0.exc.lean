/-! Exceptions: the words of the throws, and the methods that throw or catch. -/
abbrev zEU : String := "java/lang/UnsupportedOperationException"
abbrev zEA : String := "java/lang/IllegalArgumentException"
abbrev zES : String := "java/lang/IllegalStateException"
abbrev zNm : List String := ["java/lang/RuntimeException", "java/lang/Exception"]
def zAt : List Cond := vx_atS RX1 21 zEU zNm ++ (vx_atS RX1 32 zEA zNm ++ (vx_atS RX1 37 zES zNm ++ (vx_atS RX9 366 zEA zNm ++ vx_atS RX9 373 zES zNm)))
theorem zAt1 : ∀ w ∈ vx_atS RX1 21 zEU zNm, w ∈ zAt := fun _ h => List.mem_append_left _ h
theorem zAt2 : ∀ w ∈ vx_atS RX1 32 zEA zNm, w ∈ zAt := fun _ h => List.mem_append_right _ (List.mem_append_left _ h)
theorem zAt3 : ∀ w ∈ vx_atS RX1 37 zES zNm, w ∈ zAt := fun _ h => List.mem_append_right _ (List.mem_append_right _ (List.mem_append_left _ h))
theorem zAt4 : ∀ w ∈ vx_atS RX9 366 zEA zNm, w ∈ zAt := fun _ h => List.mem_append_right _ (List.mem_append_right _ (List.mem_append_right _ (List.mem_append_left _ h)))
theorem zAt5 : ∀ w ∈ vx_atS RX9 373 zES zNm, w ∈ zAt := fun _ h => List.mem_append_right _ (List.mem_append_right _ (List.mem_append_right _ (List.mem_append_right _ h)))
def zVl : List Cond := [Cond.classLink RX1 17 zEU, Cond.classLink RX1 28 zEA, Cond.classLink RX1 33 zES, Cond.classLink RX9 362 zEA, Cond.classLink RX9 369 zES, Cond.classLink RX9 395 zEU, Cond.classLink RL 13 zEA, Cond.classLink RL 15 zES, Cond.initialized zEU, Cond.initialized zEA, Cond.initialized zES, Cond.methodLink RX1 24 yX1_isBlack, Cond.static yX1_isBlack, Cond.initialized RX1, Cond.code yX1_isBlack cX1_isBlack 1 (some .boolean), Cond.methodLink RX9 392 yX1_fail, Cond.static yX1_fail, Cond.code yX1_fail cX1_fail 2 none, Cond.methodLink RX9 356 yX7_hasPlace, Cond.instanceMethod yX7_hasPlace, Cond.selects RX7 yX7_hasPlace yX7_hasPlace, Cond.initialized RX7, Cond.code yX7_hasPlace cX7_hasPlace 2 (some .boolean), Cond.fieldLink RX9 118 "CoatsOnTheBed$Shelf" "kind" "I", Cond.fieldLink RX9 122 "CoatsOnTheBed$Shelf" "figure" "I", Cond.fieldLink RX9 149 "CoatsOnTheBed$Shelf" "elements" "[I", Cond.methodLink RX9 108 yX9_isShelf, Cond.methodLink RX9 114 yX9_refusalOf, Cond.methodLink RL 7 yX9_element, Cond.instanceMethod yX9_element, Cond.selects RX9 yX9_element yX9_element, Cond.initialized RX9, Cond.code yX9_element cX9_element 3 (some .long)]
theorem zVl_in : ∀ w ∈ zVl, w ∈ lw_tbl := fun w h => of_decide_eq_true (List.all_eq_true.mp (by decide +kernel : (zVl.all fun w => decide (w ∈ lw_tbl)) = true) w h)
theorem zVl_ok : ∀ w ∈ zVl, goodWord w = true := fun w h => List.all_eq_true.mp (by decide +kernel : zVl.all goodWord = true) w h
theorem zAt_in : ∀ w ∈ zAt, w ∈ lw_tbl := fun w h => of_decide_eq_true (List.all_eq_true.mp (by decide +kernel : (zAt.all fun w => decide (w ∈ lw_tbl)) = true) w h)
def zXk : Cond → Bool
  | .castable .. => true
  | .declares _ => true
  | _ => false
def zXw : List Cond := zAt.filter (fun w => !goodWord w)
theorem zXw_k : ∀ w ∈ zXw, zXk w = true := fun w h => List.all_eq_true.mp (by decide +kernel : zXw.all zXk = true) w h
theorem zAt_ot : ∀ w ∈ zAt, vx_ot w = true := fun w h => List.all_eq_true.mp (by decide +kernel : zAt.all vx_ot = true) w h
def zV : List Cond := zVl ++ (zAt.filter goodWord ++ zW)
theorem zV_in : ∀ w ∈ zV, w ∈ lw_tbl := fun w h => by
  rcases List.mem_append.mp h with h | h
  · exact zVl_in w h
  · rcases List.mem_append.mp h with h | h
    · exact zAt_in w (List.mem_filter.mp h).1
    · exact zW_in w h
theorem zV_ok : ∀ w ∈ zV, goodWord w = true := fun w h => by
  rcases List.mem_append.mp h with h | h
  · exact zVl_ok w h
  · rcases List.mem_append.mp h with h | h
    · exact (List.mem_filter.mp h).2
    · exact zW_ok w h
theorem zV_W : ∀ w ∈ zW, w ∈ zV := fun _ h => List.mem_append_right _ (List.mem_append_right _ h)
theorem zV_l (i : Nat) {w : Cond} (h : zVl[i]? = some w) : w ∈ zV := List.mem_append_left _ (List.mem_of_getElem? h)
theorem zXk_tab {w : Cond} (h : zXk w = true) : w.onTables = true := by cases w <;> first | rfl | (simp [zXk] at h)
theorem zXk_warm {w : Cond} (h : zXk w = true) {s U : State} (hW : s.WarmedH U.vm) (hZ : va_Nw w s) : va_Nw w U := by
  cases w <;> first | exact va_Nw.warmC hW hZ | exact va_Nw.warmD hW hZ | (simp [zXk] at h)
/-- what the throws want beside the good words -/
def zXs (U : State) : Prop := (∀ w ∈ zXw, va_Nw w U) ∧ (va_Nc zEA zEU U ∧ va_Nc zES zEU U ∧ va_Nc zES zEA U) ∧
  (∃ a, vk_R RX1 19 "a scarf is no coat" a U) ∧ (∃ a, vk_R RX1 30 "one black coat is like another" a U) ∧ (∃ a, vk_R RX1 35 "a coat fails" a U) ∧ (∃ a, vk_R RX9 364 "no such shelf" a U) ∧ (∃ a, vk_R RX9 371 "no row, or no such place" a U)
theorem zXs.warm {s U : State} (hW : s.WarmedH U.vm) (h : zXs s) : zXs U := by
  obtain ⟨h1, ⟨n1, n2, n3⟩, ⟨a1, b1⟩, ⟨a2, b2⟩, ⟨a3, b3⟩, ⟨a4, b4⟩, ⟨a5, b5⟩⟩ := h
  exact ⟨fun w hw => zXk_warm (zXw_k w hw) hW (h1 w hw), ⟨va_Nc.moved hW.alike n1, va_Nc.moved hW.alike n2, va_Nc.moved hW.alike n3⟩, ⟨a1, vk_R.warm hW b1⟩, ⟨a2, vk_R.warm hW b2⟩, ⟨a3, vk_R.warm hW b3⟩, ⟨a4, vk_R.warm hW b4⟩, ⟨a5, vk_R.warm hW b5⟩⟩
theorem zXs.same {s U : State} (hv : s.vm = U.vm) (h : zXs s) : zXs U := by
  obtain ⟨h1, ⟨n1, n2, n3⟩, ⟨a1, b1⟩, ⟨a2, b2⟩, ⟨a3, b3⟩, ⟨a4, b4⟩, ⟨a5, b5⟩⟩ := h
  have hA : s.vm.Alike U.vm := by rw [hv]; exact Vm.Alike.refl _
  exact ⟨fun w hw => va_Nw.same (zXk_tab (zXw_k w hw)) hv (h1 w hw), ⟨va_Nc.moved hA n1, va_Nc.moved hA n2, va_Nc.moved hA n3⟩, ⟨a1, vk_R.same hv.symm b1⟩, ⟨a2, vk_R.same hv.symm b2⟩, ⟨a3, vk_R.same hv.symm b3⟩, ⟨a4, vk_R.same hv.symm b4⟩, ⟨a5, vk_R.same hv.symm b5⟩⟩
def zPreX (D : va_G) (T : List (ClassId × FieldType)) (t : Nat → Nat) (w : va_W) (sz : Nat) (U : State) : Prop := zPre D T t w sz U ∧ zXs U
theorem zPreX.blind {D : va_G} {T : List (ClassId × FieldType)} {t : Nat → Nat} {w : va_W} {sz : Nat} {as : List Value} : FrameBlind (va_Pc as (zPreX D T t w sz)) := fun a U g mk q => by
  obtain ⟨q0, q1, q2⟩ := q
  have h := zPre.blind (as := as) a U g mk ⟨q0, q1⟩
  exact ⟨h.1, h.2, zXs.same (s := U) rfl q2⟩
theorem zHat {args : Array Value} {s : State} {L : List Cond} (hL : ∀ w ∈ L, w ∈ zAt) (hts : ∀ w ∈ zV, w.before args s = true) (hX : zXs s) : ∀ w ∈ L, w.before args s = true := by
  intro w hw
  have h := hL w hw
  by_cases g : goodWord w = true
  · exact hts w (List.mem_append_right _ (List.mem_append_left _ (List.mem_filter.mpr ⟨h, g⟩)))
  · have hm : w ∈ zXw := List.mem_filter.mpr ⟨h, by simpa using g⟩
    exact va_Nw.use (zXk_tab (zXw_k w hm)) (hX.1 w hm)
theorem zHok {a b : Cond} {L : List Cond} (h1 : goodWord a = true) (h2 : goodWord b = true) (hL : ∀ w ∈ L, w ∈ zAt) : ∀ w ∈ a :: b :: L, vx_ot w = true := by
  intro w hw
  rcases List.mem_cons.mp hw with rfl | hw
  · simp [vx_ot, h1]
  · rcases List.mem_cons.mp hw with rfl | hw
    · simp [vx_ot, h2]
    · exact zAt_ot w (hL w hw)
/-- calls by the words of zV -/
theorem zGV {L : List Cond} (h : ∀ w ∈ L, w ∈ zV) : GoodIn zV L := fun w hw => ⟨h w hw, good_of_word (zV_ok w (h w hw))⟩
section
variable {R : Room} {s : State} {args : Array Value} {own C : String} {idx n mL mc ms : Nat} {y : MethodName} {c : ByteArray} {r : Option FieldType} {rm : Room} {L : List Cond}
theorem zcwSX (hts : ∀ w ∈ zV, w.before args s = true) (h1 : Cond.methodLink own idx y ∈ zV) (h2 : Cond.static y ∈ zV) (h4 : Cond.initialized y.cls ∈ zV) (h5 : Cond.code y c mL r ∈ zV) (hL : ∀ w ∈ L, w ∈ zV) (hrc : rm.cells = mc) (hrs : rm.slots = ms)
    (hd : y.cls ≠ "java/lang/invoke/MethodHandle" ∧ y.cls ≠ "java/lang/invoke/VarHandle" ∧ (parseMethodDescriptor y.desc).map (fun d => d.parameters.length) = some n) (hR : rm.frames + 1 ≤ R.frames ∧ 8 + (mL + 11) + rm.locals ≤ R.locals) :
    CallB R s args own idx y c mL r (Cond.code y c mL r :: L) rm mc ms n ∧ (Cond.static y).before args s = true :=
  va_cwS n hts (zGV (List.forall_mem_append.mpr ⟨List.forall_mem_cons.mpr ⟨h1, List.forall_mem_cons.mpr ⟨h2, List.forall_mem_cons.mpr ⟨h4, fun _ h => absurd h List.not_mem_nil⟩⟩⟩, List.forall_mem_cons.mpr ⟨h5, hL⟩⟩)) rfl hrc hrs hd hR
theorem zcwVX (hts : ∀ w ∈ zV, w.before args s = true) (h1 : Cond.methodLink own idx y ∈ zV) (h2 : Cond.instanceMethod y ∈ zV) (h3 : Cond.selects C y y ∈ zV) (h4 : Cond.initialized C ∈ zV) (h5 : Cond.code y c mL r ∈ zV) (hL : ∀ w ∈ L, w ∈ zV) (hrc : rm.cells = mc) (hrs : rm.slots = ms)
    (hd : y.cls = C ∧ y.cls ≠ "java/lang/invoke/MethodHandle" ∧ y.cls ≠ "java/lang/invoke/VarHandle" ∧ (parseMethodDescriptor y.desc).map (fun d => d.parameters.length) = some n) (hR : rm.frames + 1 ≤ R.frames ∧ 8 + (mL + 11) + rm.locals ≤ R.locals) :
    CallW R s args own C idx y c mL r (Cond.code y c mL r :: L) rm mc ms n :=
  cwV n hts (zGV (List.forall_mem_append.mpr ⟨List.forall_mem_cons.mpr ⟨h1, List.forall_mem_cons.mpr ⟨h2, List.forall_mem_cons.mpr ⟨h3, List.forall_mem_cons.mpr ⟨h4, fun _ h => absurd h List.not_mem_nil⟩⟩⟩⟩, List.forall_mem_cons.mpr ⟨h5, hL⟩⟩)) rfl hrc hrs hd hR
end
section
variable {p : Program} {l : Launch} {e : Env} {R : Room} {s : State} {m : MethodId} {args : Array Value} {below : List Frame} {meth : Method} {c : Code} {H : Heap} {locs : List Loc} {Q : State → Prop} {pc : Nat} {ls : Array Slot} {st rest As : List Value} {cc bytes : ByteArray} {nL maxL n index : Nat} {Ts wsy : List Cond} {own : String} {y : MethodName} {ret : Option FieldType} {rmy : Room}
  {D : va_G} {T : List (ClassId × FieldType)} {t : Nat → Nat} {A : Nat → Prop} {wc : va_W} {r : Int32} {kc ks : Nat}
theorem zcSRK (hM : zRi l D T t y wsy rmy As wc r) (S : CallFix p m c cc nL s args Ts own) (cw : CallB R s args own index y bytes maxL ret wsy rmy 0 0 n ∧ (Cond.static y).before args s = true)
    (hA : ∀ q, s.heap.size ≤ q → A q) (hK : va_K D vwCl T s) (hZ : zE t A s s.heap) (hP : va_P D vwCl wc H) (hD : va_D A wc) (hS : va_S A s.heap H locs)
    (hn : As.length = n) (hls : ls.size = nL) (hW : (rest.map fun v => v.category).sum ≤ 8) (hdg : decode cc pc = .ok (.invokestatic index, 3)) (hst : st = As.reverse ++ rest) (hk : kc ≤ R.cells ∧ ks ≤ R.slots)
    (kk : W p l e R s m args below meth c H locs kc ks Q (F0 m (pc + 3) ls (.int r :: rest))) : W p l e R s m args below meth c H locs kc ks Q (F0 m pc ls st) := by
  subst hst
  intro T hT X
  obtain ⟨v, st₀, t, T', L, h0, X', hL, e1, e2, ⟨r', hv, hp, hh⟩, st⟩ := va_runS (As := As) (rest := rest) S (hM H.size) cw ⟨zPre.blind, zcU hA hK hZ hP hD hS⟩ (g := F0 m pc ls (As.reverse ++ rest)) rfl hn hls rfl (lv_room hW) hdg hk T hT X
  cases hv
  subst hp
  obtain ⟨t2, a1, b1⟩ := kk T' (by rw [e1, hh, h0]) (Stand.forget X' (fun q h => (hL q h).elim))
  exact ⟨t2, st t2 a1, b1⟩
end
