/-! The system's own words: what a contract says of the world, entry, return and call, each in one lemma. -/
/-- links between nest mates, which are no words of a list -/
def zN (U : State) : Prop := va_Nw (.methodLinkNest RX0 36 yX9_isHeap RX9) U ∧ va_Nw (.methodLinkNest RX2 52 yX9_isHeap RX9) U ∧ va_Nw (.methodLinkNest RX3 102 yX9_isHeap RX9) U ∧ va_Nw (.fieldLinkNest RX6 32 RX9 "LETTERS" "[C" RX9) U ∧ va_Nw (.fieldLinkNest RX8 128 RX9 "LETTERS" "[C" RX9) U
theorem zN.same {u U : State} (h : u.vm = U.vm) (z : zN u) : zN U := ⟨va_Nw.same rfl h z.1, va_Nw.same rfl h z.2.1, va_Nw.same rfl h z.2.2.1, va_Nw.same rfl h z.2.2.2.1, va_Nw.same rfl h z.2.2.2.2⟩
theorem zN.warm {s U : State} (h : s.WarmedH U.vm) (z : zN s) : zN U := ⟨va_Nw.warmM h z.1, va_Nw.warmM h z.2.1, va_Nw.warmM h z.2.2.1, va_Nw.warmF h z.2.2.2.1, va_Nw.warmF h z.2.2.2.2⟩
def zLet : Nat → Int32 := fun j => match j with | 0 => 102 | 1 => 115 | 2 => 101 | 3 => 108 | 4 => 111 | _ => 114
def zLeast : Nat → Int32 := fun j => match j with | 0 => 1 | 1 => 1 | 2 => 0 | _ => 0
def zMost : Nat → Int32 := fun j => match j with | 0 => 3 | 1 => 9 | 2 => 2 | _ => 1
/-- the constant rows of the classes, and what a throw wants of Throwable -/
def zS (t : Nat → Nat) (A : Nat → Prop) (U : State) (H : Heap) : Prop :=
  (va_Z RX9 "LETTERS" "[C" (.ref (t 0)) A U H ∧ va_T .char (t 0) 6 (fun j => .int (zLet j)) A U H) ∧
  (va_Z RX5 "LEAST" "[I" (.ref (t 1)) A U H ∧ va_T .int (t 1) 4 (fun j => .int (zLeast j)) A U H) ∧
  (va_Z RX5 "MOST" "[I" (.ref (t 2)) A U H ∧ va_T .int (t 2) 4 (fun j => .int (zMost j)) A U H) ∧
  vx_Zq Bundle.tN "UNASSIGNED_STACK" Bundle.steD A U H ∧ vx_Zq Bundle.tN "SUPPRESSED_SENTINEL" Bundle.listD A U H
theorem zS.moved {t : Nat → Nat} {A : Nat → Prop} {u U : State} {H : Heap} (h : u.vm.Alike U.vm) (z : zS t A u H) : zS t A U H :=
  ⟨⟨va_Z.moved h z.1.1, va_T.moved h z.1.2⟩, ⟨va_Z.moved h z.2.1.1, va_T.moved h z.2.1.2⟩, ⟨va_Z.moved h z.2.2.1.1, va_T.moved h z.2.2.1.2⟩, vx_Zq.moved h z.2.2.2.1, vx_Zq.moved h z.2.2.2.2⟩
theorem zS.kept {t : Nat → Nat} {A : Nat → Prop} {U : State} {H H1 : Heap} (z : zS t A U H) (h : ∀ a : Nat, a < H.size → ¬ A a → H1[a]? = H[a]?) : zS t A U H1 :=
  ⟨⟨va_Z.kept z.1.1 h, va_T.kept z.1.2 h⟩, ⟨va_Z.kept z.2.1.1 h, va_T.kept z.2.1.2 h⟩, ⟨va_Z.kept z.2.2.1.1 h, va_T.kept z.2.2.1.2 h⟩, vx_Zq.kept z.2.2.2.1 h, vx_Zq.kept z.2.2.2.2 h⟩
theorem zS.narrow {t : Nat → Nat} {A B : Nat → Prop} {U : State} {H : Heap} (z : zS t A U H) (h : ∀ q, B q → A q) : zS t B U H :=
  ⟨⟨va_Z.narrow z.1.1 h, va_T.narrow z.1.2 h⟩, ⟨va_Z.narrow z.2.1.1 h, va_T.narrow z.2.1.2 h⟩, ⟨va_Z.narrow z.2.2.1.1 h, va_T.narrow z.2.2.1.2 h⟩, vx_Zq.narrow z.2.2.2.1 h, vx_Zq.narrow z.2.2.2.2 h⟩
/-- the surroundings of every method -/
def zE (t : Nat → Nat) (A : Nat → Prop) (U : State) (H : Heap) : Prop := zN U ∧ zS t A U H
/-- before a method: the cells w, apart, of the known classes, within the surroundings -/
def zPre (D : va_G) (T : List (ClassId × FieldType)) (t : Nat → Nat) (w : va_W) (sz : Nat) (U : State) : Prop :=
  U.heap.size = sz ∧ va_P D vwCl w U.heap ∧ va_K D vwCl T U ∧ va_D (fun _ => True) w ∧ zE t (va_A w sz) U U.heap
theorem zPre.blind {D : va_G} {T : List (ClassId × FieldType)} {t : Nat → Nat} {w : va_W} {sz : Nat} {as : List Value} : FrameBlind (va_Pc as (zPre D T t w sz)) := fun a U g mk q => by
  obtain ⟨q0, q1, qP, qK, qD, qN, qS⟩ := q
  exact ⟨q0, q1, qP, va_K.moved (u := U) (U := U.calling g mk a) (Vm.Alike.refl U.vm) qK, qD, zN.same (u := U) rfl qN, zS.moved (u := U) (U := U.calling g mk a) (Vm.Alike.refl U.vm) qS⟩
/-- what a method that writes leaves: the cells w' in place of w -/
def zPost (D : va_G) (T : List (ClassId × FieldType)) (w w' : va_W) (sz : Nat) (U : State) : Prop := va_P D vwCl w' U.heap ∧ va_K D vwCl T U ∧ va_D (va_A w sz) w'
/-- a method that writes, answering an int (a boolean, ..) -/
def zMi (l : Launch) (D : va_G) (T : List (ClassId × FieldType)) (t : Nat → Nat) (y : MethodName) (ws : List Cond) (rm : Room) (as : List Value) (w w' : va_W) (r : Int32) : Prop :=
  ∀ sz, Met l y ws rm (va_Pc as (zPre D T t w sz)) (va_Qi (fun (x : Int32) (_ : Unit) => x = r) (fun _ U => zPost D T w w' sz U) (va_A w sz)) 0 0 (va_A w sz)
def zMl (l : Launch) (D : va_G) (T : List (ClassId × FieldType)) (t : Nat → Nat) (y : MethodName) (ws : List Cond) (rm : Room) (as : List Value) (w w' : va_W) (r : Int64) : Prop :=
  ∀ sz, Met l y ws rm (va_Pc as (zPre D T t w sz)) (va_Ql (fun (x : Int64) (_ : Unit) => x = r) (fun _ U => zPost D T w w' sz U) (va_A w sz)) 0 0 (va_A w sz)
def zMv (l : Launch) (D : va_G) (T : List (ClassId × FieldType)) (t : Nat → Nat) (y : MethodName) (ws : List Cond) (rm : Room) (as : List Value) (w w' : va_W) : Prop :=
  ∀ sz, Met l y ws rm (va_Pc as (zPre D T t w sz)) (va_Qv (fun (_ : Unit) => True) (fun _ U => zPost D T w w' sz U) (va_A w sz)) 0 0 (va_A w sz)
def zMr (l : Launch) (D : va_G) (T : List (ClassId × FieldType)) (t : Nat → Nat) (y : MethodName) (ws : List Cond) (rm : Room) (as : List Value) (w w' : va_W) (b : Nat) : Prop :=
  ∀ sz, Met l y ws rm (va_Pc as (zPre D T t w sz)) (va_Qr (fun (_ : Unit) => True) (fun _ a U => a = b ∧ zPost D T w w' sz U) (va_A w sz)) 0 0 (va_A w sz)
/-- a method that reads alone -/
def zRi (l : Launch) (D : va_G) (T : List (ClassId × FieldType)) (t : Nat → Nat) (y : MethodName) (ws : List Cond) (rm : Room) (as : List Value) (w : va_W) (r : Int32) : Prop :=
  ∀ sz, Met l y ws rm (va_Pc as (zPre D T t w sz)) (vp_Si (fun x => x = r)) 0 0 (fun _ => False)
section
variable {l : Launch} {D : va_G} {T : List (ClassId × FieldType)} {t : Nat → Nat} {y : MethodName} {ws ws' : List Cond} {rm : Room} {as : List Value} {w w' : va_W} {cc : ByteArray} {maxL : Nat}
/-- what every walk begins with -/
abbrev zBegin (p : Program) (s : State) (m : MethodId) (c : Code) (A : Nat → Prop) (D : va_G) (T : List (ClassId × FieldType)) (t : Nat → Nat) (y : MethodName) (ws : List Cond) (args : Array Value) (cc : ByteArray) (maxL : Nat) : Prop :=
  p.tables.exec = Jvm.exec ∧ c.code = cc ∧ c.maxLocals = maxL ∧ s.vm.findClass y.cls = some m.cls ∧ (∀ v ∈ ws, v.before args s = true) ∧ (∀ q, s.heap.size ≤ q → A q) ∧ va_K D vwCl T s ∧ zE t A s s.heap ∧ va_S A s.heap s.heap []
theorem zMi_of {r : Int32} {ty : FieldType} (hy : plainName y.cls = true) (hw : ws = Cond.code y cc maxL (some ty) :: ws') (hn : (lg_sl as).length ≤ maxL)
    (body : ∀ (p : Program) (e : Env) (s : State) (m : MethodId) (args : Array Value) (below : List Frame) (meth : Method) (c : Code) (A : Nat → Prop) (Q : State → Prop) (ls : Array Slot), zBegin p s m c A D T t y ws args cc maxL →
      (∀ (H : Heap) (locs : List Loc) (pc : Nat) (ls : Array Slot), va_P D vwCl w' H → va_D A w' → va_S A s.heap H locs → narrow ty (.int r) = .int r → decode cc pc = .ok (.ireturn, 1) → W p l e rm s m args below meth c H locs 0 0 Q (F0 m pc ls [.int r])) →
      va_P D vwCl w s.heap → va_D A w → lv_has ls maxL (lv_args 0 as) → W p l e rm s m args below meth c s.heap [] 0 0 Q (F0 m 0 ls [])) : zMi l D T t y ws rm as w w' r := by
  intro sz
  refine Met.ofW (cc := cc) (maxL := maxL) (ret := some ty) hy hw ?_
  intro p e s m args below meth c s₁ B hml hv
  obtain ⟨rfl, hsz, hP, hK, hD0, hZ⟩ := hv
  have hx := B.exec
  have hb := B.bytes
  have hr := B.returns
  have hts := atoms_spec (ws := ws) B.pre
  have hown : s.vm.findClass y.cls = some m.cls := findClass_of_methodNamed B.named
  have hlocks := B.notSynchronized
  subst hsz
  have hl := lv_entry as (n := maxL) hn
  rw [lg_entry_eq]
  refine body p e s m _ below meth c (va_A w s.heap.size) _ _ ⟨hx, hb, hml, hown, hts, fun q h => Or.inr h, hK, hZ, va_S.rf⟩ ?_ hP (hD0.self (sz := s.heap.size)) hl
  intro H locs pc ls hP' hD' hS' hty hd
  exact W.zret (ty := ty) hx hb hr hty (fun t ht hW => ⟨⟨r, (), rfl, rfl, by rw [ht]; exact hP', va_K.moved hW.alike hK, hD'⟩, hS'.F ht⟩) hS'.2.2 hd
theorem zMl_of {r : Int64} (hy : plainName y.cls = true) (hw : ws = Cond.code y cc maxL (some .long) :: ws') (hn : (lg_sl as).length ≤ maxL)
    (body : ∀ (p : Program) (e : Env) (s : State) (m : MethodId) (args : Array Value) (below : List Frame) (meth : Method) (c : Code) (A : Nat → Prop) (Q : State → Prop) (ls : Array Slot), zBegin p s m c A D T t y ws args cc maxL →
      (∀ (H : Heap) (locs : List Loc) (pc : Nat) (ls : Array Slot), va_P D vwCl w' H → va_D A w' → va_S A s.heap H locs → decode cc pc = .ok (.lreturn, 1) → W p l e rm s m args below meth c H locs 0 0 Q (F0 m pc ls [.long r])) →
      va_P D vwCl w s.heap → va_D A w → lv_has ls maxL (lv_args 0 as) → W p l e rm s m args below meth c s.heap [] 0 0 Q (F0 m 0 ls [])) : zMl l D T t y ws rm as w w' r := by
  intro sz
  refine Met.ofW (cc := cc) (maxL := maxL) (ret := some .long) hy hw ?_
  intro p e s m args below meth c s₁ B hml hv
  obtain ⟨rfl, hsz, hP, hK, hD0, hZ⟩ := hv
  have hx := B.exec
  have hb := B.bytes
  have hr := B.returns
  have hts := atoms_spec (ws := ws) B.pre
  have hown : s.vm.findClass y.cls = some m.cls := findClass_of_methodNamed B.named
  have hlocks := B.notSynchronized
  subst hsz
  have hl := lv_entry as (n := maxL) hn
  rw [lg_entry_eq]
  refine body p e s m _ below meth c (va_A w s.heap.size) _ _ ⟨hx, hb, hml, hown, hts, fun q h => Or.inr h, hK, hZ, va_S.rf⟩ ?_ hP (hD0.self (sz := s.heap.size)) hl
  intro H locs pc ls hP' hD' hS' hd
  exact W.lret hx hb hr (fun t ht hW => ⟨⟨r, (), rfl, rfl, by rw [ht]; exact hP', va_K.moved hW.alike hK, hD'⟩, hS'.F ht⟩) hS'.2.2 hd
theorem zMv_of (hy : plainName y.cls = true) (hw : ws = Cond.code y cc maxL none :: ws') (hn : (lg_sl as).length ≤ maxL)
    (body : ∀ (p : Program) (e : Env) (s : State) (m : MethodId) (args : Array Value) (below : List Frame) (meth : Method) (c : Code) (A : Nat → Prop) (Q : State → Prop) (ls : Array Slot), zBegin p s m c A D T t y ws args cc maxL →
      (∀ (H : Heap) (locs : List Loc) (pc : Nat) (ls : Array Slot), va_P D vwCl w' H → va_D A w' → va_S A s.heap H locs → decode cc pc = .ok (.return_, 1) → W p l e rm s m args below meth c H locs 0 0 Q (F0 m pc ls [])) →
      va_P D vwCl w s.heap → va_D A w → lv_has ls maxL (lv_args 0 as) → W p l e rm s m args below meth c s.heap [] 0 0 Q (F0 m 0 ls [])) : zMv l D T t y ws rm as w w' := by
  intro sz
  refine Met.ofW (cc := cc) (maxL := maxL) (ret := none) hy hw ?_
  intro p e s m args below meth c s₁ B hml hv
  obtain ⟨rfl, hsz, hP, hK, hD0, hZ⟩ := hv
  have hx := B.exec
  have hb := B.bytes
  have hr := B.returns
  have hts := atoms_spec (ws := ws) B.pre
  have hown : s.vm.findClass y.cls = some m.cls := findClass_of_methodNamed B.named
  have hlocks := B.notSynchronized
  subst hsz
  have hl := lv_entry as (n := maxL) hn
  rw [lg_entry_eq]
  refine body p e s m _ below meth c (va_A w s.heap.size) _ _ ⟨hx, hb, hml, hown, hts, fun q h => Or.inr h, hK, hZ, va_S.rf⟩ ?_ hP (hD0.self (sz := s.heap.size)) hl
  intro H locs pc ls hP' hD' hS' hd
  exact W.vret hx hb hr (fun t ht hW => ⟨⟨(), rfl, trivial, by rw [ht]; exact hP', va_K.moved hW.alike hK, hD'⟩, hS'.F ht⟩) hS'.2.2 hd
theorem zMr_of {b : Nat} {rt : FieldType} (hrt : (∃ n, rt = .object n) ∨ ∃ t, rt = .array t) (hy : plainName y.cls = true) (hw : ws = Cond.code y cc maxL (some rt) :: ws') (hn : (lg_sl as).length ≤ maxL)
    (body : ∀ (p : Program) (e : Env) (s : State) (m : MethodId) (args : Array Value) (below : List Frame) (meth : Method) (c : Code) (A : Nat → Prop) (Q : State → Prop) (ls : Array Slot), zBegin p s m c A D T t y ws args cc maxL →
      (∀ (H : Heap) (locs : List Loc) (pc : Nat) (ls : Array Slot), va_P D vwCl w' H → va_D A w' → va_S A s.heap H locs → decode cc pc = .ok (.areturn, 1) → W p l e rm s m args below meth c H locs 0 0 Q (F0 m pc ls [.ref b])) →
      va_P D vwCl w s.heap → va_D A w → lv_has ls maxL (lv_args 0 as) → W p l e rm s m args below meth c s.heap [] 0 0 Q (F0 m 0 ls [])) : zMr l D T t y ws rm as w w' b := by
  intro sz
  refine Met.ofW (cc := cc) (maxL := maxL) (ret := some rt) hy hw ?_
  intro p e s m args below meth c s₁ B hml hv
  obtain ⟨rfl, hsz, hP, hK, hD0, hZ⟩ := hv
  have hx := B.exec
  have hb := B.bytes
  have hr := B.returns
  have hts := atoms_spec (ws := ws) B.pre
  have hown : s.vm.findClass y.cls = some m.cls := findClass_of_methodNamed B.named
  have hlocks := B.notSynchronized
  subst hsz
  have hl := lv_entry as (n := maxL) hn
  rw [lg_entry_eq]
  refine body p e s m _ below meth c (va_A w s.heap.size) _ _ ⟨hx, hb, hml, hown, hts, fun q h => Or.inr h, hK, hZ, va_S.rf⟩ ?_ hP (hD0.self (sz := s.heap.size)) hl
  intro H locs pc ls hP' hD' hS' hd
  exact W.aret hx hb hr hrt (Or.inr ⟨b, rfl⟩) (fun t ht hW => ⟨⟨(), b, rfl, trivial, rfl, by rw [ht]; exact hP', va_K.moved hW.alike hK, hD'⟩, hS'.F ht⟩) hS'.2.2 hd
theorem zRi_of {r : Int32} {ty : FieldType} (hy : plainName y.cls = true) (hw : ws = Cond.code y cc maxL (some ty) :: ws') (hn : (lg_sl as).length ≤ maxL)
    (body : ∀ (p : Program) (e : Env) (s : State) (m : MethodId) (args : Array Value) (below : List Frame) (meth : Method) (c : Code) (A : Nat → Prop) (Q : State → Prop) (ls : Array Slot), zBegin p s m c A D T t y ws args cc maxL →
      (∀ (pc : Nat) (ls : Array Slot), narrow ty (.int r) = .int r → decode cc pc = .ok (.ireturn, 1) → W p l e rm s m args below meth c s.heap [] 0 0 Q (F0 m pc ls [.int r])) →
      va_P D vwCl w s.heap → va_D A w → lv_has ls maxL (lv_args 0 as) → W p l e rm s m args below meth c s.heap [] 0 0 Q (F0 m 0 ls [])) : zRi l D T t y ws rm as w r := by
  intro sz
  refine Met.ofW (cc := cc) (maxL := maxL) (ret := some ty) hy hw ?_
  intro p e s m args below meth c s₁ B hml hv
  obtain ⟨rfl, hsz, hP, hK, hD0, hZ⟩ := hv
  have hx := B.exec
  have hb := B.bytes
  have hr := B.returns
  have hts := atoms_spec (ws := ws) B.pre
  have hown : s.vm.findClass y.cls = some m.cls := findClass_of_methodNamed B.named
  have hlocks := B.notSynchronized
  subst hsz
  have hl := lv_entry as (n := maxL) hn
  rw [lg_entry_eq]
  refine body p e s m _ below meth c (va_A w s.heap.size) _ _ ⟨hx, hb, hml, hown, hts, fun q h => Or.inr h, hK, hZ, va_S.rf⟩ ?_ hP (hD0.self (sz := s.heap.size)) hl
  intro pc ls hty hd
  exact W.zret (ty := ty) hx hb hr hty (fun t ht hW => ⟨r, rfl, rfl, ht⟩) (fun q h => by cases h) hd
end
