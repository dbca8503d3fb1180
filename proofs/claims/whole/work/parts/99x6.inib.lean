/-! Constructors: worlds that grow. -/
theorem zP_iff {D : va_G} {ws : va_W} {H : Heap} : va_P D vwCl ws H ↔ ∀ q ∈ ws, va_at D vwCl q H := ⟨fun h q hq => by
    obtain ⟨k, hk⟩ := List.getElem?_of_mem hq
    exact h k q hk, fun h k q hk => h q (List.mem_of_getElem? hk)⟩
theorem zD_iff {A : Nat → Prop} {ws : va_W} : va_D A ws ↔ (ws.map Prod.fst).Nodup ∧ ∀ q ∈ ws, A q.1 := by
  constructor
  · intro h
    refine ⟨List.pairwise_iff_getElem.mpr (fun i j hi hj hij e => ?_), fun q hq => ?_⟩
    · have hi' : i < ws.length := by simpa using hi
      have hj' : j < ws.length := by simpa using hj
      rw [List.getElem_map, List.getElem_map] at e
      have := h.1 i j ws[i] ws[j] (List.getElem?_eq_getElem hi') (List.getElem?_eq_getElem hj') e
      omega
    · obtain ⟨k, hk⟩ := List.getElem?_of_mem hq
      exact h.2 k q hk
  · intro h
    refine ⟨fun i j p q hi hj e => ?_, fun k q hk => h.2 q (List.mem_of_getElem? hk)⟩
    have h1 : (ws.map Prod.fst)[i]? = some p.1 := by rw [List.getElem?_map, hi]; rfl
    have h2 : (ws.map Prod.fst)[j]? = some p.1 := by rw [List.getElem?_map, hj, e]; rfl
    obtain ⟨l1, g1⟩ := List.getElem?_eq_some_iff.mp h1
    obtain ⟨l2, g2⟩ := List.getElem?_eq_some_iff.mp h2
    have hpw := List.pairwise_iff_getElem.mp h.1
    rcases Nat.lt_trichotomy i j with q | q | q
    · exact absurd (g1.trans g2.symm) (hpw i j l1 l2 q)
    · exact q
    · exact absurd (g2.trans g1.symm) (hpw j i l2 l1 q)
theorem zP_perm {D : va_G} {ws ws' : va_W} {H : Heap} (hp : ws.Perm ws') (h : va_P D vwCl ws H) : va_P D vwCl ws' H := zP_iff.mpr (fun q hq => zP_iff.mp h q (hp.mem_iff.mpr hq))
theorem zD_perm {A : Nat → Prop} {ws ws' : va_W} (hp : ws.Perm ws') (h : va_D A ws) : va_D A ws' := by
  obtain ⟨h1, h2⟩ := zD_iff.mp h
  exact zD_iff.mpr ⟨(hp.map Prod.fst).nodup_iff.mp h1, fun q hq => h2 q (hp.mem_iff.mpr hq)⟩
theorem zD_sub {A : Nat → Prop} {ws ws' : va_W} (hp : ws'.Sublist ws) (h : va_D A ws) : va_D A ws' := by
  obtain ⟨h1, h2⟩ := zD_iff.mp h
  exact zD_iff.mpr ⟨h1.sublist (hp.map Prod.fst), fun q hq => h2 q (hp.subset hq)⟩
theorem zP_sub {D : va_G} {ws ws' : va_W} {H : Heap} (hp : ws'.Sublist ws) (h : va_P D vwCl ws H) : va_P D vwCl ws' H := zP_iff.mpr (fun q hq => zP_iff.mp h q (hp.subset hq))
theorem zins {n : Nat × va_E} {pre post : va_W} : ((pre ++ post) ++ [n]).Perm (pre ++ n :: post) := (List.perm_append_singleton n (pre ++ post)).trans List.perm_middle.symm
theorem zRA_name {U : State} {cA : ClassId} {ty : FieldType} (h : va_RA U cA ty) : U.vm.findClass ("[" ++ ty.toString) = some cA := by
  cases ty with
  | object C => obtain ⟨_, _, _, _, _, h4⟩ := h; exact h4
  | _ => exact h
theorem zRA_eq {U : State} {D : va_G} {T T' : List (ClassId × FieldType)} {cA c0 : ClassId} {ty : FieldType} {k k' : Nat} (h : va_K D vwCl T U) (h' : va_K D vwCl T' U) (hk : T[k]? = some (c0, ty)) (hk' : T'[k']? = some (cA, ty)) : cA = c0 := by
  have a := zRA_name (h.2 k _ hk).2
  have b := zRA_name (h'.2 k' _ hk').2
  exact Option.some.inj (b.symm.trans a)
theorem zlast {α : Type} {T : List α} {x : α} : (T ++ [x])[T.length]? = some x := by simp
/-- an array of references: only the places that are there count -/
theorem zrefs {D : va_G} {a n : Nat} {cA : ClassId} {f g : Nat → Option Nat} {H : Heap} (hfg : ∀ k, k < n → f k = g k) (h : va_at D vwCl (a, .inl (cA, n, .inr (.inr (.inr (.inr f))))) H) : va_at D vwCl (a, .inl (cA, n, .inr (.inr (.inr (.inr g))))) H := by
  show H[a]? = some (vp_cell _ _)
  have h : H[a]? = some (vp_cell _ _) := h
  rw [h, vp_cell_q, vp_cell_q]
  unfold arrV
  congr 2
  congr 1
  funext j
  show va_rf (f j.val) = va_rf (g j.val)
  rw [hfg j.val j.isLt]
theorem va_AOA.moved {t : FieldType} {u U : State} (hvm : u.vm.Alike U.vm) (h : va_AOA t u) : va_AOA t U := arrayOver_alikeB hvm h
def zNl : List (String × Nat × MethodName) := [(RX2, 11, yX0_init), (RX3, 11, yX5_init), (RX3, 20, yX2_init), (RX8, 11, yX5_init), (RX8, 20, yX3_init), (RX9, 9, yX5_init), (RX9, 29, yX7_init), (RX9, 32, yX3_init), (RX9, 39, yX8_init)]
theorem zNl_in : ∀ q ∈ zNl, Cond.methodLinkNest q.1 q.2.1 q.2.2 RX9 ∈ lw_tbl := fun q h => of_decide_eq_true (List.all_eq_true.mp (by decide +kernel : (zNl.all fun q => decide (Cond.methodLinkNest q.1 q.2.1 q.2.2 RX9 ∈ lw_tbl)) = true) q h)
/-- what the tables say for the constructors, beside the words of their list -/
def zAO (U : State) : Prop := va_AO RX7 U ∧ va_AOA .int U ∧ ∀ q ∈ zNl, va_Nw (.methodLinkNest q.1 q.2.1 q.2.2 RX9) U
theorem zAO.same {u U : State} (hv : u.vm = U.vm) (h : zAO u) : zAO U := by
  have hA : u.vm.Alike U.vm := by rw [hv]; exact Vm.Alike.refl _
  exact ⟨va_AO.moved hA h.1, va_AOA.moved hA h.2.1, fun q hq => va_Nw.same rfl hv (h.2.2 q hq)⟩
theorem zAO.warm {u U : State} (hW : u.WarmedH U.vm) (h : zAO u) : zAO U := ⟨va_AO.moved hW.alike h.1, va_AOA.moved hW.alike h.2.1, fun q hq => va_Nw.warmM hW (h.2.2 q hq)⟩
def zPreI (D : va_G) (T : List (ClassId × FieldType)) (w : va_W) (sz : Nat) (U : State) : Prop := U.heap.size = sz ∧ va_P D vwCl w U.heap ∧ va_K D vwCl T U ∧ va_D (fun _ => True) w ∧ zAO U
theorem zPreI.blind {D : va_G} {T : List (ClassId × FieldType)} {w : va_W} {sz : Nat} {as : List Value} : FrameBlind (va_Pc as (zPreI D T w sz)) := fun a U g mk q => by
  obtain ⟨q0, q1, qP, qK, qD, qO⟩ := q
  exact ⟨q0, q1, qP, va_K.moved (u := U) (U := U.calling g mk a) (Vm.Alike.refl U.vm) qK, qD, zAO.same (u := U) (U := U.calling g mk a) rfl qO⟩
/-- a constructor: from its bare object it makes the world w -/
def zMI (l : Launch) (D : va_G) (ca : Nat → ClassId) (y : MethodName) (ws : List Cond) (rm : Room) (ci : Nat) (fs : List Value) (w : (Nat → Nat → Nat) → va_W) (mc ms : Nat) : Prop := ∀ h0 sz : Nat,
  Met l y ws rm (va_Pc [.ref h0] (zPreI D (zT ca) [(h0, .inr (ci, fs))] sz)) (va_Qv (fun u : Nat → Nat → Nat => u 0 0 = h0) (fun u U => va_P D vwCl (w u) U.heap ∧ va_D (va_A [(h0, .inr (ci, fs))] sz) (w u)) (va_A [(h0, .inr (ci, fs))] sz)) mc ms (va_A [(h0, .inr (ci, fs))] sz)
abbrev zBegI (p : Program) (s : State) (m : MethodId) (c : Code) (A : Nat → Prop) (D : va_G) (ca : Nat → ClassId) (y : MethodName) (ws : List Cond) (args : Array Value) (cc : ByteArray) (maxL : Nat) (meth : Method) : Prop :=
  p.tables.exec = Jvm.exec ∧ c.code = cc ∧ c.maxLocals = maxL ∧ s.vm.findClass y.cls = some m.cls ∧ (∀ v ∈ ws, v.before args s = true) ∧ (∀ q, s.heap.size ≤ q → A q) ∧ va_K D vwCl (zT ca) s ∧ zAO s ∧ va_S A s.heap s.heap [] ∧ meth.name = "<init>"
theorem zMI_of {l : Launch} {D : va_G} {ca : Nat → ClassId} {y : MethodName} {ws ws' : List Cond} {rm : Room} {ci : Nat} {fs : List Value} {w : (Nat → Nat → Nat) → va_W} {mc ms : Nat} {cc : ByteArray} {maxL : Nat} (hy : plainName y.cls = true) (hw : ws = Cond.code y cc maxL none :: ws') (hn : 1 ≤ maxL) (hyn : y.name = "<init>")
    (body : ∀ (p : Program) (e : Env) (s : State) (m : MethodId) (args : Array Value) (below : List Frame) (meth : Method) (c : Code) (A : Nat → Prop) (Q : State → Prop) (ls : Array Slot) (h0 : Nat), zBegI p s m c A D ca y ws args cc maxL meth →
      (∀ (H : Heap) (locs : List Loc) (pc : Nat) (ls : Array Slot) (u : Nat → Nat → Nat), u 0 0 = h0 → va_P D vwCl (w u) H → va_D A (w u) → va_S A s.heap H locs → decode cc pc = .ok (.return_, 1) → W p l e rm s m args below meth c H locs mc ms Q (F0 m pc ls [])) →
      va_P D vwCl [(h0, .inr (ci, fs))] s.heap → va_D A [(h0, .inr (ci, fs))] → lv_has ls maxL [(0, .ref h0)] → W p l e rm s m args below meth c s.heap [] 0 0 Q (F0 m 0 ls [])) : zMI l D ca y ws rm ci fs w mc ms := by
  intro h0 sz
  refine Met.ofW (cc := cc) (maxL := maxL) (ret := none) hy hw ?_
  intro p e s m args below meth c s₁ B hml hv
  obtain ⟨rfl, hsz, hP, hK, hD0, hO⟩ := hv
  have hx := B.exec
  have hb := B.bytes
  have hr := B.returns
  have hts := atoms_spec (ws := ws) B.pre
  have hown : s.vm.findClass y.cls = some m.cls := findClass_of_methodNamed B.named
  have hlocks := B.notSynchronized
  have hin : meth.name = "<init>" := ((name_of_methodNamed B.named B.method).1).trans hyn
  subst hsz
  have hl := lv_entry [.ref h0] (n := maxL) hn
  rw [lg_entry_eq]
  refine body p e s m _ below meth c (va_A [(h0, .inr (ci, fs))] s.heap.size) _ _ h0 ⟨hx, hb, hml, hown, hts, fun q h => Or.inr h, hK, hO, va_S.rf, hin⟩ ?_ hP (hD0.self (sz := s.heap.size)) hl
  intro H locs pc ls u hu hP' hD' hS' hd
  exact W.vret hx hb hr (fun t ht hW => ⟨⟨u, rfl, hu, by rw [ht]; exact hP', hD'⟩, hS'.F ht⟩) hS'.2.2 hd
section
variable {p : Program} {l : Launch} {e : Env} {R : Room} {s : State} {m : MethodId} {args : Array Value} {below : List Frame} {meth : Method} {c : Code} {H : Heap} {locs : List Loc} {Q : State → Prop} {pc : Nat} {ls : Array Slot} {rest : List Value} {cc : ByteArray}
  {D : va_G} {ca : Nat → ClassId} {A : Nat → Prop} {kc ks : Nat} {Ts : List Cond} {own C : String} {index : Nat} {H0 : Heap}
theorem zn_new (pre post : va_W) {T : u_T} {N ci : Nat} (hexec : p.tables.exec = Jvm.exec) (hb : c.code = cc) (hts : ∀ w ∈ Ts, w.before args s = true) (hin : ∀ w ∈ u_ws C T N, w ∈ Ts) (ty : Nat → FieldType) (hty : ∀ k, k < N → parseFieldDescriptor (T k).2.2.1 = some (ty k)) (hown : s.vm.findClass own = some m.cls) (hcl : Cond.classLink own index C ∈ Ts) (hinst : Cond.instantiable C N ∈ Ts) (hini : Cond.initialized C ∈ Ts)
    (hK : va_K D vwCl (zT ca) s) (hP : va_P D vwCl (pre ++ post) H) (hD : va_D A (pre ++ post)) (hS : va_S A H0 H locs) (hA : ∀ q, H0.size ≤ q → A q) (hc : vwCl[ci]? = some (C, T, N)) {fs : List Value} (hfs : ∀ j, j < N → defaultValue (ty j) = vp_V fs j) (hcells : kc + 1 ≤ R.cells) (hslots : ks + N ≤ R.slots) (hdg : decode cc pc = .ok (.new index, 3))
    (kk : ∀ (q : Nat) (H1 : Heap), va_P D vwCl (pre ++ (q, .inr (ci, fs)) :: post) H1 → va_D A (pre ++ (q, .inr (ci, fs)) :: post) → va_S A H0 H1 locs →
      W p l e R s m args below meth c H1 locs (kc + 1) (ks + N) Q (F0 m (pc + 3) ls (.ref q :: rest))) : W p l e R s m args below meth c H locs kc ks Q (F0 m pc ls rest) :=
  va_new hexec hb hts hin ty hty hown (hts _ hcl) (hts _ hinst) (hts _ hini) hK hP hD hS hA hc hfs hcells hslots hdg (fun q H1 hP hD hS => kk q H1 (zP_perm zins hP) (zD_perm zins hD) hS)
theorem zn_newa (pre post : va_W) {atype : ArrayType} {ty : FieldType} {k : Nat} {c0 : ClassId} (hk : (zT ca)[k]? = some (c0, ty)) (hexec : p.tables.exec = Jvm.exec) (hb : c.code = cc) (hts : ∀ w ∈ Ts, w.before args s = true) (harr : Cond.arrayClass ty ∈ Ts) (hty : newarray.typeOf atype = ty) (hK : va_K D vwCl (zT ca) s) (hP : va_P D vwCl (pre ++ post) H) (hD : va_D A (pre ++ post)) (hS : va_S A H0 H locs) (hA : ∀ q, H0.size ≤ q → A q)
    {n : Int32} {N' : Nat} {a0 : vp_A} (ha : ∀ cA : ClassId, vp_cell cA a0 = arrV cA N' (fun _ => defaultValue ty)) (hn : ¬ n < 0) (hN : n.toNatClampNeg = N') (hbytes : N' * componentBytes ty ≤ 536870912) (hcells : kc + 1 ≤ R.cells) (hslots : ks + N' ≤ R.slots) (hdg : decode cc pc = .ok (.newarray atype, 2))
    (kk : ∀ (q : Nat) (H1 : Heap), va_P D vwCl (pre ++ (q, .inl (c0, a0)) :: post) H1 → va_D A (pre ++ (q, .inl (c0, a0)) :: post) → va_S A H0 H1 locs →
      W p l e R s m args below meth c H1 locs (kc + 1) (ks + N') Q (F0 m (pc + 2) ls (.ref q :: rest))) : W p l e R s m args below meth c H locs kc ks Q (F0 m pc ls (.int n :: rest)) :=
  va_newa hexec hb (by rw [hty]; exact hts _ harr) hty hK hP hD hS hA ha hn hN hbytes hcells hslots hdg (fun q cA H1 hK1 hP hD hS => by
    have e := zRA_eq hK hK1 hk zlast
    subst e
    exact kk q H1 (zP_perm zins hP) (zD_perm zins hD) hS)
theorem zn_newq (pre post : va_W) {k : Nat} {c0 : ClassId} (hk : (zT ca)[k]? = some (c0, .object C)) (hexec : p.tables.exec = Jvm.exec) (hb : c.code = cc) (hts : ∀ w ∈ Ts, w.before args s = true) (hown : s.vm.findClass own = some m.cls) (hcl : Cond.classLink own index C ∈ Ts) (hover : va_AO C s) (hK : va_K D vwCl (zT ca) s) (hP : va_P D vwCl (pre ++ post) H) (hD : va_D A (pre ++ post)) (hS : va_S A H0 H locs) (hA : ∀ q, H0.size ≤ q → A q)
    {n : Int32} {N' : Nat} (hn : ¬ n < 0) (hN : n.toNatClampNeg = N') (hbytes : N' * 4 ≤ 536870912) (hcells : kc + 1 ≤ R.cells) (hslots : ks + N' ≤ R.slots) (hdg : decode cc pc = .ok (.anewarray index, 3))
    (kk : ∀ (q : Nat) (H1 : Heap), va_P D vwCl (pre ++ (q, .inl (c0, N', .inr (.inr (.inr (.inr (fun _ => none)))))) :: post) H1 → va_D A (pre ++ (q, .inl (c0, N', .inr (.inr (.inr (.inr (fun _ => none)))))) :: post) → va_S A H0 H1 locs →
      W p l e R s m args below meth c H1 locs (kc + 1) (ks + N') Q (F0 m (pc + 3) ls (.ref q :: rest))) : W p l e R s m args below meth c H locs kc ks Q (F0 m pc ls (.int n :: rest)) :=
  va_newq hexec hb hown (hts _ hcl) hover hK hP hD hS hA hn hN hbytes hcells hslots hdg (fun q cA H1 hK1 hP hD hS => by
    have e := zRA_eq hK hK1 hk zlast
    subst e
    exact kk q H1 (zP_perm zins hP) (zD_perm zins hD) hS)
theorem zn_put {T : u_T} {N ci a : Nat} {ref : String} {R0 : va_W} {fs : List Value} (fin : Bool) (hexec : p.tables.exec = Jvm.exec) (hb : c.code = cc) (hts : ∀ w ∈ Ts, w.before args s = true) (hin : ∀ w ∈ u_ws C T N, w ∈ Ts) (ty0 : Nat → FieldType) (hty : ∀ k, k < N → parseFieldDescriptor (T k).2.2.1 = some (ty0 k)) (hnm : ∀ a, a < N → ∀ b, b < N → a ≠ b → (T a).2.1 ≠ (T b).2.1) (hown : s.vm.findClass own = some m.cls) (hK : va_K D vwCl (zT ca) s) (hP : va_P D vwCl ((a, .inr (ci, fs)) :: R0) H) (hD : va_D A ((a, .inr (ci, fs)) :: R0)) (hS : va_S A H0 H locs) (hc : vwCl[ci]? = some (C, T, N)) (k : Nat) (hk : k < N) (hlink : Cond.fieldLink own index ref (T k).2.1 (T k).2.2.1 ∈ Ts) (hsame : ∀ x, s.fieldFound? (T k).1 (T k).2.1 (T k).2.2.1 = some x → s.fieldFound? ref (T k).2.1 (T k).2.2.1 = some x) (hfin : (T k).2.2.2 = fin) (hin2 : meth.name = "<init>") (hdecl : (T k).1 = own) {v : Value} (hn : narrow (ty0 k) v = v) (hfit : fits (ty0 k) v = true) (hl : k < fs.length)
    (hdg : decode cc pc = .ok (.putfield index, 3)) (kk : ∀ (H1 : Heap) (locs1 : List Loc), va_P D vwCl ((a, .inr (ci, fs.set k v)) :: R0) H1 → va_D A ((a, .inr (ci, fs.set k v)) :: R0) → va_S A H0 H1 locs1 → W p l e R s m args below meth c H1 locs1 kc ks Q (F0 m (pc + 3) ls rest)) : W p l e R s m args below meth c H locs kc ks Q (F0 m pc ls (v :: .ref a :: rest)) := by
  cases fin with
  | true => exact va_putF (D := D) (ci := ci) (v := v) hexec hb hts hin ty0 hty hnm hown hK hP hD hS 0 rfl hc k hk (hts _ hlink) hsame hfin hin2 hdecl (hty k hk) hn hfit hl hdg (fun H1 locs1 hP hD hS => kk H1 locs1 hP hD hS)
  | false => exact va_put (D := D) (ci := ci) (v := v) hexec hb hts hin ty0 hty hnm hown hK hP hD hS 0 rfl hc k hk (hts _ hlink) hsame hfin (hty k hk) hn hfit hl hdg (fun H1 locs1 hP hD hS => kk H1 locs1 hP hD hS)
theorem zn_pre {ci q : Nat} {fs : List Value} (hO : zAO s) (hK : va_K D vwCl (zT ca) s) (hP : va_P D vwCl [(q, .inr (ci, fs))] H) (hD : va_D A [(q, .inr (ci, fs))]) : PreS s H (va_Pc [.ref q] (zPreI D (zT ca) [(q, .inr (ci, fs))] H.size)) [.ref q] :=
  ⟨zPreI.blind, fun U hU hW => ⟨rfl, by rw [hU], by rw [hU]; exact hP, va_K.moved hW.alike hK, hD.weaken (fun _ _ _ _ => trivial), zAO.warm hW hO⟩⟩
theorem zn_run (pre post : va_W) {ci mc ms q : Nat} {fs : List Value} {w : (Nat → Nat → Nat) → va_W} (hA : ∀ q, s.heap.size ≤ q → A q) (hP : va_P D vwCl (pre ++ (q, .inr (ci, fs)) :: post) H) (hD : va_D A (pre ++ (q, .inr (ci, fs)) :: post)) (hS : va_S A s.heap H locs)
    (run : va_P D vwCl [(q, .inr (ci, fs))] H → va_D A [(q, .inr (ci, fs))] → va_Run p l e R s m args below meth c H locs kc ks mc ms (F0 m pc ls (.ref q :: rest)) rest (va_Qv (fun u : Nat → Nat → Nat => u 0 0 = q) (fun u U => va_P D vwCl (w u) U.heap ∧ va_D (va_A [(q, .inr (ci, fs))] H.size) (w u)) (va_A [(q, .inr (ci, fs))] H.size) (Value.ref q :: []).toArray) (va_A [(q, .inr (ci, fs))] H.size))
    (kk : ∀ (u : Nat → Nat → Nat) (H1 : Heap) (locs1 : List Loc), u 0 0 = q → va_P D vwCl (pre ++ (w u ++ post)) H1 → va_D A (pre ++ (w u ++ post)) → va_S A s.heap H1 locs1 → W p l e R s m args below meth c H1 locs1 (kc + mc) (ks + ms) Q (F0 m (pc + 3) ls rest)) : W p l e R s m args below meth c H locs kc ks Q (F0 m pc ls (.ref q :: rest)) := by
  have hp1 : (pre ++ (q, .inr (ci, fs)) :: post).Perm ((pre ++ post) ++ [(q, .inr (ci, fs))]) := zins.symm
  have hP1 := zP_perm hp1 hP
  have hD1 := zD_perm hp1 hD
  have hPo : va_P D vwCl [(q, .inr (ci, fs))] H := zPsnd hP1
  have hPr : va_P D vwCl (pre ++ post) H := zPfst hP1
  have hDo : va_D A [(q, .inr (ci, fs))] := zD_sub (List.sublist_append_right _ _) hD1
  have hFc : ∀ x, va_A [(q, .inr (ci, fs))] H.size x → A x := va_free hDo hS hA (List.range _) (zfull _)
  refine va_callv (run hPo hDo) hS (fun q _ h => hFc q h) hFc (fun u t H1 locs1 ht hvm hu hB hz1 hk1 hS1 => ?_)
  obtain ⟨hw1, hw2⟩ := hB
  rw [ht] at hw1
  obtain ⟨hn1, ha1⟩ := zD_iff.mp hD1
  have hap : ∀ x ∈ pre ++ post, ¬ va_A [(q, .inr (ci, fs))] H.size x.1 := by
    intro x hx hA2
    rcases hA2 with ⟨k, e, h'⟩ | h'
    · have : (x.1, e) = (q, .inr (ci, fs)) := by
        have := List.mem_of_getElem? h'
        rcases List.mem_cons.mp this with r | r
        · exact r
        · cases r
      rw [List.map_append, List.nodup_append] at hn1
      exact hn1.2.2 x.1 (List.mem_map.mpr ⟨x, hx, rfl⟩) q (by simp) (congrArg Prod.fst this)
    · obtain ⟨k, hk'⟩ := List.getElem?_of_mem hx
      exact absurd (vx_lt hPr hk') (by omega)
  have hPr1 : va_P D vwCl (pre ++ post) H1 := va_P.kept hPr (fun k x hk' => hk1 x.1 (vx_lt hPr hk') (hap x (List.mem_of_getElem? hk')))
  have hp2 : ((pre ++ post) ++ w u).Perm (pre ++ (w u ++ post)) := by
    rw [List.append_assoc]
    exact List.Perm.append_left pre List.perm_append_comm
  refine kk u H1 locs1 hu (zP_perm hp2 (zPapp hPr1 hw1)) (zD_perm hp2 ?_) hS1
  obtain ⟨g1, g2⟩ := zD_iff.mp hw2
  refine zD_iff.mpr ⟨?_, ?_⟩
  · rw [List.map_append, List.nodup_append]
    rw [List.map_append, List.nodup_append] at hn1
    refine ⟨hn1.1, g1, fun a ha b hb' e => ?_⟩
    obtain ⟨x, hx, rfl⟩ := List.mem_map.mp ha
    obtain ⟨z, hz, rfl⟩ := List.mem_map.mp hb'
    exact hap x hx (e ▸ g2 z hz)
  · intro x hx
    rcases List.mem_append.mp hx with h | h
    · exact ha1 x (List.mem_append_left _ h)
    · exact hFc _ (g2 x h)
theorem zn_init (pre post : va_W) {y : MethodName} {wsy : List Cond} {rmy : Room} {ci mc ms nL maxL q : Nat} {fs : List Value} {w : (Nat → Nat → Nat) → va_W} {bytes : ByteArray} (hM : zMI l D ca y wsy rmy ci fs w mc ms) (S : CallFix p m c cc nL s args Ts own)
    (cw : CallB R s args own index y bytes maxL none wsy rmy mc ms 0 ∧ y.name = "<init>" ∧ (Cond.instanceMethod y).before args s = true) (hO : zAO s) (hA : ∀ q, s.heap.size ≤ q → A q) (hK : va_K D vwCl (zT ca) s) (hP : va_P D vwCl (pre ++ (q, .inr (ci, fs)) :: post) H) (hD : va_D A (pre ++ (q, .inr (ci, fs)) :: post)) (hS : va_S A s.heap H locs) (hls : ls.size = nL) (hW : (rest.map fun v => v.category).sum ≤ 8) (hdg : decode cc pc = .ok (.invokespecial index, 3)) (hk : kc + mc ≤ R.cells ∧ ks + ms ≤ R.slots)
    (kk : ∀ (u : Nat → Nat → Nat) (H1 : Heap) (locs1 : List Loc), u 0 0 = q → va_P D vwCl (pre ++ (w u ++ post)) H1 → va_D A (pre ++ (w u ++ post)) → va_S A s.heap H1 locs1 → W p l e R s m args below meth c H1 locs1 (kc + mc) (ks + ms) Q (F0 m (pc + 3) ls rest)) : W p l e R s m args below meth c H locs kc ks Q (F0 m pc ls (.ref q :: rest)) :=
  zn_run pre post hA hP hD hS (fun hPo hDo => va_runI (b := q) (As := []) (rest := rest) S (hM q H.size) cw (zn_pre hO hK hPo hDo) rfl rfl hls rfl (lv_room hW) hdg hk) kk
theorem zn_initN (pre post : va_W) {y : MethodName} {host : String} {wsy : List Cond} {rmy : Room} {ci mc ms nL maxL q : Nat} {fs : List Value} {w : (Nat → Nat → Nat) → va_W} {bytes : ByteArray} (hM : zMI l D ca y wsy rmy ci fs w mc ms) (S : CallFix p m c cc nL s args Ts own)
    (cw : va_CN R s args own index y host bytes maxL none wsy rmy mc ms 0 ∧ y.name = "<init>" ∧ (Cond.instanceMethod y).before args s = true) (hO : zAO s) (hA : ∀ q, s.heap.size ≤ q → A q) (hK : va_K D vwCl (zT ca) s) (hP : va_P D vwCl (pre ++ (q, .inr (ci, fs)) :: post) H) (hD : va_D A (pre ++ (q, .inr (ci, fs)) :: post)) (hS : va_S A s.heap H locs) (hls : ls.size = nL) (hW : (rest.map fun v => v.category).sum ≤ 8) (hdg : decode cc pc = .ok (.invokespecial index, 3)) (hk : kc + mc ≤ R.cells ∧ ks + ms ≤ R.slots)
    (kk : ∀ (u : Nat → Nat → Nat) (H1 : Heap) (locs1 : List Loc), u 0 0 = q → va_P D vwCl (pre ++ (w u ++ post)) H1 → va_D A (pre ++ (w u ++ post)) → va_S A s.heap H1 locs1 → W p l e R s m args below meth c H1 locs1 (kc + mc) (ks + ms) Q (F0 m (pc + 3) ls rest)) : W p l e R s m args below meth c H locs kc ks Q (F0 m pc ls (.ref q :: rest)) :=
  zn_run pre post hA hP hD hS (fun hPo hDo => va_runIN (b := q) (As := []) (rest := rest) S (hM q H.size) cw (zn_pre hO hK hPo hDo) rfl rfl hls rfl (lv_room hW) hdg hk) kk
end
