/-! Calls in one lemma each, and the words of the pure functions. -/
theorem zfm {is : List Nat} {ws wc : va_W} (hC : is.map (fun i => ws[i]?) = wc.map some) : is.filterMap (fun i => ws[i]?) = wc := by
  have h := congrArg (List.filterMap id) hC
  simpa [List.filterMap_map, Function.comp_def] using h
theorem zfr {ws : va_W} : ∀ {is : List Nat}, (is.all fun i => (ws[i]?).isSome) = true → is.map (fun i => ws[i]?) = (is.filterMap fun i => ws[i]?).map some
  | [], _ => rfl
  | i :: is, h => by
    simp only [List.all_cons, Bool.and_eq_true] at h
    obtain ⟨x, hx⟩ := Option.isSome_iff_exists.mp h.1
    simp only [List.map_cons, List.filterMap_cons, hx]
    exact congrArg _ (zfr h.2)
section
variable {p : Program} {l : Launch} {e : Env} {R : Room} {s : State} {m : MethodId} {args : Array Value} {below : List Frame} {meth : Method} {c : Code} {H : Heap} {locs : List Loc} {Q : State → Prop} {pc : Nat} {ls : Array Slot} {st rest As : List Value} {cc bytes : ByteArray} {nL maxL n index : Nat} {Ts wsy : List Cond} {own C host : String} {y : MethodName} {ret : Option FieldType} {rmy : Room}
  {D : va_G} {T : List (ClassId × FieldType)} {t : Nat → Nat} {A : Nat → Prop} {ws wc wc' ws' : va_W} {b : Nat} {r : Int32}
theorem zc_U {as : List Value} (hA : ∀ q, s.heap.size ≤ q → A q) (hK : va_K D vwCl T s) (hZ : zE t A s s.heap) (hP : va_P D vwCl ws H) (hD : va_D A ws) (hS : va_S A s.heap H locs) (isC : List Nat) (hnC : va_nd isC = true) (hC : isC.map (fun i => ws[i]?) = wc.map some)
    (U : State) (hU : U.heap = H) (hW : s.WarmedH U.vm) : va_Pc as (zPre D T t wc H.size) as.toArray U := by
  have hF := va_free hD hS hA isC hC
  refine ⟨rfl, by rw [hU], ?_, va_K.moved hW.alike hK, (va_D.sub hD isC hnC hC).weaken (fun _ _ _ _ => trivial), zN.warm hW hZ.1, ?_⟩
  · rw [hU]
    exact va_P.sub hP isC (zfm hC)
  · rw [hU]
    exact zS.moved hW.alike ((hZ.2.kept hS.2.1).narrow hF)
theorem zro {a : Array Value} {st0 : List Value} (hr : va_Run p l e R s m args below meth c H locs 0 0 0 0 (F0 m pc ls st0) rest (vp_Si (fun x => x = r) a) (fun _ => False))
    (kk : W p l e R s m args below meth c H locs 0 0 Q (F0 m (pc + 3) ls (.int r :: rest))) : W p l e R s m args below meth c H locs 0 0 Q (F0 m pc ls st0) := by
  intro T hT X
  obtain ⟨v, st₀, t, T', L, h0, X', hL, e1, e2, ⟨r', hv, hp, hh⟩, st⟩ := hr T hT X
  cases hv
  subst hp
  obtain ⟨t2, a1, b1⟩ := kk T' (by rw [e1, hh, h0]) (Stand.forget X' (fun q h => (hL q h).elim))
  exact ⟨t2, st t2 a1, b1⟩
/-- a call of a method that reads alone -/
theorem zcVR (hM : zRi l D T t y wsy rmy (.ref b :: As) wc r) (S : CallFix p m c cc nL s args Ts own) (cw : CallW R s args own C index y bytes maxL ret wsy rmy 0 0 n)
    (hA : ∀ q, s.heap.size ≤ q → A q) (hK : va_K D vwCl T s) (hZ : zE t A s s.heap) (hP : va_P D vwCl ws H) (hD : va_D A ws) (hS : va_S A s.heap H locs) (isC : List Nat) (hnC : va_nd isC = true) (hC : isC.map (fun i => ws[i]?) = wc.map some)
    (ci q0 : Nat) {N : Nat} {TT : u_T} {fs : List Value} (hc : vwCl[ci]? = some (C, TT, N)) (he : ws[q0]? = some (b, .inr (ci, fs))) (hn : As.length = n) (hls : ls.size = nL) (hW : (rest.map fun v => v.category).sum ≤ 8) (hdg : decode cc pc = .ok (.invokevirtual index, 3)) (hst : st = As.reverse ++ .ref b :: rest)
    (kk : W p l e R s m args below meth c H locs 0 0 Q (F0 m (pc + 3) ls (.int r :: rest))) : W p l e R s m args below meth c H locs 0 0 Q (F0 m pc ls st) := by
  subst hst
  exact zro (va_runV (b := b) (As := As) (rest := rest) S (hM H.size) cw ⟨zPre.blind, va_recv hK hP hc he, zc_U hA hK hZ hP hD hS isC hnC hC⟩ rfl hn hls rfl (lv_room hW) hdg ⟨Nat.zero_le _, Nat.zero_le _⟩) kk
theorem zcSR (hM : zRi l D T t y wsy rmy As wc r) (S : CallFix p m c cc nL s args Ts own) (cw : CallB R s args own index y bytes maxL ret wsy rmy 0 0 n ∧ (Cond.static y).before args s = true)
    (hA : ∀ q, s.heap.size ≤ q → A q) (hK : va_K D vwCl T s) (hZ : zE t A s s.heap) (hP : va_P D vwCl ws H) (hD : va_D A ws) (hS : va_S A s.heap H locs) (isC : List Nat) (hnC : va_nd isC = true) (hC : isC.map (fun i => ws[i]?) = wc.map some)
    (hn : As.length = n) (hls : ls.size = nL) (hW : (rest.map fun v => v.category).sum ≤ 8) (hdg : decode cc pc = .ok (.invokestatic index, 3)) (hst : st = As.reverse ++ rest)
    (kk : W p l e R s m args below meth c H locs 0 0 Q (F0 m (pc + 3) ls (.int r :: rest))) : W p l e R s m args below meth c H locs 0 0 Q (F0 m pc ls st) := by
  subst hst
  exact zro (va_runS (As := As) (rest := rest) S (hM H.size) cw ⟨zPre.blind, zc_U hA hK hZ hP hD hS isC hnC hC⟩ rfl hn hls rfl (lv_room hW) hdg ⟨Nat.zero_le _, Nat.zero_le _⟩) kk
theorem zcNR (hM : zRi l D T t y wsy rmy As wc r) (S : CallFix p m c cc nL s args Ts own) (cw : va_CN R s args own index y host bytes maxL ret wsy rmy 0 0 n ∧ (Cond.static y).before args s = true ∧ True)
    (hA : ∀ q, s.heap.size ≤ q → A q) (hK : va_K D vwCl T s) (hZ : zE t A s s.heap) (hP : va_P D vwCl ws H) (hD : va_D A ws) (hS : va_S A s.heap H locs) (isC : List Nat) (hnC : va_nd isC = true) (hC : isC.map (fun i => ws[i]?) = wc.map some)
    (hn : As.length = n) (hls : ls.size = nL) (hW : (rest.map fun v => v.category).sum ≤ 8) (hdg : decode cc pc = .ok (.invokestatic index, 3)) (hst : st = As.reverse ++ rest)
    (kk : W p l e R s m args below meth c H locs 0 0 Q (F0 m (pc + 3) ls (.int r :: rest))) : W p l e R s m args below meth c H locs 0 0 Q (F0 m pc ls st) := by
  subst hst
  exact zro (va_runSN (As := As) (rest := rest) S (hM H.size) cw ⟨zPre.blind, zc_U hA hK hZ hP hD hS isC hnC hC⟩ rfl hn hls rfl (lv_room hW) hdg ⟨Nat.zero_le _, Nat.zero_le _⟩) kk
/-- behind a call that wrote: the caller's cells in their order -/
theorem zc_B (hA : ∀ q, s.heap.size ≤ q → A q) (hP : va_P D vwCl ws H) (hD : va_D A ws) (hS : va_S A s.heap H locs) (isC isR perm : List Nat) (hC : isC.map (fun i => ws[i]?) = wc.map some) (hR : (isR.all fun i => (ws[i]?).isSome) = true) (hnR : va_nd isR = true) (hdis : (isR.all fun i => !(isC.contains i)) = true)
    (hp : perm.map (fun i => ((isR.filterMap fun i => ws[i]?) ++ wc')[i]?) = ws'.map some) (hnp : va_nd perm = true) {tt : State} {H1 : Heap} (ht : tt.heap = H1) (hB : zPost D T wc wc' H.size tt) (hk1 : ∀ q : Nat, q < H.size → ¬ va_A wc H.size q → H1[q]? = H[q]?) : va_P D vwCl ws' H1 ∧ va_D A ws' := by
  obtain ⟨hP1, hK1, hD1⟩ := hB
  rw [ht] at hP1
  have hdis' : ∀ i ∈ isR, i ∉ isC := fun i hi hj => by
    have h := List.all_eq_true.mp hdis i hi
    simp [hj] at h
  obtain ⟨hPj, hDj⟩ := va_join hP hD isC isR hC (zfr hR) hnR hdis' hk1 (va_free hD hS hA isC hC) hP1 hD1
  exact ⟨va_P.sub hPj perm (zfm hp), va_D.sub hDj perm hnp hp⟩
theorem zcVi (hM : zMi l D T t y wsy rmy (.ref b :: As) wc wc' r) (S : CallFix p m c cc nL s args Ts own) (cw : CallW R s args own C index y bytes maxL ret wsy rmy 0 0 n)
    (hA : ∀ q, s.heap.size ≤ q → A q) (hK : va_K D vwCl T s) (hZ : zE t A s s.heap) (hP : va_P D vwCl ws H) (hD : va_D A ws) (hS : va_S A s.heap H locs) (isC isR perm : List Nat) (hnC : va_nd isC = true) (hC : isC.map (fun i => ws[i]?) = wc.map some) (hR : (isR.all fun i => (ws[i]?).isSome) = true) (hnR : va_nd isR = true) (hdis : (isR.all fun i => !(isC.contains i)) = true)
    (hp : perm.map (fun i => ((isR.filterMap fun i => ws[i]?) ++ wc')[i]?) = ws'.map some) (hnp : va_nd perm = true)
    (ci q0 : Nat) {N : Nat} {TT : u_T} {fs : List Value} (hc : vwCl[ci]? = some (C, TT, N)) (he : ws[q0]? = some (b, .inr (ci, fs))) (hn : As.length = n) (hls : ls.size = nL) (hW : (rest.map fun v => v.category).sum ≤ 8) (hdg : decode cc pc = .ok (.invokevirtual index, 3)) (hst : st = As.reverse ++ .ref b :: rest)
    (kk : ∀ (H1 : Heap) (locs1 : List Loc), va_P D vwCl ws' H1 → va_D A ws' → va_S A s.heap H1 locs1 → W p l e R s m args below meth c H1 locs1 0 0 Q (F0 m (pc + 3) ls (.int r :: rest))) : W p l e R s m args below meth c H locs 0 0 Q (F0 m pc ls st) := by
  subst hst
  have hFc := va_free hD hS hA isC hC
  refine va_calli (va_runV (b := b) (As := As) (rest := rest) S (hM H.size) cw ⟨zPre.blind, va_recv hK hP hc he, zc_U hA hK hZ hP hD hS isC hnC hC⟩ rfl hn hls rfl (lv_room hW) hdg ⟨Nat.zero_le _, Nat.zero_le _⟩) hS (fun q _ h => hFc q h) hFc (fun r_ u tt H1 locs1 ht hvm hw hB hz1 hk1 hS1 => ?_)
  subst hw
  obtain ⟨h1, h2⟩ := zc_B (ws' := ws') hA hP hD hS isC isR perm hC hR hnR hdis hp hnp ht hB hk1
  exact kk H1 locs1 h1 h2 hS1
theorem zcVl {r : Int64} (hM : zMl l D T t y wsy rmy (.ref b :: As) wc wc' r) (S : CallFix p m c cc nL s args Ts own) (cw : CallW R s args own C index y bytes maxL ret wsy rmy 0 0 n)
    (hA : ∀ q, s.heap.size ≤ q → A q) (hK : va_K D vwCl T s) (hZ : zE t A s s.heap) (hP : va_P D vwCl ws H) (hD : va_D A ws) (hS : va_S A s.heap H locs) (isC isR perm : List Nat) (hnC : va_nd isC = true) (hC : isC.map (fun i => ws[i]?) = wc.map some) (hR : (isR.all fun i => (ws[i]?).isSome) = true) (hnR : va_nd isR = true) (hdis : (isR.all fun i => !(isC.contains i)) = true)
    (hp : perm.map (fun i => ((isR.filterMap fun i => ws[i]?) ++ wc')[i]?) = ws'.map some) (hnp : va_nd perm = true)
    (ci q0 : Nat) {N : Nat} {TT : u_T} {fs : List Value} (hc : vwCl[ci]? = some (C, TT, N)) (he : ws[q0]? = some (b, .inr (ci, fs))) (hn : As.length = n) (hls : ls.size = nL) (hW : (rest.map fun v => v.category).sum ≤ 8) (hdg : decode cc pc = .ok (.invokevirtual index, 3)) (hst : st = As.reverse ++ .ref b :: rest)
    (kk : ∀ (H1 : Heap) (locs1 : List Loc), va_P D vwCl ws' H1 → va_D A ws' → va_S A s.heap H1 locs1 → W p l e R s m args below meth c H1 locs1 0 0 Q (F0 m (pc + 3) ls (.long r :: rest))) : W p l e R s m args below meth c H locs 0 0 Q (F0 m pc ls st) := by
  subst hst
  have hFc := va_free hD hS hA isC hC
  refine va_calll (va_runV (b := b) (As := As) (rest := rest) S (hM H.size) cw ⟨zPre.blind, va_recv hK hP hc he, zc_U hA hK hZ hP hD hS isC hnC hC⟩ rfl hn hls rfl (lv_room hW) hdg ⟨Nat.zero_le _, Nat.zero_le _⟩) hS (fun q _ h => hFc q h) hFc (fun r_ u tt H1 locs1 ht hvm hw hB hz1 hk1 hS1 => ?_)
  subst hw
  obtain ⟨h1, h2⟩ := zc_B (ws' := ws') hA hP hD hS isC isR perm hC hR hnR hdis hp hnp ht hB hk1
  exact kk H1 locs1 h1 h2 hS1
theorem zcVv (hM : zMv l D T t y wsy rmy (.ref b :: As) wc wc') (S : CallFix p m c cc nL s args Ts own) (cw : CallW R s args own C index y bytes maxL ret wsy rmy 0 0 n)
    (hA : ∀ q, s.heap.size ≤ q → A q) (hK : va_K D vwCl T s) (hZ : zE t A s s.heap) (hP : va_P D vwCl ws H) (hD : va_D A ws) (hS : va_S A s.heap H locs) (isC isR perm : List Nat) (hnC : va_nd isC = true) (hC : isC.map (fun i => ws[i]?) = wc.map some) (hR : (isR.all fun i => (ws[i]?).isSome) = true) (hnR : va_nd isR = true) (hdis : (isR.all fun i => !(isC.contains i)) = true)
    (hp : perm.map (fun i => ((isR.filterMap fun i => ws[i]?) ++ wc')[i]?) = ws'.map some) (hnp : va_nd perm = true)
    (ci q0 : Nat) {N : Nat} {TT : u_T} {fs : List Value} (hc : vwCl[ci]? = some (C, TT, N)) (he : ws[q0]? = some (b, .inr (ci, fs))) (hn : As.length = n) (hls : ls.size = nL) (hW : (rest.map fun v => v.category).sum ≤ 8) (hdg : decode cc pc = .ok (.invokevirtual index, 3)) (hst : st = As.reverse ++ .ref b :: rest)
    (kk : ∀ (H1 : Heap) (locs1 : List Loc), va_P D vwCl ws' H1 → va_D A ws' → va_S A s.heap H1 locs1 → W p l e R s m args below meth c H1 locs1 0 0 Q (F0 m (pc + 3) ls rest)) : W p l e R s m args below meth c H locs 0 0 Q (F0 m pc ls st) := by
  subst hst
  have hFc := va_free hD hS hA isC hC
  refine va_callv (va_runV (b := b) (As := As) (rest := rest) S (hM H.size) cw ⟨zPre.blind, va_recv hK hP hc he, zc_U hA hK hZ hP hD hS isC hnC hC⟩ rfl hn hls rfl (lv_room hW) hdg ⟨Nat.zero_le _, Nat.zero_le _⟩) hS (fun q _ h => hFc q h) hFc (fun u tt H1 locs1 ht hvm hw hB hz1 hk1 hS1 => ?_)
  obtain ⟨h1, h2⟩ := zc_B (ws' := ws') hA hP hD hS isC isR perm hC hR hnR hdis hp hnp ht hB hk1
  exact kk H1 locs1 h1 h2 hS1
theorem zcVr {ba : Nat} (hM : zMr l D T t y wsy rmy (.ref b :: As) wc wc' ba) (S : CallFix p m c cc nL s args Ts own) (cw : CallW R s args own C index y bytes maxL ret wsy rmy 0 0 n)
    (hA : ∀ q, s.heap.size ≤ q → A q) (hK : va_K D vwCl T s) (hZ : zE t A s s.heap) (hP : va_P D vwCl ws H) (hD : va_D A ws) (hS : va_S A s.heap H locs) (isC isR perm : List Nat) (hnC : va_nd isC = true) (hC : isC.map (fun i => ws[i]?) = wc.map some) (hR : (isR.all fun i => (ws[i]?).isSome) = true) (hnR : va_nd isR = true) (hdis : (isR.all fun i => !(isC.contains i)) = true)
    (hp : perm.map (fun i => ((isR.filterMap fun i => ws[i]?) ++ wc')[i]?) = ws'.map some) (hnp : va_nd perm = true)
    (ci q0 : Nat) {N : Nat} {TT : u_T} {fs : List Value} (hc : vwCl[ci]? = some (C, TT, N)) (he : ws[q0]? = some (b, .inr (ci, fs))) (hn : As.length = n) (hls : ls.size = nL) (hW : (rest.map fun v => v.category).sum ≤ 8) (hdg : decode cc pc = .ok (.invokevirtual index, 3)) (hst : st = As.reverse ++ .ref b :: rest)
    (kk : ∀ (H1 : Heap) (locs1 : List Loc), va_P D vwCl ws' H1 → va_D A ws' → va_S A s.heap H1 locs1 → W p l e R s m args below meth c H1 locs1 0 0 Q (F0 m (pc + 3) ls (.ref ba :: rest))) : W p l e R s m args below meth c H locs 0 0 Q (F0 m pc ls st) := by
  subst hst
  have hFc := va_free hD hS hA isC hC
  refine va_callr (va_runV (b := b) (As := As) (rest := rest) S (hM H.size) cw ⟨zPre.blind, va_recv hK hP hc he, zc_U hA hK hZ hP hD hS isC hnC hC⟩ rfl hn hls rfl (lv_room hW) hdg ⟨Nat.zero_le _, Nat.zero_le _⟩) hS (fun q _ h => hFc q h) hFc (fun u ra tt H1 locs1 ht hvm hw hB hz1 hk1 hS1 => ?_)
  obtain ⟨hra, hB⟩ := hB
  subst hra
  obtain ⟨h1, h2⟩ := zc_B (ws' := ws') hA hP hD hS isC isR perm hC hR hnR hdis hp hnp ht hB hk1
  exact kk H1 locs1 h1 h2 hS1
theorem zcSi (hM : zMi l D T t y wsy rmy As wc wc' r) (S : CallFix p m c cc nL s args Ts own) (cw : CallB R s args own index y bytes maxL ret wsy rmy 0 0 n ∧ (Cond.static y).before args s = true)
    (hA : ∀ q, s.heap.size ≤ q → A q) (hK : va_K D vwCl T s) (hZ : zE t A s s.heap) (hP : va_P D vwCl ws H) (hD : va_D A ws) (hS : va_S A s.heap H locs) (isC isR perm : List Nat) (hnC : va_nd isC = true) (hC : isC.map (fun i => ws[i]?) = wc.map some) (hR : (isR.all fun i => (ws[i]?).isSome) = true) (hnR : va_nd isR = true) (hdis : (isR.all fun i => !(isC.contains i)) = true)
    (hp : perm.map (fun i => ((isR.filterMap fun i => ws[i]?) ++ wc')[i]?) = ws'.map some) (hnp : va_nd perm = true)
    (hn : As.length = n) (hls : ls.size = nL) (hW : (rest.map fun v => v.category).sum ≤ 8) (hdg : decode cc pc = .ok (.invokestatic index, 3)) (hst : st = As.reverse ++ rest)
    (kk : ∀ (H1 : Heap) (locs1 : List Loc), va_P D vwCl ws' H1 → va_D A ws' → va_S A s.heap H1 locs1 → W p l e R s m args below meth c H1 locs1 0 0 Q (F0 m (pc + 3) ls (.int r :: rest))) : W p l e R s m args below meth c H locs 0 0 Q (F0 m pc ls st) := by
  subst hst
  have hFc := va_free hD hS hA isC hC
  refine va_calli (va_runS (As := As) (rest := rest) S (hM H.size) cw ⟨zPre.blind, zc_U hA hK hZ hP hD hS isC hnC hC⟩ rfl hn hls rfl (lv_room hW) hdg ⟨Nat.zero_le _, Nat.zero_le _⟩) hS (fun q _ h => hFc q h) hFc (fun r_ u tt H1 locs1 ht hvm hw hB hz1 hk1 hS1 => ?_)
  subst hw
  obtain ⟨h1, h2⟩ := zc_B (ws' := ws') hA hP hD hS isC isR perm hC hR hnR hdis hp hnp ht hB hk1
  exact kk H1 locs1 h1 h2 hS1
theorem zcSv (hM : zMv l D T t y wsy rmy As wc wc') (S : CallFix p m c cc nL s args Ts own) (cw : CallB R s args own index y bytes maxL ret wsy rmy 0 0 n ∧ (Cond.static y).before args s = true)
    (hA : ∀ q, s.heap.size ≤ q → A q) (hK : va_K D vwCl T s) (hZ : zE t A s s.heap) (hP : va_P D vwCl ws H) (hD : va_D A ws) (hS : va_S A s.heap H locs) (isC isR perm : List Nat) (hnC : va_nd isC = true) (hC : isC.map (fun i => ws[i]?) = wc.map some) (hR : (isR.all fun i => (ws[i]?).isSome) = true) (hnR : va_nd isR = true) (hdis : (isR.all fun i => !(isC.contains i)) = true)
    (hp : perm.map (fun i => ((isR.filterMap fun i => ws[i]?) ++ wc')[i]?) = ws'.map some) (hnp : va_nd perm = true)
    (hn : As.length = n) (hls : ls.size = nL) (hW : (rest.map fun v => v.category).sum ≤ 8) (hdg : decode cc pc = .ok (.invokestatic index, 3)) (hst : st = As.reverse ++ rest)
    (kk : ∀ (H1 : Heap) (locs1 : List Loc), va_P D vwCl ws' H1 → va_D A ws' → va_S A s.heap H1 locs1 → W p l e R s m args below meth c H1 locs1 0 0 Q (F0 m (pc + 3) ls rest)) : W p l e R s m args below meth c H locs 0 0 Q (F0 m pc ls st) := by
  subst hst
  have hFc := va_free hD hS hA isC hC
  refine va_callv (va_runS (As := As) (rest := rest) S (hM H.size) cw ⟨zPre.blind, zc_U hA hK hZ hP hD hS isC hnC hC⟩ rfl hn hls rfl (lv_room hW) hdg ⟨Nat.zero_le _, Nat.zero_le _⟩) hS (fun q _ h => hFc q h) hFc (fun u tt H1 locs1 ht hvm hw hB hz1 hk1 hS1 => ?_)
  obtain ⟨h1, h2⟩ := zc_B (ws' := ws') hA hP hD hS isC isR perm hC hR hnR hdis hp hnp ht hB hk1
  exact kk H1 locs1 h1 h2 hS1
/-- a number gets a name, in the walk and in the pure function -/
def zlet {α β : Type} (v : α) (k : α → Option β) : Option β := k v
theorem z_let {β : Type} {x : Int32} {k : Int32 → Option β} {o : β} (hF : zlet x k = some o) (kk : ∀ v : Int32, k v = some o → W p l e R s m args below meth c H locs 0 0 Q (F0 m pc ls (.int v :: rest))) : W p l e R s m args below meth c H locs 0 0 Q (F0 m pc ls (.int x :: rest)) := kk x hF
end
/-- a place within a row of n -/
def zin (i : Int32) (n : Nat) : Bool := decide (0 ≤ i.toInt ∧ i.toInt < n)
theorem zin_ok {i : Int32} {n : Nat} (h : zin i n = true) : vp_in i n := vp_in_iff.mpr (of_decide_eq_true h)
def zg {β : Type} (b : Bool) (k : Option β) : Option β := if b = true then k else none
theorem zg_ok {β : Type} {b : Bool} {k : Option β} {o : β} (h : zg b k = some o) : b = true ∧ k = some o := by
  unfold zg at h
  split at h
  · exact ⟨by assumption, h⟩
  · cases h
theorem zgi {β : Type} {i : Int32} {n : Nat} {k : Option β} {o : β} (h : zg (zin i n) k = some o) : vp_in i n ∧ k = some o := ⟨zin_ok (zg_ok h).1, (zg_ok h).2⟩
theorem zgd {β : Type} {y : Int32} {k : Option β} {o : β} (h : zg (decide (¬ y = 0)) k = some o) : ¬ y = 0 ∧ k = some o := ⟨of_decide_eq_true (zg_ok h).1, (zg_ok h).2⟩
theorem zgp {β : Type} {P : Prop} [Decidable P] {k : Option β} {o : β} (h : zg (decide P) k = some o) : P ∧ k = some o := ⟨of_decide_eq_true (zg_ok h).1, (zg_ok h).2⟩
theorem zb {α β : Type} {x : Option α} {k : α → Option β} {o : β} (h : x.bind k = some o) : ∃ u, x = some u ∧ k u = some o := by
  cases x with
  | none => cases h
  | some u => exact ⟨u, rfl, h⟩
theorem zt {β : Type} {P : Prop} [Decidable P] {a b : Option β} {o : β} (c : P) (h : (if P then a else b) = some o) : a = some o := by rw [if_pos c] at h; exact h
theorem zf {β : Type} {P : Prop} [Decidable P] {a b : Option β} {o : β} (c : ¬ P) (h : (if P then a else b) = some o) : b = some o := by rw [if_neg c] at h; exact h
