/-! The law: calls from a walk that has made cells already. -/
section
variable {p : Program} {l : Launch} {e : Env} {R : Room} {s : State} {m : MethodId} {args : Array Value} {below : List Frame} {meth : Method} {c : Code} {H : Heap} {locs : List Loc} {Q : State → Prop} {pc : Nat} {ls : Array Slot} {st rest As : List Value} {cc bytes : ByteArray} {nL maxL n index : Nat} {Ts wsy : List Cond} {own C host : String} {y : MethodName} {ret : Option FieldType} {rmy : Room}
  {D : va_G} {T : List (ClassId × FieldType)} {t : Nat → Nat} {A : Nat → Prop} {ws wc wc' ws' : va_W} {b : Nat} {r : Int32} {kc ks : Nat}
theorem zfull : ∀ (w : va_W), (List.range w.length).map (fun i => w[i]?) = w.map some := fun w => by
  apply List.ext_getElem?
  intro i
  rw [List.getElem?_map, List.getElem?_map]
  by_cases h : i < w.length
  · rw [List.getElem?_range h, List.getElem?_eq_getElem h]
    show some (w[i]?) = some (some w[i])
    rw [List.getElem?_eq_getElem h]
  · rw [List.getElem?_eq_none (by simpa using h), List.getElem?_eq_none (by omega)]; rfl
theorem zcU {as : List Value} (hA : ∀ q, s.heap.size ≤ q → A q) (hK : va_K D vwCl T s) (hZ : zE t A s s.heap) (hP : va_P D vwCl wc H) (hD : va_D A wc) (hS : va_S A s.heap H locs)
    (U : State) (hU : U.heap = H) (hW : s.WarmedH U.vm) : va_Pc as (zPre D T t wc H.size) as.toArray U := by
  have hF := va_free hD hS hA (List.range wc.length) (zfull wc)
  refine ⟨rfl, by rw [hU], by rw [hU]; exact hP, va_K.moved hW.alike hK, hD.weaken (fun _ _ _ _ => trivial), zN.warm hW hZ.1, ?_⟩
  rw [hU]
  exact zS.moved hW.alike ((hZ.2.kept hS.2.1).narrow hF)
theorem zcVRK (hM : zRi l D T t y wsy rmy (.ref b :: As) wc r) (S : CallFix p m c cc nL s args Ts own) (cw : CallW R s args own C index y bytes maxL ret wsy rmy 0 0 n)
    (hA : ∀ q, s.heap.size ≤ q → A q) (hK : va_K D vwCl T s) (hZ : zE t A s s.heap) (hP : va_P D vwCl wc H) (hD : va_D A wc) (hS : va_S A s.heap H locs)
    (ci q0 : Nat) {N : Nat} {TT : u_T} {fs : List Value} (hc : vwCl[ci]? = some (C, TT, N)) (he : wc[q0]? = some (b, .inr (ci, fs))) (hn : As.length = n) (hls : ls.size = nL) (hW : (rest.map fun v => v.category).sum ≤ 8) (hdg : decode cc pc = .ok (.invokevirtual index, 3)) (hst : st = As.reverse ++ .ref b :: rest) (hk : kc ≤ R.cells ∧ ks ≤ R.slots)
    (kk : W p l e R s m args below meth c H locs kc ks Q (F0 m (pc + 3) ls (.int r :: rest))) : W p l e R s m args below meth c H locs kc ks Q (F0 m pc ls st) := by
  subst hst
  intro T hT X
  obtain ⟨v, st₀, t, T', L, h0, X', hL, e1, e2, ⟨r', hv, hp, hh⟩, st⟩ := va_runV (b := b) (As := As) (rest := rest) S (hM H.size) cw ⟨zPre.blind, va_recv hK hP hc he, zcU hA hK hZ hP hD hS⟩ (g := F0 m pc ls (As.reverse ++ .ref b :: rest)) rfl hn hls rfl (lv_room hW) hdg hk T hT X
  cases hv
  subst hp
  obtain ⟨t2, a1, b1⟩ := kk T' (by rw [e1, hh, h0]) (Stand.forget X' (fun q h => (hL q h).elim))
  exact ⟨t2, st t2 a1, b1⟩
theorem zcViK {r : Int32} (hM : zMi l D T t y wsy rmy (.ref b :: As) wc wc' r) (S : CallFix p m c cc nL s args Ts own) (cw : CallW R s args own C index y bytes maxL ret wsy rmy 0 0 n)
    (hA : ∀ q, s.heap.size ≤ q → A q) (hK : va_K D vwCl T s) (hZ : zE t A s s.heap) (hP : va_P D vwCl wc H) (hD : va_D A wc) (hS : va_S A s.heap H locs)
    (ci q0 : Nat) {N : Nat} {TT : u_T} {fs : List Value} (hc : vwCl[ci]? = some (C, TT, N)) (he : wc[q0]? = some (b, .inr (ci, fs))) (hn : As.length = n) (hls : ls.size = nL) (hW : (rest.map fun v => v.category).sum ≤ 8) (hdg : decode cc pc = .ok (.invokevirtual index, 3)) (hst : st = As.reverse ++ .ref b :: rest) (hk : kc ≤ R.cells ∧ ks ≤ R.slots)
    (kk : ∀ (H1 : Heap) (locs1 : List Loc), va_P D vwCl wc' H1 → (∀ q : Nat, q < H.size → ¬ va_A wc H.size q → H1[q]? = H[q]?) → va_S A s.heap H1 locs1 → W p l e R s m args below meth c H1 locs1 kc ks Q (F0 m (pc + 3) ls (.int r :: rest))) : W p l e R s m args below meth c H locs kc ks Q (F0 m pc ls st) := by
  subst hst
  have hFc := va_free hD hS hA (List.range wc.length) (zfull wc)
  refine va_calli (va_runV (b := b) (As := As) (rest := rest) S (hM H.size) cw ⟨zPre.blind, va_recv hK hP hc he, zcU hA hK hZ hP hD hS⟩ rfl hn hls rfl (lv_room hW) hdg hk) hS (fun q _ h => hFc q h) hFc (fun r_ u tt H1 locs1 ht hvm hw hB hz1 hk1 hS1 => ?_)
  subst hw
  have hP1 := hB.1
  rw [ht] at hP1
  exact kk H1 locs1 hP1 hk1 hS1
theorem zcVlK {r : Int64} (hM : zMl l D T t y wsy rmy (.ref b :: As) wc wc' r) (S : CallFix p m c cc nL s args Ts own) (cw : CallW R s args own C index y bytes maxL ret wsy rmy 0 0 n)
    (hA : ∀ q, s.heap.size ≤ q → A q) (hK : va_K D vwCl T s) (hZ : zE t A s s.heap) (hP : va_P D vwCl wc H) (hD : va_D A wc) (hS : va_S A s.heap H locs)
    (ci q0 : Nat) {N : Nat} {TT : u_T} {fs : List Value} (hc : vwCl[ci]? = some (C, TT, N)) (he : wc[q0]? = some (b, .inr (ci, fs))) (hn : As.length = n) (hls : ls.size = nL) (hW : (rest.map fun v => v.category).sum ≤ 8) (hdg : decode cc pc = .ok (.invokevirtual index, 3)) (hst : st = As.reverse ++ .ref b :: rest) (hk : kc ≤ R.cells ∧ ks ≤ R.slots)
    (kk : ∀ (H1 : Heap) (locs1 : List Loc), va_P D vwCl wc' H1 → (∀ q : Nat, q < H.size → ¬ va_A wc H.size q → H1[q]? = H[q]?) → va_S A s.heap H1 locs1 → W p l e R s m args below meth c H1 locs1 kc ks Q (F0 m (pc + 3) ls (.long r :: rest))) : W p l e R s m args below meth c H locs kc ks Q (F0 m pc ls st) := by
  subst hst
  have hFc := va_free hD hS hA (List.range wc.length) (zfull wc)
  refine va_calll (va_runV (b := b) (As := As) (rest := rest) S (hM H.size) cw ⟨zPre.blind, va_recv hK hP hc he, zcU hA hK hZ hP hD hS⟩ rfl hn hls rfl (lv_room hW) hdg hk) hS (fun q _ h => hFc q h) hFc (fun r_ u tt H1 locs1 ht hvm hw hB hz1 hk1 hS1 => ?_)
  subst hw
  have hP1 := hB.1
  rw [ht] at hP1
  exact kk H1 locs1 hP1 hk1 hS1
/-- worlds of several units -/
theorem zPapp {a b : va_W} (h1 : va_P D vwCl a H) (h2 : va_P D vwCl b H) : va_P D vwCl (a ++ b) H := fun k q hk => by
  rw [List.getElem?_append] at hk
  split at hk
  · exact h1 k q hk
  · exact h2 _ q hk
theorem zPfst {a b : va_W} (h : va_P D vwCl (a ++ b) H) : va_P D vwCl a H := fun k q hk => h k q (by rw [List.getElem?_append_left (List.getElem?_eq_some_iff.mp hk).1]; exact hk)
theorem zPsnd {a b : va_W} (h : va_P D vwCl (a ++ b) H) : va_P D vwCl b H := fun k q hk => h (a.length + k) q (by rw [List.getElem?_append_right (by omega), show a.length + k - a.length = k by omega]; exact hk)
/-- the addresses of the units: apart -/
def zSt (U : Nat → List Nat) (A : Nat → Prop) : Prop := (∀ i j a, a ∈ U i → a ∈ U j → i = j) ∧ (∀ j, (U j).Nodup) ∧ ∀ j a, a ∈ U j → A a
theorem zkeepU {U : Nat → List Nat} {v : va_W} {H1 : Heap} (hU : zSt U A) (i : Nat) {js : List Nat} (hw : wc.map Prod.fst = (js.map U).flatten) (hv : v.map Prod.fst = U i) (hi : i ∉ js) (hk1 : ∀ q : Nat, q < H.size → ¬ va_A wc H.size q → H1[q]? = H[q]?) (h : va_P D vwCl v H) : va_P D vwCl v H1 :=
  va_P.kept h (fun k q hk => hk1 q.1 (vx_lt h hk) (fun hA => by
    rcases hA with ⟨k', e, h'⟩ | h'
    · have m1 : q.1 ∈ U i := by rw [← hv]; exact List.mem_map.mpr ⟨q, List.mem_of_getElem? hk, rfl⟩
      have m2 : q.1 ∈ (js.map U).flatten := by rw [← hw]; exact List.mem_map.mpr ⟨(q.1, e), List.mem_of_getElem? h', rfl⟩
      obtain ⟨x, x1, x2⟩ := List.mem_flatten.mp m2
      obtain ⟨j, j1, rfl⟩ := List.mem_map.mp x1
      have := hU.1 i j q.1 m1 x2
      subst this
      exact hi j1
    · exact absurd (vx_lt h hk) (by omega)))
theorem zDflat {U : Nat → List Nat} (hU : zSt U A) : ∀ (js : List Nat), js.Nodup → ((js.map U).flatten).Nodup
  | [], _ => by simp
  | j :: js, h => by
    rw [List.nodup_cons] at h
    rw [List.map_cons, List.flatten_cons, List.nodup_append]
    refine ⟨hU.2.1 j, zDflat hU js h.2, fun a ha b hb e => ?_⟩
    obtain ⟨x, x1, x2⟩ := List.mem_flatten.mp hb
    obtain ⟨i, i1, rfl⟩ := List.mem_map.mp x1
    have := hU.1 j i a ha (e ▸ x2)
    exact h.1 (this ▸ i1)
theorem zDw {U : Nat → List Nat} (hU : zSt U A) {js : List Nat} (hw : wc.map Prod.fst = (js.map U).flatten) (hj : js.Nodup) : va_D A wc := by
  have hnd := zDflat hU js hj
  rw [← hw] at hnd
  refine ⟨fun i j p q hi hj' e => ?_, fun k q hk => ?_⟩
  · have h1 : (wc.map Prod.fst)[i]? = some p.1 := by rw [List.getElem?_map, hi]; rfl
    have h2 : (wc.map Prod.fst)[j]? = some p.1 := by rw [List.getElem?_map, hj', e]; rfl
    obtain ⟨l1, g1⟩ := List.getElem?_eq_some_iff.mp h1
    obtain ⟨l2, g2⟩ := List.getElem?_eq_some_iff.mp h2
    have hpw := List.pairwise_iff_getElem.mp hnd
    rcases Nat.lt_trichotomy i j with h | h | h
    · exact absurd (g1.trans g2.symm) (hpw i j l1 l2 h)
    · exact h
    · exact absurd (g2.trans g1.symm) (hpw j i l2 l1 h)
  · have m2 : q.1 ∈ (js.map U).flatten := by rw [← hw]; exact List.mem_map.mpr ⟨q, List.mem_of_getElem? hk, rfl⟩
    obtain ⟨x, x1, x2⟩ := List.mem_flatten.mp m2
    obtain ⟨j, j1, rfl⟩ := List.mem_map.mp x1
    exact hU.2.2 j q.1 x2
end
section
variable {R : Room} {s : State} {args : Array Value} {own C : String} {idx n mL : Nat} {y : MethodName} {c : ByteArray} {r : Option FieldType} {rm : Room}
theorem zcwVL (hts : ∀ w ∈ lw_tbl, w.before args s = true) (h1 : Cond.methodLink own idx y ∈ lw_tbl) (h2 : Cond.instanceMethod y ∈ lw_tbl) (h3 : Cond.selects C y y ∈ lw_tbl) (h4 : Cond.initialized C ∈ lw_tbl) (h5 : Cond.code y c mL r ∈ lw_tbl) (hrc : rm.cells = 0) (hrs : rm.slots = 0)
    (hd : y.cls = C ∧ y.cls ≠ "java/lang/invoke/MethodHandle" ∧ y.cls ≠ "java/lang/invoke/VarHandle" ∧ (parseMethodDescriptor y.desc).map (fun d => d.parameters.length) = some n) (hR : rm.frames + 1 ≤ R.frames ∧ 8 + (mL + 11) + rm.locals ≤ R.locals) :
    CallW R s args own C idx y c mL r (Cond.code y c mL r :: zW) rm 0 0 n :=
  cwV n hts (fun w hw => by
    rcases List.mem_append.mp hw with h | h
    · rcases List.mem_cons.mp h with rfl | h
      · exact ⟨h1, good_of_word rfl⟩
      · rcases List.mem_cons.mp h with rfl | h
        · exact ⟨h2, good_of_word rfl⟩
        · rcases List.mem_cons.mp h with rfl | h
          · exact ⟨h3, good_of_word rfl⟩
          · rcases List.mem_cons.mp h with rfl | h
            · exact ⟨h4, good_of_word rfl⟩
            · cases h
    · rcases List.mem_cons.mp h with rfl | h
      · exact ⟨h5, good_of_word rfl⟩
      · exact ⟨zW_in w h, good_of_word (zW_ok w h)⟩) rfl hrc hrs hd hR
end
theorem zlcmp {x y : Int64} (h : x = y) : lg_cmp x y = 0 := by
  subst h
  unfold lg_cmp
  simp

def uL_s (ca : Nat → ClassId) (ad_s : Nat → Nat) (s_holds : Nat → Int32) (s_kind : Nat → Int32) (s_figure : Nat → Int32) (s_sort : Nat → Int32) (s_size : Nat → Int32) (s_el : Nat → Nat → Int32) : va_W := cSh ca ad_s s_holds s_kind s_figure s_sort s_size s_el
def uL_x (ca : Nat → ClassId) (ad_s : Nat → Nat) (ad_x : Nat → Nat) (ad_d : Nat → Nat) (ad_p : Nat → Nat) (ad_n : Nat → Nat) (ad_q : Nat → Nat) (x_hasPicture : Int32) : va_W := [((ad_x 0), .inr (6, [.ref (ad_d 0), .ref (ad_p 0), .int x_hasPicture, .ref (ad_x 1), .ref (ad_n 0), .ref (ad_q 0)])), ((ad_x 1), .inl (ca 3, 8, .inr (.inr (.inr (.inr (fun k => some (ad_s (2 * k))))))))]
def uL_d (ca : Nat → ClassId) (ad_d : Nat → Nat) (d_guests : Int32) (d_kinds : Nat → Int32) (d_figures : Nat → Int32) (d_minutes : Nat → Int32) (d_settings : Nat → Int32) (d_hooks : Int32) (d_letters : Nat → Int32) (d_letterCount : Int32) : va_W := [((ad_d 0), .inr (3, [.int d_guests, .ref (ad_d 1), .ref (ad_d 2), .ref (ad_d 3), .ref (ad_d 4), .int d_hooks, .ref (ad_d 5), .int d_letterCount])), ((ad_d 1), .inl (ca 0, 10, .inl d_kinds)), ((ad_d 2), .inl (ca 0, 10, .inl d_figures)), ((ad_d 3), .inl (ca 0, 10, .inl d_minutes)), ((ad_d 4), .inl (ca 0, 4, .inl d_settings)), ((ad_d 5), .inl (ca 0, 6, .inl d_letters))]
def uL_p (ca : Nat → ClassId) (ad_p : Nat → Nat) (p_guests : Int32) (p_kinds : Nat → Int32) (p_figures : Nat → Int32) (p_minutes : Nat → Int32) (p_settings : Nat → Int32) (p_hooks : Int32) (p_letters : Nat → Int32) (p_letterCount : Int32) : va_W := [((ad_p 0), .inr (3, [.int p_guests, .ref (ad_p 1), .ref (ad_p 2), .ref (ad_p 3), .ref (ad_p 4), .int p_hooks, .ref (ad_p 5), .int p_letterCount])), ((ad_p 1), .inl (ca 0, 10, .inl p_kinds)), ((ad_p 2), .inl (ca 0, 10, .inl p_figures)), ((ad_p 3), .inl (ca 0, 10, .inl p_minutes)), ((ad_p 4), .inl (ca 0, 4, .inl p_settings)), ((ad_p 5), .inl (ca 0, 6, .inl p_letters))]
def uL_n (ca : Nat → ClassId) (ad_n : Nat → Nat) (ad_y : Nat → Nat) (ad_b : Nat → Nat) (n_room : Nat) (n_order : Nat → Int32) (n_weights : Nat → Int32) (n_black : Nat → Int32) (n_lifts : Nat → Int32) (n_begins : Nat → Int32) (n_ends : Nat → Int32) (n_has : Nat → Int32) (n_lifted : Nat → Int32) (n_allLifts : Int32) (n_doneAt : Int32) : va_W := [((ad_n 0), .inr (2, [.ref n_room, .ref (ad_y 0), .ref (ad_b 0), .ref (ad_y 1), .ref (ad_y 2), .ref (ad_n 1), .ref (ad_n 2), .ref (ad_n 3), .ref (ad_n 4), .ref (ad_n 5), .ref (ad_n 6), .ref (ad_n 7), .ref (ad_n 8), .int n_allLifts, .int n_doneAt])), ((ad_n 1), .inl (ca 0, 10, .inl n_order)), ((ad_n 2), .inl (ca 0, 10, .inl n_weights)), ((ad_n 3), .inl (ca 1, 10, .inl n_black)), ((ad_n 4), .inl (ca 0, 10, .inl n_lifts)), ((ad_n 5), .inl (ca 0, 10, .inl n_begins)), ((ad_n 6), .inl (ca 0, 10, .inl n_ends)), ((ad_n 7), .inl (ca 0, 10, .inl n_has)), ((ad_n 8), .inl (ca 0, 10, .inl n_lifted))]
def uL_y (ca : Nat → ClassId) (ad_y : Nat → Nat) (ad_b : Nat → Nat) (y_going : Nat → Int32) (y_coming : Nat → Int32) (y_holds : Int32) (y_latest : Int32) : va_W := [((ad_y 0), .inr (1, [.ref (ad_b 0), .ref (ad_y 1), .ref (ad_y 2), .int y_holds, .int y_latest])), ((ad_y 1), .inl (ca 0, 10, .inl y_going)), ((ad_y 2), .inl (ca 0, 10, .inl y_coming))]
def uL_b (ca : Nat → ClassId) (ad_b : Nat → Nat) (b_heaps : Int32) (b_piles : Nat → Nat → Int32) (b_heights : Nat → Int32) (b_spots : Nat → Int32) : va_W := [((ad_b 0), .inr (0, [.int b_heaps, .ref (ad_b 1), .ref (ad_b 5), .ref (ad_b 6)])), ((ad_b 1), .inl (ca 4, 3, .inr (.inr (.inr (.inr (fun k => some (ad_b (k + 2)))))))), ((ad_b 2), .inl (ca 0, 10, .inl (b_piles 0))), ((ad_b 3), .inl (ca 0, 10, .inl (b_piles 1))), ((ad_b 4), .inl (ca 0, 10, .inl (b_piles 2))), ((ad_b 5), .inl (ca 0, 3, .inl b_heights)), ((ad_b 6), .inl (ca 0, 10, .inl b_spots))]
def uL_q (ca : Nat → ClassId) (ad_q : Nat → Nat) (ad_t : Nat → Nat) (ad_m : Nat → Nat) (q_row : Nat → Int32) (q_firstsLifts : Nat → Int32) (q_othersLifts : Nat → Int32) (q_seed : Int32) (q_found : Int32) (q_foundLifts : Int32) (q_mostLifts : Int32) (q_sumOfLifts : Int32) (q_sumOfMissers : Int32) : va_W := [((ad_q 0), .inr (5, [.ref (ad_t 0), .ref (ad_m 0), .ref (ad_q 1), .ref (ad_q 2), .ref (ad_q 3), .int q_seed, .int q_found, .int q_foundLifts, .int q_mostLifts, .int q_sumOfLifts, .int q_sumOfMissers])), ((ad_q 1), .inl (ca 0, 10, .inl q_row)), ((ad_q 2), .inl (ca 0, 9, .inl q_firstsLifts)), ((ad_q 3), .inl (ca 0, 9, .inl q_othersLifts))]
def uL_t (ca : Nat → ClassId) (ad_t : Nat → Nat) (t_guests : Int32) (t_kinds : Nat → Int32) (t_figures : Nat → Int32) (t_minutes : Nat → Int32) (t_settings : Nat → Int32) (t_hooks : Int32) (t_letters : Nat → Int32) (t_letterCount : Int32) : va_W := [((ad_t 0), .inr (3, [.int t_guests, .ref (ad_t 1), .ref (ad_t 2), .ref (ad_t 3), .ref (ad_t 4), .int t_hooks, .ref (ad_t 5), .int t_letterCount])), ((ad_t 1), .inl (ca 0, 10, .inl t_kinds)), ((ad_t 2), .inl (ca 0, 10, .inl t_figures)), ((ad_t 3), .inl (ca 0, 10, .inl t_minutes)), ((ad_t 4), .inl (ca 0, 4, .inl t_settings)), ((ad_t 5), .inl (ca 0, 6, .inl t_letters))]
def uL_m (ca : Nat → ClassId) (ad_m : Nat → Nat) (ad_z : Nat → Nat) (ad_c : Nat → Nat) (m_room : Nat) (m_order : Nat → Int32) (m_weights : Nat → Int32) (m_black : Nat → Int32) (m_lifts : Nat → Int32) (m_begins : Nat → Int32) (m_ends : Nat → Int32) (m_has : Nat → Int32) (m_lifted : Nat → Int32) (m_allLifts : Int32) (m_doneAt : Int32) : va_W := [((ad_m 0), .inr (2, [.ref m_room, .ref (ad_z 0), .ref (ad_c 0), .ref (ad_z 1), .ref (ad_z 2), .ref (ad_m 1), .ref (ad_m 2), .ref (ad_m 3), .ref (ad_m 4), .ref (ad_m 5), .ref (ad_m 6), .ref (ad_m 7), .ref (ad_m 8), .int m_allLifts, .int m_doneAt])), ((ad_m 1), .inl (ca 0, 10, .inl m_order)), ((ad_m 2), .inl (ca 0, 10, .inl m_weights)), ((ad_m 3), .inl (ca 1, 10, .inl m_black)), ((ad_m 4), .inl (ca 0, 10, .inl m_lifts)), ((ad_m 5), .inl (ca 0, 10, .inl m_begins)), ((ad_m 6), .inl (ca 0, 10, .inl m_ends)), ((ad_m 7), .inl (ca 0, 10, .inl m_has)), ((ad_m 8), .inl (ca 0, 10, .inl m_lifted))]
def uL_z (ca : Nat → ClassId) (ad_z : Nat → Nat) (ad_c : Nat → Nat) (z_going : Nat → Int32) (z_coming : Nat → Int32) (z_holds : Int32) (z_latest : Int32) : va_W := [((ad_z 0), .inr (1, [.ref (ad_c 0), .ref (ad_z 1), .ref (ad_z 2), .int z_holds, .int z_latest])), ((ad_z 1), .inl (ca 0, 10, .inl z_going)), ((ad_z 2), .inl (ca 0, 10, .inl z_coming))]
def uL_c (ca : Nat → ClassId) (ad_c : Nat → Nat) (c_heaps : Int32) (c_piles : Nat → Nat → Int32) (c_heights : Nat → Int32) (c_spots : Nat → Int32) : va_W := [((ad_c 0), .inr (0, [.int c_heaps, .ref (ad_c 1), .ref (ad_c 5), .ref (ad_c 6)])), ((ad_c 1), .inl (ca 4, 3, .inr (.inr (.inr (.inr (fun k => some (ad_c (k + 2)))))))), ((ad_c 2), .inl (ca 0, 10, .inl (c_piles 0))), ((ad_c 3), .inl (ca 0, 10, .inl (c_piles 1))), ((ad_c 4), .inl (ca 0, 10, .inl (c_piles 2))), ((ad_c 5), .inl (ca 0, 3, .inl c_heights)), ((ad_c 6), .inl (ca 0, 10, .inl c_spots))]
def uL_M (ca : Nat → ClassId) (ad_M : Nat → Nat) (M_guests : Int32) (M_kind : Nat → Int32) (M_figure : Nat → Int32) (M_told : Nat → Int32) (M_heaps : Int32) (M_holds : Int32) (M_back : Int32) (M_mistakes : Int32) (M_hooks : Int32) (M_letters : Int32) (M_rule : Nat → Int32) (M_at : Int32) (M_well : Int32) (M_sort : Int32) (M_text : Int32) (M_row : Int32) (M_field : Nat → Int32) (M_fields : Int32) (M_begins : Nat → Int32) (M_ruleLetters : Nat → Int32) (M_coming : Nat → Int32) (M_comingMany : Int32) (M_going : Nat → Int32) (M_goingMany : Int32) (M_minute : Nat → Int32) (M_pile : Nat → Int32) (M_high : Nat → Int32) (M_where : Nat → Int32) (M_latest : Int32) (M_lifts : Nat → Int32) (M_begun : Nat → Int32) (M_left : Nat → Int32) (M_has : Nat → Int32) (M_lifted : Nat → Int32) (M_taken : Nat → Int32) (M_above : Nat → Int32) (M_allLifts : Int32) (M_busy : Int32) (M_longest : Nat → Int32) (M_onto : Nat → Int32) (M_worst : Int32) (M_best : Int32) (M_orders : Int32) (M_together : Int32) (M_ofOne : Nat → Int32) (M_ofOther : Nat → Int32) (M_seed : Int32) (M_then : Nat → Int32) (M_was : Nat → Int32) (M_kept : Int32) (M_held : Nat → Int32) (M_kindOn : Nat → Int32) (M_figureOn : Nat → Int32) (M_sorts : Nat → Int32) (M_size : Nat → Int32) (M_items : Nat → Int32) (M_moved : Nat → Int32) (M_thrown : Int32) : va_W := [((ad_M 0), .inr (7, [.int M_guests, .ref (ad_M 1), .ref (ad_M 2), .ref (ad_M 3), .int M_heaps, .int M_holds, .int M_back, .int M_mistakes, .int M_hooks, .int M_letters, .ref (ad_M 4), .int M_at, .int M_well, .int M_sort, .int M_text, .int M_row, .ref (ad_M 5), .int M_fields, .ref (ad_M 6), .ref (ad_M 7), .ref (ad_M 8), .int M_comingMany, .ref (ad_M 9), .int M_goingMany, .ref (ad_M 10), .ref (ad_M 11), .ref (ad_M 12), .ref (ad_M 13), .int M_latest, .ref (ad_M 14), .ref (ad_M 15), .ref (ad_M 16), .ref (ad_M 17), .ref (ad_M 18), .ref (ad_M 19), .ref (ad_M 20), .int M_allLifts, .int M_busy, .ref (ad_M 21), .ref (ad_M 22), .int M_worst, .int M_best, .int M_orders, .int M_together, .ref (ad_M 23), .ref (ad_M 24), .int M_seed, .ref (ad_M 25), .ref (ad_M 26), .int M_kept, .ref (ad_M 27), .ref (ad_M 28), .ref (ad_M 29), .ref (ad_M 30), .ref (ad_M 31), .ref (ad_M 32), .ref (ad_M 33), .int M_thrown])), ((ad_M 1), .inl (ca 0, 10, .inl M_kind)), ((ad_M 2), .inl (ca 0, 10, .inl M_figure)), ((ad_M 3), .inl (ca 0, 10, .inl M_told)), ((ad_M 4), .inl (ca 0, 6, .inl M_rule)), ((ad_M 5), .inl (ca 0, 6, .inl M_field)), ((ad_M 6), .inl (ca 2, 6, .inl M_begins)), ((ad_M 7), .inl (ca 2, 6, .inl M_ruleLetters)), ((ad_M 8), .inl (ca 0, 10, .inl M_coming)), ((ad_M 9), .inl (ca 0, 10, .inl M_going)), ((ad_M 10), .inl (ca 0, 10, .inl M_minute)), ((ad_M 11), .inl (ca 0, 30, .inl M_pile)), ((ad_M 12), .inl (ca 0, 3, .inl M_high)), ((ad_M 13), .inl (ca 0, 10, .inl M_where)), ((ad_M 14), .inl (ca 0, 10, .inl M_lifts)), ((ad_M 15), .inl (ca 0, 10, .inl M_begun)), ((ad_M 16), .inl (ca 0, 10, .inl M_left)), ((ad_M 17), .inl (ca 0, 10, .inl M_has)), ((ad_M 18), .inl (ca 0, 10, .inl M_lifted)), ((ad_M 19), .inl (ca 1, 10, .inl M_taken)), ((ad_M 20), .inl (ca 0, 10, .inl M_above)), ((ad_M 21), .inl (ca 0, 11, .inl M_longest)), ((ad_M 22), .inl (ca 0, 10, .inl M_onto)), ((ad_M 23), .inl (ca 0, 9, .inl M_ofOne)), ((ad_M 24), .inl (ca 0, 9, .inl M_ofOther)), ((ad_M 25), .inl (ca 0, 60, .inl M_then)), ((ad_M 26), .inl (ca 0, 60, .inl M_was)), ((ad_M 27), .inl (ca 0, 8, .inl M_held)), ((ad_M 28), .inl (ca 0, 8, .inl M_kindOn)), ((ad_M 29), .inl (ca 0, 8, .inl M_figureOn)), ((ad_M 30), .inl (ca 0, 8, .inl M_sorts)), ((ad_M 31), .inl (ca 0, 8, .inl M_size)), ((ad_M 32), .inl (ca 0, 800, .inl M_items)), ((ad_M 33), .inl (ca 0, 100, .inl M_moved))]
def uL_o (ca : Nat → ClassId) (ad_o : Nat) (o_out : Nat → Int64) : va_W := [(ad_o, .inl (ca 5, 1, .inr (.inl o_out)))]
def aL (ad_s : Nat → Nat) (ad_x : Nat → Nat) (ad_d : Nat → Nat) (ad_p : Nat → Nat) (ad_n : Nat → Nat) (ad_y : Nat → Nat) (ad_b : Nat → Nat) (ad_q : Nat → Nat) (ad_t : Nat → Nat) (ad_m : Nat → Nat) (ad_z : Nat → Nat) (ad_c : Nat → Nat) (ad_M : Nat → Nat) (ad_o : Nat) : Nat → List Nat := fun j => match j with | 0 => (List.range 16).map ad_s | 1 => (List.range 2).map ad_x | 2 => (List.range 6).map ad_d | 3 => (List.range 6).map ad_p | 4 => (List.range 9).map ad_n | 5 => (List.range 3).map ad_y | 6 => (List.range 7).map ad_b | 7 => (List.range 4).map ad_q | 8 => (List.range 6).map ad_t | 9 => (List.range 9).map ad_m | 10 => (List.range 3).map ad_z | 11 => (List.range 7).map ad_c | 12 => (List.range 34).map ad_M | 13 => [ad_o] | _ => []
def wJ (D : va_G) (ca : Nat → ClassId) (ad_s : Nat → Nat) (ad_x : Nat → Nat) (ad_d : Nat → Nat) (ad_p : Nat → Nat) (ad_n : Nat → Nat) (ad_y : Nat → Nat) (ad_b : Nat → Nat) (ad_q : Nat → Nat) (ad_t : Nat → Nat) (ad_m : Nat → Nat) (ad_z : Nat → Nat) (ad_c : Nat → Nat) (ad_M : Nat → Nat) (ad_o : Nat) (r : SR) (s_holds : Nat → Int32) (s_kind : Nat → Int32) (s_figure : Nat → Int32) (s_sort : Nat → Int32) (s_size : Nat → Int32) (s_el : Nat → Nat → Int32) (x_hasPicture : Int32) (d_guests : Int32) (d_kinds : Nat → Int32) (d_figures : Nat → Int32) (d_minutes : Nat → Int32) (d_settings : Nat → Int32) (d_hooks : Int32) (d_letters : Nat → Int32) (d_letterCount : Int32) (p_guests : Int32) (p_kinds : Nat → Int32) (p_figures : Nat → Int32) (p_minutes : Nat → Int32) (p_settings : Nat → Int32) (p_hooks : Int32) (p_letters : Nat → Int32) (p_letterCount : Int32) (n_room : Nat) (n_order : Nat → Int32) (n_weights : Nat → Int32) (n_black : Nat → Int32) (n_lifts : Nat → Int32) (n_begins : Nat → Int32) (n_ends : Nat → Int32) (n_has : Nat → Int32) (n_lifted : Nat → Int32) (n_allLifts : Int32) (n_doneAt : Int32) (y_going : Nat → Int32) (y_coming : Nat → Int32) (y_holds : Int32) (y_latest : Int32) (b_heaps : Int32) (b_piles : Nat → Nat → Int32) (b_heights : Nat → Int32) (b_spots : Nat → Int32) (q_row : Nat → Int32) (q_firstsLifts : Nat → Int32) (q_othersLifts : Nat → Int32) (q_seed : Int32) (q_found : Int32) (q_foundLifts : Int32) (q_mostLifts : Int32) (q_sumOfLifts : Int32) (q_sumOfMissers : Int32) (t_guests : Int32) (t_kinds : Nat → Int32) (t_figures : Nat → Int32) (t_minutes : Nat → Int32) (t_settings : Nat → Int32) (t_hooks : Int32) (t_letters : Nat → Int32) (t_letterCount : Int32) (m_room : Nat) (m_order : Nat → Int32) (m_weights : Nat → Int32) (m_black : Nat → Int32) (m_lifts : Nat → Int32) (m_begins : Nat → Int32) (m_ends : Nat → Int32) (m_has : Nat → Int32) (m_lifted : Nat → Int32) (m_allLifts : Int32) (m_doneAt : Int32) (z_going : Nat → Int32) (z_coming : Nat → Int32) (z_holds : Int32) (z_latest : Int32) (c_heaps : Int32) (c_piles : Nat → Nat → Int32) (c_heights : Nat → Int32) (c_spots : Nat → Int32) (M_guests : Int32) (M_kind : Nat → Int32) (M_figure : Nat → Int32) (M_told : Nat → Int32) (M_heaps : Int32) (M_holds : Int32) (M_back : Int32) (M_mistakes : Int32) (M_hooks : Int32) (M_letters : Int32) (M_rule : Nat → Int32) (M_at : Int32) (M_well : Int32) (M_sort : Int32) (M_text : Int32) (M_row : Int32) (M_field : Nat → Int32) (M_fields : Int32) (M_begins : Nat → Int32) (M_ruleLetters : Nat → Int32) (M_coming : Nat → Int32) (M_comingMany : Int32) (M_going : Nat → Int32) (M_goingMany : Int32) (M_minute : Nat → Int32) (M_pile : Nat → Int32) (M_high : Nat → Int32) (M_where : Nat → Int32) (M_latest : Int32) (M_lifts : Nat → Int32) (M_begun : Nat → Int32) (M_left : Nat → Int32) (M_has : Nat → Int32) (M_lifted : Nat → Int32) (M_taken : Nat → Int32) (M_above : Nat → Int32) (M_allLifts : Int32) (M_busy : Int32) (M_longest : Nat → Int32) (M_onto : Nat → Int32) (M_worst : Int32) (M_best : Int32) (M_orders : Int32) (M_together : Int32) (M_ofOne : Nat → Int32) (M_ofOther : Nat → Int32) (M_seed : Int32) (M_then : Nat → Int32) (M_was : Nat → Int32) (M_kept : Int32) (M_held : Nat → Int32) (M_kindOn : Nat → Int32) (M_figureOn : Nat → Int32) (M_sorts : Nat → Int32) (M_size : Nat → Int32) (M_items : Nat → Int32) (M_moved : Nat → Int32) (M_thrown : Int32) (o_out : Nat → Int64) (H : Heap) : Prop :=
  okT r ∧ cR r d_guests d_kinds d_figures d_minutes d_settings d_hooks d_letters d_letterCount ∧ mR r M_guests M_kind M_figure M_told M_heaps M_holds M_back M_mistakes M_hooks M_letters M_rule ∧ cSH s_holds s_kind s_figure s_sort s_size s_el M_held M_kindOn M_figureOn M_sorts M_size M_items ∧ cP x_hasPicture p_guests p_kinds p_figures p_minutes p_settings p_hooks p_letters p_letterCount M_then M_kept ∧ mLet M_ruleLetters ∧ mBeg M_begins ∧ va_P D vwCl (uL_s ca ad_s s_holds s_kind s_figure s_sort s_size s_el) H ∧ va_P D vwCl (uL_x ca ad_s ad_x ad_d ad_p ad_n ad_q x_hasPicture) H ∧ va_P D vwCl (uL_d ca ad_d d_guests d_kinds d_figures d_minutes d_settings d_hooks d_letters d_letterCount) H ∧ va_P D vwCl (uL_p ca ad_p p_guests p_kinds p_figures p_minutes p_settings p_hooks p_letters p_letterCount) H ∧ va_P D vwCl (uL_n ca ad_n ad_y ad_b n_room n_order n_weights n_black n_lifts n_begins n_ends n_has n_lifted n_allLifts n_doneAt) H ∧ va_P D vwCl (uL_y ca ad_y ad_b y_going y_coming y_holds y_latest) H ∧ va_P D vwCl (uL_b ca ad_b b_heaps b_piles b_heights b_spots) H ∧ va_P D vwCl (uL_q ca ad_q ad_t ad_m q_row q_firstsLifts q_othersLifts q_seed q_found q_foundLifts q_mostLifts q_sumOfLifts q_sumOfMissers) H ∧ va_P D vwCl (uL_t ca ad_t t_guests t_kinds t_figures t_minutes t_settings t_hooks t_letters t_letterCount) H ∧ va_P D vwCl (uL_m ca ad_m ad_z ad_c m_room m_order m_weights m_black m_lifts m_begins m_ends m_has m_lifted m_allLifts m_doneAt) H ∧ va_P D vwCl (uL_z ca ad_z ad_c z_going z_coming z_holds z_latest) H ∧ va_P D vwCl (uL_c ca ad_c c_heaps c_piles c_heights c_spots) H ∧ va_P D vwCl (uL_M ca ad_M M_guests M_kind M_figure M_told M_heaps M_holds M_back M_mistakes M_hooks M_letters M_rule M_at M_well M_sort M_text M_row M_field M_fields M_begins M_ruleLetters M_coming M_comingMany M_going M_goingMany M_minute M_pile M_high M_where M_latest M_lifts M_begun M_left M_has M_lifted M_taken M_above M_allLifts M_busy M_longest M_onto M_worst M_best M_orders M_together M_ofOne M_ofOther M_seed M_then M_was M_kept M_held M_kindOn M_figureOn M_sorts M_size M_items M_moved M_thrown) H ∧ va_P D vwCl (uL_o ca ad_o o_out) H
def lCx (p : Program) (s : State) (m : MethodId) (c : Code) (b L : Nat) (xs : Nat → Int32) (D : va_G) (ca : Nat → ClassId) (t : Nat → Nat) (A : Nat → Prop) (U : Nat → List Nat) : Prop :=
  p.tables.exec = Jvm.exec ∧ c.code = code ∧ c.maxLocals = 8 ∧ s.vm.findClass RL = some m.cls ∧ (∀ w ∈ lw_tbl, w.before #[Value.ref b] s = true) ∧ va_X b L xs s s.heap ∧ b < s.heap.size ∧ ¬ A b ∧ (∀ q, s.heap.size ≤ q → A q) ∧ va_K D vwCl (zT ca) s ∧ zE t A s s.heap ∧ zSt U A
