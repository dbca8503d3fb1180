/-! along: the loop over those with whom one may go. -/
def alS (P : Nat → Bool) (T : Nat → Nat) : Nat → Nat → Option Nat → Nat → Option Nat × Nat
  | 0, _, b, L => (b, L)
  | m + 1, i, b, L => if P i = true ∧ T i < L then alS P T m (i + 1) (some i) (T i) else alS P T m (i + 1) b L
def encB (b : Option Nat) (L : Nat) : Int32 := match b with | none => zNo | some _ => nI L
theorem alT_le {r : SR} (hr : okR r) {g o : Nat} {A B C : List Nat} (hod : odR r = A ++ o :: (B ++ g :: C)) : alT r g o ≤ 1000 := by
  have hal : alO (odR r) g o = A ++ o :: g :: (B ++ C) := by rw [hod]; exact alO_eq (by rw [← hod]; exact odR_nd r)
  have hpm : (alO (odR r) g o).Perm (List.range (rN r)) := by
    rw [hal]
    refine alO_perm.trans ?_
    rw [← hod]
    exact odR_perm r
  have := (HI_goR (tp := none) (od := alO (odR r) g o) (rest := []) hr (okC_range hr) (by rw [List.append_nil]; exact hpm) (LI_C hr (okC_range hr))).2.2.2.2.2.2.2.2.1
  unfold alT sAll
  omega
/-- is one ahead of g in the order -/
def ahB (r : SR) (g i : Nat) : Bool := decide (¬ i = g ∧ (mnR r i < mnR r g ∨ mnR r i = mnR r g ∧ i < g))
theorem ahB_split {r : SR} {g i : Nat} (hg : g < rN r) (hi : i < rN r) : (ahB r g i = true ∧ ∃ A B C, odR r = A ++ i :: (B ++ g :: C)) ∨ (ahB r g i = false ∧ (i = g ∨ ∃ A B C, odR r = A ++ g :: (B ++ i :: C))) := by
  by_cases q : i = g
  · right
    refine ⟨decide_eq_false (fun h => h.1 q), Or.inl q⟩
  · have hup := odR_up r
    rcases ord2 (odR_mem.mpr hi) (odR_mem.mpr hg) q with ⟨A, B, C, e⟩ | ⟨A, B, C, e⟩
    · left
      refine ⟨decide_eq_true ⟨q, ?_⟩, A, B, C, e⟩
      rw [e, List.pairwise_append, List.pairwise_cons] at hup
      exact hup.2.1.1 g (by simp)
    · right
      refine ⟨decide_eq_false (fun h => ?_), Or.inr ⟨A, B, C, e⟩⟩
      rw [e, List.pairwise_append, List.pairwise_cons] at hup
      exact ahS_as h.2 (hup.2.1.1 i (by simp))
theorem nd_split {A B C : List Nat} {o g : Nat} (h : (A ++ o :: (B ++ g :: C)).Nodup) : o ∉ A ∧ g ∉ A ++ o :: B := by
  rw [show A ++ o :: (B ++ g :: C) = (A ++ o :: B) ++ g :: C by simp] at h
  rw [List.nodup_append] at h
  refine ⟨fun q => ?_, fun q => h.2.2 g q g (by simp) rfl⟩
  have h1 := h.1
  rw [List.nodup_append] at h1
  exact h1.2.2 o q o (by simp) rfl
theorem pl_split {l A B C : List Nat} {o g : Nat} (h : l.Nodup) (e : l = A ++ o :: (B ++ g :: C)) : firstIx (fun y => decide (y = o)) l = some A.length ∧ firstIx (fun y => decide (y = g)) l = some (A.length + 1 + B.length) := by
  subst e
  obtain ⟨h1, h2⟩ := nd_split h
  refine ⟨firstIx_app h1, ?_⟩
  rw [show A ++ o :: (B ++ g :: C) = (A ++ o :: B) ++ g :: C by simp, firstIx_app h2]
  simp
  omega
theorem sX8_along_L26 {r : SR} {g now pg : Nat} (fuel : Nat) (r_guests : Int32) (r_kinds : Nat → Int32) (r_figures : Nat → Int32) (r_minutes : Nat → Int32) (r_settings : Nat → Int32) (r_hooks : Int32) (r_letters : Nat → Int32) (r_letterCount : Int32) (p2 : Int32) (hf : 100 < fuel) (hr : okR r) (hc : cR r r_guests r_kinds r_figures r_minutes r_settings r_hooks r_letters r_letterCount) (hg : g < rN r) (hp : p2 = nI g) (hpg : firstIx (fun y => decide (y = g)) (odR r) = some pg) (hnow : now ≤ 1000) :
    ∀ (m n i L : Nat) (b : Option Nat) (n_order : Nat → Int32) (n_weights : Nat → Int32) (n_black : Nat → Int32) (n_lifts : Nat → Int32) (n_begins : Nat → Int32) (n_ends : Nat → Int32) (n_has : Nat → Int32) (n_lifted : Nat → Int32) (n_allLifts : Int32) (n_doneAt : Int32) (y_going : Nat → Int32) (y_coming : Nat → Int32) (y_holds : Int32) (y_latest : Int32) (b_heaps : Int32) (b_piles : Nat → Nat → Int32) (b_heights : Nat → Int32) (b_spots : Nat → Int32), i + m = rN r → m < n → L ≤ now → (b = none → L = now) → (b ≠ none → L < now) →
      ∃ o, fX8_tryGoingAlong_L26 fuel r_guests r_kinds r_figures r_minutes r_settings r_hooks r_letters r_letterCount p2 n (nI now) (nI pg) (nI i) (enc b) (encB b L) n_order n_weights n_black n_lifts n_begins n_ends n_has n_lifted n_allLifts n_doneAt y_going y_coming y_holds y_latest b_heaps b_piles b_heights b_spots = some o ∧ o.1 = enc (alS (ahB r g) (alT r g) m i b L).1 ∧ o.2.1 = encB (alS (ahB r g) (alT r g) m i b L).1 (alS (ahB r g) (alT r g) m i b L).2 := by
  have hN := hr.1
  subst hp
  intro m
  induction m with
  | zero =>
    intro n i L b n_order n_weights n_black n_lifts n_begins n_ends n_has n_lifted n_allLifts n_doneAt y_going y_coming y_holds y_latest b_heaps b_piles b_heights b_spots h1 h2 h3 h4 h5
    obtain ⟨n, rfl⟩ : ∃ k, n = k + 1 := ⟨n - 1, by omega⟩
    rw [fX8_tryGoingAlong_L26, hc.1, if_pos ((nI_leI (by omega) (by omega)).mpr (by omega))]
    exact ⟨_, rfl, rfl, rfl⟩
  | succ m ih =>
    intro n i L b n_order n_weights n_black n_lifts n_begins n_ends n_has n_lifted n_allLifts n_doneAt y_going y_coming y_holds y_latest b_heaps b_piles b_heights b_spots h1 h2 h3 h4 h5
    obtain ⟨n, rfl⟩ : ∃ k, n = k + 1 := ⟨n - 1, by omega⟩
    have hi : i < rN r := by omega
    rw [fX8_tryGoingAlong_L26, if_neg (fun h => by rw [hc.1] at h; have := (nI_leI (by omega) (by omega)).mp h; omega)]
    obtain ⟨q, q1, q2, q3, q4, q5, q6⟩ := sX3_beginR hf hr hc n_order n_weights n_black y_going y_coming
    have hpl := sX3_placeOf (fuel := fuel) hf hN hi q2 (odR_len r) (fun x hx => odR_mem.mp hx)
    rw [← hc.1] at hpl
    rw [q1, zbs, hpl, zbs]
    rcases ahB_split hg hi with ⟨s1, A, B, C, e⟩ | ⟨s1, s2⟩
    · obtain ⟨p1, p2⟩ := pl_split (odR_nd r) e
      rw [p2] at hpg
      have hpg' : A.length + 1 + B.length = pg := Option.some.inj hpg
      have hlen := odR_len r
      rw [e] at hlen
      simp only [List.length_append, List.length_cons] at hlen
      rw [p1, encz.2, if_neg (fun h => by have := (nI_leI (by omega) (by omega)).mp h; omega)]
      have harr : arr q.1 (A ++ i :: B.reverse.reverse) := by
        rw [List.reverse_reverse]
        refine arr_sub (d := g :: C) ?_
        rw [show A ++ i :: B ++ g :: C = A ++ i :: (B ++ g :: C) by simp, ← e]
        exact q2
      have harr2 : arrAt q.1 (A.length + 1 + B.reverse.length + 1) C := fun j x hx => by
        refine q2 _ x ?_
        rw [e, List.length_reverse, List.getElem?_append_right (by omega), show A.length + 1 + B.length + 1 + j - A.length = (B.length + 1 + j) + 1 by omega, List.getElem?_cons_succ, List.getElem?_append_right (by omega), show B.length + 1 + j - B.length = j + 1 by omega, List.getElem?_cons_succ]
        exact hx
      obtain ⟨a2, j1, j2⟩ := sX8_goJust_L3 (g := g) (o := i) (A := A) (C := C) (by omega) (by omega) B.reverse C fuel q.1 (by rw [List.length_reverse]; omega) (by rw [List.length_reverse]; omega) harr harr2
      rw [List.length_reverse, hpg'] at j1
      rw [List.reverse_reverse] at j2
      have hal : alO (odR r) g i = A ++ i :: g :: (B ++ C) := by rw [e]; exact alO_eq (by rw [← e]; exact odR_nd r)
      have hpm : (alO (odR r) g i).Perm (odR r) := by rw [hal, e]; exact alO_perm
      have hok : okO r (alO (odR r) g i) := ⟨hpm.nodup_iff.mpr (odR_nd r), by rw [hpm.length_eq, odR_len], fun x => by rw [hpm.mem_iff, odR_mem]⟩
      rw [← hal] at j2
      unfold fX8_goJustBehind
      rw [j1, zbs]
      obtain ⟨o, o1, o2⟩ := sX8_liftsInOrder (tp := none) fuel a2 q.2.1 q.2.2.1 n_lifts n_begins n_ends n_has n_lifted n_allLifts n_doneAt q.2.2.2.1 q.2.2.2.2 y_holds y_latest b_heaps b_piles b_heights b_spots r_guests r_settings r_hooks r_letters r_letterCount (-4) hf hr hc ⟨q3, q4, q5⟩ (okO_range r) hok q6 j2 (fun t ht => by cases ht) rfl
      have o2' : o.1 = nI (alT r g i) := o2
      have hle := alT_le hr e
      rw [o1, zbs, o2', alS]
      by_cases qn : now ≤ alT r g i
      · rw [if_pos ((nI_leI (by omega) (by omega)).mpr qn), if_neg (fun h => by omega)]
        unfold fX8_tryGoingAlong_J93
        rw [zl, show (1 : Int32) = nI 1 from rfl, nI_add]
        apply ih
        · omega
        · omega
        · exact h3
        · exact h4
        · exact h5
      · rw [if_neg (fun h => qn ((nI_leI (by omega) (by omega)).mp h))]
        cases b with
        | none =>
          have hL := h4 rfl
          have hff : fX8_findIfFewer fuel (enc none) (encB none L) (nI i) (nI (alT r g i)) = some (nI i, nI (alT r g i)) := rfl
          rw [hff, zbs, if_pos ⟨s1, by omega⟩]
          unfold fX8_tryGoingAlong_J93
          rw [zl, show (1 : Int32) = nI 1 from rfl, nI_add]
          refine ih n (i + 1) (alT r g i) (some i) _ _ _ _ _ _ _ _ _ _ _ _ _ _ _ _ _ _ (by omega) (by omega) (by omega) (fun h => by cases h) (fun _ => by omega)
        | some b =>
          have hL := h5 (by simp)
          have hff : fX8_findIfFewer fuel (enc (some b)) (encB (some b) L) (nI i) (nI (alT r g i)) = some (if alT r g i < L then (nI i, nI (alT r g i)) else (nI b, nI L)) := sX8_findFewer (by omega) (by omega)
          rw [hff, zbs]
          unfold fX8_tryGoingAlong_J93
          rw [zl, show (1 : Int32) = nI 1 from rfl, nI_add]
          by_cases ql : alT r g i < L
          · rw [if_pos ql, if_pos ⟨s1, ql⟩]
            refine ih n (i + 1) (alT r g i) (some i) _ _ _ _ _ _ _ _ _ _ _ _ _ _ _ _ _ _ (by omega) (by omega) (by omega) (fun h => by cases h) (fun _ => by omega)
          · rw [if_neg ql, if_neg (fun h => ql h.2)]
            refine ih n (i + 1) L (some b) _ _ _ _ _ _ _ _ _ _ _ _ _ _ _ _ _ _ (by omega) (by omega) (by omega) (fun h => by cases h) (fun _ => by omega)
    · have hge : ∃ pi, firstIx (fun y => decide (y = i)) (odR r) = some pi ∧ pg ≤ pi ∧ pi < 10 := by
        have hlen := odR_len r
        rcases s2 with rfl | ⟨A, B, C, e⟩
        · exact ⟨pg, hpg, Nat.le_refl _, by have := firstIx_lt hpg; omega⟩
        · obtain ⟨p1, p2⟩ := pl_split (odR_nd r) e
          rw [p1] at hpg
          have := Option.some.inj hpg
          have h10 := firstIx_lt p2
          exact ⟨_, p2, by omega, by omega⟩
      obtain ⟨pi, p1, p2, p3⟩ := hge
      rw [p1, encz.2, if_pos ((nI_leI (by omega) (by omega)).mpr p2), alS, if_neg (fun h => by rw [s1] at h; exact Bool.noConfusion h.1)]
      unfold fX8_tryGoingAlong_J93
      rw [zl, show (1 : Int32) = nI 1 from rfl, nI_add]
      apply ih
      · omega
      · omega
      · exact h3
      · exact h4
      · exact h5
theorem sX10_along_L31 {r : SR} {g : Nat} (fuel : Nat) (M_guests : Int32) (M_kind : Nat → Int32) (M_figure : Nat → Int32) (M_told : Nat → Int32) (M_heaps : Int32) (M_holds : Int32) (M_back : Int32) (M_mistakes : Int32) (M_hooks : Int32) (M_letters : Int32) (M_rule : Nat → Int32) (p1 : Int32) (p2 : Int32) (hf : 100 < fuel) (hr : okR r) (hm : mR r M_guests M_kind M_figure M_told M_heaps M_holds M_back M_mistakes M_hooks M_letters M_rule) (hg : g < rN r) (hp : p1 = nI g) :
    ∀ (m n i L : Nat) (b : Option Nat) (M_coming : Nat → Int32) (M_comingMany : Int32) (M_going : Nat → Int32) (M_goingMany : Int32) (M_minute : Nat → Int32) (M_pile : Nat → Int32) (M_high : Nat → Int32) (M_where : Nat → Int32) (M_latest : Int32) (M_lifts : Nat → Int32) (M_begun : Nat → Int32) (M_left : Nat → Int32) (M_has : Nat → Int32) (M_lifted : Nat → Int32) (M_taken : Nat → Int32) (M_above : Nat → Int32) (M_allLifts : Int32) (M_busy : Int32), i + m = rN r → m < n → L ≤ 1000 → (∀ x, b = some x → x < 10) →
      ∃ o, fX10_along_L31 fuel M_guests M_kind M_figure M_told M_heaps M_holds M_back M_mistakes M_hooks M_letters M_rule p1 p2 n (enc b) (nI L) (nI i) M_coming M_comingMany M_going M_goingMany M_minute M_pile M_high M_where M_latest M_lifts M_begun M_left M_has M_lifted M_taken M_above M_allLifts M_busy = some o ∧ o.1 = if p2 = nI 0 then enc (alS (ahB r g) (alT r g) m i b L).1 else encB (alS (ahB r g) (alT r g) m i b L).1 (alS (ahB r g) (alT r g) m i b L).2 := by
  have hN := hr.1
  subst hp
  intro m
  induction m with
  | zero =>
    intro n i L b M_coming M_comingMany M_going M_goingMany M_minute M_pile M_high M_where M_latest M_lifts M_begun M_left M_has M_lifted M_taken M_above M_allLifts M_busy h1 h2 h3 h4
    obtain ⟨n, rfl⟩ : ∃ k, n = k + 1 := ⟨n - 1, by omega⟩
    rw [fX10_along_L31, hm.1, if_pos ((nI_leI (by omega) (by omega)).mpr (by omega)), alS]
    unfold fX10_along_J98
    have e0 : (0 : Int32) = nI 0 := rfl
    have e4 : (-4 : Int32) = zNo := rfl
    rw [e0, e4]
    by_cases q : p2 = nI 0
    · rw [if_pos q, if_pos q]
      exact ⟨_, rfl, rfl⟩
    · rw [if_neg q, if_neg q]
      cases b with
      | none => rw [if_pos (show enc none = zNo from rfl)]; exact ⟨_, rfl, rfl⟩
      | some x =>
        have := h4 x rfl
        rw [if_neg (show ¬ enc (some x) = zNo from nI_m4 (by omega))]; exact ⟨_, rfl, rfl⟩
  | succ m ih =>
    intro n i L b M_coming M_comingMany M_going M_goingMany M_minute M_pile M_high M_where M_latest M_lifts M_begun M_left M_has M_lifted M_taken M_above M_allLifts M_busy h1 h2 h3 h4
    obtain ⟨n, rfl⟩ : ∃ k, n = k + 1 := ⟨n - 1, by omega⟩
    have hi : i < rN r := by omega
    rw [fX10_along_L31, if_neg (fun h => by rw [hm.1] at h; have := (nI_leI (by omega) (by omega)).mp h; omega)]
    obtain ⟨q, q1, q2⟩ := sX10_minutesAsTold hf hN hm.2.1 M_minute
    rw [← hm.1] at q1
    rw [q1, zbs]
    have e0 : (0 : Int32) = nI 0 := rfl
    have e1 : (1 : Int32) = nI 1 := rfl
    by_cases qg : i = g
    · subst qg
      have eS : alS (ahB r i) (alT r i) (m + 1) i b L = alS (ahB r i) (alT r i) m (i + 1) b L := by rw [alS, if_neg (fun h => by have := h.1; simp [ahB] at this)]
      rw [if_pos rfl, eS]
      unfold fX10_along_J92
      rw [zl, e1, nI_add]
      apply ih
      · omega
      · omega
      · exact h3
      · exact h4
    · rw [if_neg (fun h => qg ((nI_eq (by omega) (by omega)).mp h)), sX10_goesAhead hN q2 hi hg, zbs]
      have hd : decide (mnS (rK r) (rF r) (rM r) i < mnS (rK r) (rF r) (rM r) g ∨ mnS (rK r) (rF r) (rM r) i = mnS (rK r) (rF r) (rM r) g ∧ i < g) = ahB r g i := by
        unfold ahB
        refine decide_eq_decide.mpr ⟨fun h => ⟨qg, h⟩, fun h => h.2⟩
      rw [hd, e0]
      rcases ahB_split hg hi with ⟨s1, A, B, C, e⟩ | ⟨s1, s2⟩
      · rw [s1, if_neg (show ¬ zb01 true = nI 0 from z10)]
        obtain ⟨v, v1, v2⟩ := sX10_alongWith (o := i) (g := g) fuel M_guests M_kind M_figure M_told M_heaps M_holds M_back M_mistakes M_hooks M_letters M_rule M_coming M_comingMany M_going M_goingMany q M_pile M_high M_where M_latest M_lifts M_begun M_left M_has M_lifted M_taken M_above M_allLifts M_busy (nI g) (nI i) hf hr hm hi hg rfl rfl e
        have hle := alT_le hr e
        rw [v1, zbs, v2]
        unfold fX10_along_J92
        by_cases ql : L ≤ alT r g i
        · have eS : alS (ahB r g) (alT r g) (m + 1) i b L = alS (ahB r g) (alT r g) m (i + 1) b L := by rw [alS, if_neg (fun h => by omega)]
          rw [if_pos ((nI_leI (by omega) (by omega)).mpr ql), eS, zl, nI_zmin (by omega) (by omega), Nat.min_eq_left ql, zl, e1, nI_add]
          apply ih
          · omega
          · omega
          · exact h3
          · exact h4
        · have eS : alS (ahB r g) (alT r g) (m + 1) i b L = alS (ahB r g) (alT r g) m (i + 1) (some i) (alT r g i) := by rw [alS, if_pos ⟨s1, by omega⟩]
          rw [if_neg (fun h => ql ((nI_leI (by omega) (by omega)).mp h)), eS, zl, nI_zmin (by omega) (by omega), Nat.min_eq_right (by omega), zl, e1, nI_add]
          refine ih n (i + 1) (alT r g i) (some i) _ _ _ _ _ _ _ _ _ _ _ _ _ _ _ _ _ _ (by omega) (by omega) (by omega) (fun x hx => by cases hx; omega)
      · have eS : alS (ahB r g) (alT r g) (m + 1) i b L = alS (ahB r g) (alT r g) m (i + 1) b L := by rw [alS, if_neg (fun h => by rw [s1] at h; exact Bool.noConfusion h.1)]
        rw [s1, if_pos (show zb01 false = nI 0 from rfl), eS]
        unfold fX10_along_J92
        rw [zl, e1, nI_add]
        apply ih
        · omega
        · omega
        · exact h3
        · exact h4
theorem u_along {r : SR} (fuel : Nat) (d_guests : Int32) (d_kinds : Nat → Int32) (d_figures : Nat → Int32) (d_minutes : Nat → Int32) (d_settings : Nat → Int32) (d_hooks : Int32) (d_letters : Nat → Int32) (d_letterCount : Int32) (q_found : Int32) (q_foundLifts : Int32) (m_room : Nat) (m_order : Nat → Int32) (m_weights : Nat → Int32) (m_black : Nat → Int32) (m_lifts : Nat → Int32) (m_begins : Nat → Int32) (m_ends : Nat → Int32) (m_has : Nat → Int32) (m_lifted : Nat → Int32) (m_allLifts : Int32) (m_doneAt : Int32) (z_going : Nat → Int32) (z_coming : Nat → Int32) (z_holds : Int32) (z_latest : Int32) (c_heaps : Int32) (c_piles : Nat → Nat → Int32) (c_heights : Nat → Int32) (c_spots : Nat → Int32) (ad_d : Nat → Nat) (p1 : Int32) (p2 : Int32) (M_guests : Int32) (M_kind : Nat → Int32) (M_figure : Nat → Int32) (M_told : Nat → Int32) (M_heaps : Int32) (M_holds : Int32) (M_back : Int32) (M_mistakes : Int32) (M_hooks : Int32) (M_letters : Int32) (M_rule : Nat → Int32) (M_coming : Nat → Int32) (M_comingMany : Int32) (M_going : Nat → Int32) (M_goingMany : Int32) (M_minute : Nat → Int32) (M_pile : Nat → Int32) (M_high : Nat → Int32) (M_where : Nat → Int32) (M_latest : Int32) (M_lifts : Nat → Int32) (M_begun : Nat → Int32) (M_left : Nat → Int32) (M_has : Nat → Int32) (M_lifted : Nat → Int32) (M_taken : Nat → Int32) (M_above : Nat → Int32) (M_allLifts : Int32) (M_busy : Int32) (hf : 100 < fuel) (hr : okR r) (hc : cR r d_guests d_kinds d_figures d_minutes d_settings d_hooks d_letters d_letterCount) (hm : mR r M_guests M_kind M_figure M_told M_heaps M_holds M_back M_mistakes M_hooks M_letters M_rule) : ∃ o p, fX9_along fuel d_guests d_kinds d_figures d_minutes d_settings d_hooks d_letters d_letterCount q_found q_foundLifts m_room m_order m_weights m_black m_lifts m_begins m_ends m_has m_lifted m_allLifts m_doneAt z_going z_coming z_holds z_latest c_heaps c_piles c_heights c_spots ad_d p1 p2 = some o ∧ fX10_along fuel M_guests M_kind M_figure M_told M_heaps M_holds M_back M_mistakes M_hooks M_letters M_rule M_coming M_comingMany M_going M_goingMany M_minute M_pile M_high M_where M_latest M_lifts M_begun M_left M_has M_lifted M_taken M_above M_allLifts M_busy p1 p2 = some p ∧ o.1 = p.1 := by
  have hN := hr.1
  unfold fX9_along fX10_along
  have c1 := hc.1
  have m1 := hm.1
  have e0 : (0 : Int32) = nI 0 := rfl
  have e1 : (1 : Int32) = nI 1 := rfl
  rw [e0, e1]
  rcases gcase (fuel := fuel) hN p1 with ⟨g, hg, rfl, a1, a2⟩ | ⟨a1, a2⟩
  · rw [← c1] at a1
    rw [← m1] at a2
    rw [a1, a2, zbs, zbs, if_neg z10, if_neg z10]
    rcases fs_case (fuel := fuel) p2 with ⟨h01, b1, b2⟩ | ⟨b1, b2⟩
    · rw [b1, b2, zbs, zbs, if_neg z10, if_neg z10]
      unfold fX8_tryGoingAlong
      obtain ⟨y, y1, y2, y3, y4, -⟩ := sX3_pass hf hr hc m_order m_weights m_black m_lifts m_begins m_ends m_has m_lifted m_allLifts m_doneAt z_going z_coming z_holds z_latest c_heaps c_piles c_heights c_spots
      obtain ⟨w, w1, w2, w3, w4, w5, w6, -⟩ := sX10_night hf hr hm M_coming M_comingMany M_going M_goingMany M_minute M_pile M_high M_where M_latest M_lifts M_begun M_left M_has M_lifted M_taken M_above M_allLifts M_busy
      obtain ⟨pg, hpg, hpl⟩ := firstIx_mem (odR_mem.mpr hg)
      have hpo := sX3_placeOf (fuel := fuel) hf hN hg y3 (odR_len r) (fun x hx => odR_mem.mp hx)
      rw [← c1, hpg] at hpo
      have hfn : fX8_findNothing fuel q_found q_foundLifts = some (zNo, zNo) := rfl
      have hall := all_le hr
      rw [hfn, zbs, y1, zbs, hpo, zbs, w1, zbs, y2, w2]
      obtain ⟨o, o1, o2, o3⟩ := sX8_along_L26 (r := r) (g := g) (now := sAll (nightR r)) (pg := pg) fuel d_guests d_kinds d_figures d_minutes d_settings d_hooks d_letters d_letterCount (nI g) hf hr hc hg rfl hpg hall (rN r) fuel 0 (sAll (nightR r)) none y.2.1 y.2.2.1 y.2.2.2.1 y.2.2.2.2.1 y.2.2.2.2.2.1 y.2.2.2.2.2.2.1 y.2.2.2.2.2.2.2.1 y.2.2.2.2.2.2.2.2.1 y.2.2.2.2.2.2.2.2.2.1 y.2.2.2.2.2.2.2.2.2.2.1 y.2.2.2.2.2.2.2.2.2.2.2.1 y.2.2.2.2.2.2.2.2.2.2.2.2.1 y.2.2.2.2.2.2.2.2.2.2.2.2.2.1 y.2.2.2.2.2.2.2.2.2.2.2.2.2.2.1 y.2.2.2.2.2.2.2.2.2.2.2.2.2.2.2.1 y.2.2.2.2.2.2.2.2.2.2.2.2.2.2.2.2.1 y.2.2.2.2.2.2.2.2.2.2.2.2.2.2.2.2.2.1 y.2.2.2.2.2.2.2.2.2.2.2.2.2.2.2.2.2.2 (by omega) (by omega) (Nat.le_refl _) (fun _ => rfl) (fun h => absurd rfl h)
      obtain ⟨p, p1', p2'⟩ := sX10_along_L31 (r := r) (g := g) fuel M_guests M_kind M_figure M_told M_heaps M_holds M_back M_mistakes M_hooks M_letters M_rule (nI g) p2 hf hr hm hg rfl (rN r) fuel 0 (sAll (nightR r)) none w.2.1 w.2.2.1 w.2.2.2.1 w.2.2.2.2.1 w.2.2.2.2.2.1 w.2.2.2.2.2.2.1 w.2.2.2.2.2.2.2.1 w.2.2.2.2.2.2.2.2.1 w.2.2.2.2.2.2.2.2.2.1 w.2.2.2.2.2.2.2.2.2.2.1 w.2.2.2.2.2.2.2.2.2.2.2.1 w.2.2.2.2.2.2.2.2.2.2.2.2.1 w.2.2.2.2.2.2.2.2.2.2.2.2.2.1 w.2.2.2.2.2.2.2.2.2.2.2.2.2.2.1 w.2.2.2.2.2.2.2.2.2.2.2.2.2.2.2.1 w.2.2.2.2.2.2.2.2.2.2.2.2.2.2.2.2.1 w.2.2.2.2.2.2.2.2.2.2.2.2.2.2.2.2.2.1 w.2.2.2.2.2.2.2.2.2.2.2.2.2.2.2.2.2.2 (by omega) (by omega) hall (fun x hx => by cases hx)
      have e4 : (-4 : Int32) = enc none := rfl
      have e5 : encB none (sAll (nightR r)) = zNo := rfl
      have e6 : enc none = zNo := rfl
      have e7 : enc (some pg) = nI pg := rfl
      rw [e5, e6] at o1
      rw [e4, e7, e0]
      dsimp only
      rw [o1, zbs, p1']
      by_cases q : p2 = nI 0
      · rw [if_pos q]
        rw [if_pos q] at p2'
        exact ⟨_, _, rfl, rfl, by rw [p2']; exact o2⟩
      · rw [if_neg q]
        rw [if_neg q] at p2'
        exact ⟨_, _, rfl, rfl, by rw [p2']; exact o3⟩
    · rw [b1, b2, zbs, zbs, if_pos z00, if_pos z00]
      exact ⟨_, _, rfl, rfl, rfl⟩
  · rw [← c1] at a1
    rw [← m1] at a2
    rw [a1, a2, zbs, zbs, if_pos z00, if_pos z00]
    exact ⟨_, _, rfl, rfl, rfl⟩
