/-! The calls: guest, above, order, then, fate. -/
theorem sX10_spare {fuel N i : Nat} {K F M : Nat → Nat} {ki fi mi : Nat → Int32} (hN : N ≤ 10) (h : kfm N K F M ki fi mi) (hi : i < N) : fX10_spare fuel ki fi (nI i) = some (nI (spS (K i) (F i))) := by
  obtain ⟨a, b, c, d, -⟩ := h i hi
  unfold fX10_spare spS
  by_cases q : K i = 6
  · simp (disch := omega) only [zlit, zz, if_pos, if_neg, if_true, if_false, zgd', zl, zbs, zbz, encz, a, c, q]
  · simp (disch := omega) only [zlit, zz, if_pos, if_neg, if_true, if_false, zgd', zl, zbs, zbz, encz, a, c]
theorem u_guest {r : SR} (fuel : Nat) (d_guests : Int32) (d_kinds : Nat → Int32) (d_figures : Nat → Int32) (d_minutes : Nat → Int32) (d_settings : Nat → Int32) (d_hooks : Int32) (d_letters : Nat → Int32) (d_letterCount : Int32) (n_room : Nat) (n_order : Nat → Int32) (n_weights : Nat → Int32) (n_black : Nat → Int32) (y_going : Nat → Int32) (y_coming : Nat → Int32) (y_holds : Int32) (y_latest : Int32) (b_heaps : Int32) (b_piles : Nat → Nat → Int32) (b_heights : Nat → Int32) (b_spots : Nat → Int32) (ad_d : Nat → Nat) (p1 : Int32) (p2 : Int32) (M_guests : Int32) (M_kind : Nat → Int32) (M_figure : Nat → Int32) (M_told : Nat → Int32) (M_heaps : Int32) (M_holds : Int32) (M_hooks : Int32) (M_letters : Int32) (M_rule : Nat → Int32) (M_coming : Nat → Int32) (M_comingMany : Int32) (M_going : Nat → Int32) (M_goingMany : Int32) (M_minute : Nat → Int32) (M_pile : Nat → Int32) (M_high : Nat → Int32) (M_where : Nat → Int32) (M_latest : Int32) (M_back : Int32) (M_mistakes : Int32) (hf : 100 < fuel) (hr : okR r) (hc : cR r d_guests d_kinds d_figures d_minutes d_settings d_hooks d_letters d_letterCount) (hm : mR r M_guests M_kind M_figure M_told M_heaps M_holds M_back M_mistakes M_hooks M_letters M_rule) : ∃ o p, fX9_guest fuel d_guests d_kinds d_figures d_minutes d_settings d_hooks d_letters d_letterCount n_room n_order n_weights n_black y_going y_coming y_holds y_latest b_heaps b_piles b_heights b_spots ad_d p1 p2 = some o ∧ fX10_guest fuel M_guests M_kind M_figure M_told M_heaps M_holds M_hooks M_letters M_rule M_coming M_comingMany M_going M_goingMany M_minute M_pile M_high M_where M_latest p1 p2 = some p ∧ o.1 = p.1 := by
  have hN := hr.1
  unfold fX9_guest fX10_guest
  have c1 := hc.1
  have m1 := hm.1
  have c2 := hc.2.1
  have m2 := hm.2.1
  have c7 := hc.2.2.2.2.2.2.1
  have m7 := hm.2.2.2.2.2.2.1
  have hk := hr.2.2.2.2.2.2.2.2.1
  have e0 : (0 : Int32) = nI 0 := rfl
  rcases gcase (fuel := fuel) hN p1 with ⟨g, hg, rfl, a1, a2⟩ | ⟨a1, a2⟩
  · rw [← c1] at a1
    rw [← m1] at a2
    rw [a1, a2, zbs, zbs, e0, if_neg z10, if_neg z10]
    obtain ⟨x1, x2, x3, x4, x5, x6⟩ := c2 g hg
    obtain ⟨y1, y2, y3, y4, y5, y6⟩ := m2 g hg
    by_cases q0 : p2 = nI 0
    · rw [if_pos q0, if_pos q0]
      simp (disch := omega) only [zlit, zz, if_pos, if_neg, if_true, if_false, zgd', zl, zbs, zbz, encz, x1, y1]
      exact ⟨_, _, rfl, rfl, rfl⟩
    rw [if_neg q0, if_neg q0]
    by_cases q1 : p2 = 1
    · rw [if_pos q1, if_pos q1]
      simp (disch := omega) only [zlit, zz, if_pos, if_neg, if_true, if_false, zgd', zl, zbs, zbz, encz, x3, y3]
      exact ⟨_, _, rfl, rfl, rfl⟩
    rw [if_neg q1, if_neg q1]
    by_cases q2 : p2 = 2
    · rw [if_pos q2, if_pos q2]
      simp (disch := omega) only [zlit, zz, if_pos, if_neg, if_true, if_false, zgd', zl, zbs, zbz, encz, x5, y5]
      exact ⟨_, _, rfl, rfl, rfl⟩
    rw [if_neg q2, if_neg q2]
    by_cases q3 : p2 = 3
    · rw [if_pos q3, if_pos q3, sX5_goingMinute hN c2 hg]
      simp (disch := omega) only [zlit, zz, if_pos, if_neg, if_true, if_false, zgd', zl, zbs, zbz, encz, y1, y3, y5, sX10_goesBy y2 y4 (show rM r g < 1000 by omega)]
      exact ⟨_, _, rfl, rfl, rfl⟩
    rw [if_neg q3, if_neg q3]
    by_cases q4 : p2 = 4
    · rw [if_pos q4, if_pos q4, sX5_weightOf hN c2 hg, sX10_liftOf hN m2 hg, zbs, zbs]
      exact ⟨_, _, rfl, rfl, rfl⟩
    rw [if_neg q4, if_neg q4]
    by_cases q5 : p2 = 5
    · rw [if_pos q5, if_pos q5, sX10_isBlack hN m2 hg, zbs]
      simp (disch := omega) only [zlit, zz, if_pos, if_neg, if_true, if_false, zgd', zl, zbs, zbz, encz, x1, sX1_isBlack x2]
      cases blS (rK r g) with
      | true => simp only [Bool.true_eq_false, if_false]; exact ⟨_, _, rfl, rfl, rfl⟩
      | false => simp only [if_true]; exact ⟨_, _, rfl, rfl, rfl⟩
    rw [if_neg q5, if_neg q5]
    by_cases q6 : p2 = 6
    · rw [if_pos q6, if_pos q6, sX5_spareOf hN c2 hg, sX10_spare hN m2 hg, zbs, zbs]
      exact ⟨_, _, rfl, rfl, rfl⟩
    rw [if_neg q6, if_neg q6]
    by_cases q7 : p2 = 7
    · rw [if_pos q7, if_pos q7, c7, m7, sX5_hasHook hk (by omega), sX10_hangs hk (by omega), zbs, zbs]
      cases hangS (rHk r) g with
      | true => simp (disch := omega) only [zlit, zz, if_pos, if_neg, if_true, if_false, zgd', zl, zbs, zbz, encz]; exact ⟨_, _, rfl, rfl, rfl⟩
      | false => simp (disch := omega) only [zlit, zz, if_pos, if_neg, if_true, if_false, zgd', zl, zbs, zbz, encz]; exact ⟨_, _, rfl, rfl, rfl⟩
    rw [if_neg q7, if_neg q7]
    by_cases q8 : p2 = 8
    · rw [if_pos q8, if_pos q8]
      obtain ⟨y, y1, y2, y3, y4⟩ := sX9_laid fuel d_guests d_kinds d_figures d_minutes d_settings d_hooks d_letters d_letterCount n_order n_weights n_black y_going y_coming y_holds y_latest b_heaps b_piles b_heights b_spots hf hr hc
      obtain ⟨u, u1, u2, u3, u4, u5, u6⟩ := sX10_usualR hf hr hm M_coming M_comingMany M_going M_goingMany M_minute
      obtain ⟨w, w1, w2, w3⟩ := sX10_layR (fuel := fuel) hf hr ⟨M_told, hm⟩ u6 (okC_range hr) u2 M_pile M_high M_where M_latest
      rw [List.length_range] at w1
      rw [y1, u1, zbs, zbs, u3, w1, zbs]
      simp (disch := omega) only [zlit, zz, if_pos, if_neg, if_true, if_false, zgd', zl, zbs, zbz, encz, y4 g hg, w3 g (List.mem_range.mpr hg)]
      exact ⟨_, _, rfl, rfl, rfl⟩
    rw [if_neg q8, if_neg q8]
    exact ⟨_, _, rfl, rfl, rfl⟩
  · rw [← c1] at a1
    rw [← m1] at a2
    rw [a1, a2, zbs, zbs, e0, if_pos z00, if_pos z00]
    exact ⟨_, _, rfl, rfl, rfl⟩
theorem sX0_above_L29 {h g : Nat} {l : List Nat} {pi : Nat → Nat → Int32} (h3 : h < 3) (hg : g < 10) (hl : l.length ≤ 10) (hlN : ∀ x ∈ l, x < 10) (hpi : arr (pi h) l) :
    ∀ (k n c : Nat), k ≤ l.length → k < n → fX0_coatsAbove_L29 pi (nI g) n (nI h) (nI c) (ixm k) = some (nI (c + (k - (match lastIx (fun x => decide (x = g)) (l.take k) with | none => 0 | some i => i + 1)))) := by
  intro k
  induction k with
  | zero =>
    intro n c h1 h2
    obtain ⟨n, rfl⟩ : ∃ k, n = k + 1 := ⟨n - 1, by omega⟩
    rw [fX0_coatsAbove_L29, ixm_0]
    simp (disch := omega) only [zlit, zz, if_pos, if_neg, if_true, if_false, zgd', zl, zbs, zbz, encz]
    simp
  | succ k ih =>
    intro n c h1 h2
    obtain ⟨n, rfl⟩ : ∃ k, n = k + 1 := ⟨n - 1, by omega⟩
    have hk : k < l.length := by omega
    have hc := hpi k l[k] (List.getElem?_eq_getElem hk)
    have hcN := hlN l[k] (List.getElem_mem hk)
    rw [fX0_coatsAbove_L29, ixm_s, List.take_succ_eq_append_getElem hk, lastIx_snoc]
    generalize l[k] = x at hc hcN ⊢
    by_cases q : x = g
    · simp (disch := omega) only [zlit, zz, if_pos, if_neg, if_true, if_false, zgd', zl, zbs, zbz, encz, hc, q]
      simp [List.length_take, Nat.min_eq_left (Nat.le_of_lt hk)]
    · simp (disch := omega) only [zlit, zz, if_pos, if_neg, if_true, if_false, zgd', zl, zbs, zbz, encz, hc, ixm_m1]
      rw [ih n (c + 1) (by omega) (by omega)]
      simp only [q, decide_false, Bool.false_eq_true, if_false]
      congr 2
      have : (match lastIx (fun x => decide (x = g)) (l.take k) with | none => 0 | some i => i + 1) ≤ k := by
        cases e : lastIx (fun x => decide (x = g)) (l.take k) with
        | none => simp
        | some i =>
          have := lastIx_lt e
          rw [List.length_take] at this
          simp
          omega
      omega
theorem u_above {r : SR} (fuel : Nat) (d_guests : Int32) (d_kinds : Nat → Int32) (d_figures : Nat → Int32) (d_minutes : Nat → Int32) (d_settings : Nat → Int32) (d_hooks : Int32) (d_letters : Nat → Int32) (d_letterCount : Int32) (n_room : Nat) (n_order : Nat → Int32) (n_weights : Nat → Int32) (n_black : Nat → Int32) (y_going : Nat → Int32) (y_coming : Nat → Int32) (y_holds : Int32) (y_latest : Int32) (b_heaps : Int32) (b_piles : Nat → Nat → Int32) (b_heights : Nat → Int32) (b_spots : Nat → Int32) (ad_d : Nat → Nat) (p1 : Int32) (M_guests : Int32) (M_kind : Nat → Int32) (M_figure : Nat → Int32) (M_told : Nat → Int32) (M_heaps : Int32) (M_holds : Int32) (M_hooks : Int32) (M_letters : Int32) (M_rule : Nat → Int32) (M_coming : Nat → Int32) (M_comingMany : Int32) (M_going : Nat → Int32) (M_goingMany : Int32) (M_minute : Nat → Int32) (M_pile : Nat → Int32) (M_high : Nat → Int32) (M_where : Nat → Int32) (M_latest : Int32) (M_back : Int32) (M_mistakes : Int32) (hf : 100 < fuel) (hr : okR r) (hc : cR r d_guests d_kinds d_figures d_minutes d_settings d_hooks d_letters d_letterCount) (hm : mR r M_guests M_kind M_figure M_told M_heaps M_holds M_back M_mistakes M_hooks M_letters M_rule) : ∃ o p, fX9_above fuel d_guests d_kinds d_figures d_minutes d_settings d_hooks d_letters d_letterCount n_room n_order n_weights n_black y_going y_coming y_holds y_latest b_heaps b_piles b_heights b_spots ad_d p1 = some o ∧ fX10_above fuel M_guests M_kind M_figure M_told M_heaps M_holds M_hooks M_letters M_rule M_coming M_comingMany M_going M_goingMany M_minute M_pile M_high M_where M_latest p1 = some p ∧ o.1 = p.1 := by
  have hN := hr.1
  unfold fX9_above fX10_above
  have c1 := hc.1
  have m1 := hm.1
  have e0 : (0 : Int32) = nI 0 := rfl
  have e2 : (2 : Int32) = nI 2 := rfl
  rcases gcase (fuel := fuel) hN p1 with ⟨g, hg, rfl, a1, a2⟩ | ⟨a1, a2⟩
  · rw [← c1] at a1
    rw [← m1] at a2
    rw [a1, a2, zbs, zbs, e0, e2, if_neg z10, if_neg z10]
    obtain ⟨y, y1, y2, y3, y4⟩ := sX9_laid fuel d_guests d_kinds d_figures d_minutes d_settings d_hooks d_letters d_letterCount n_order n_weights n_black y_going y_coming y_holds y_latest b_heaps b_piles b_heights b_spots hf hr hc
    obtain ⟨u, u1, u2, u3, u4, u5, u6⟩ := sX10_usualR hf hr hm M_coming M_comingMany M_going M_goingMany M_minute
    obtain ⟨w, w1, w2, w3⟩ := sX10_layR (fuel := fuel) hf hr ⟨M_told, hm⟩ u6 (okC_range hr) u2 M_pile M_high M_where M_latest
    rw [List.length_range] at w1
    rw [y1, u1, zbs, zbs, u3, w1, zbs]
    have y4g := y4 g hg
    have w3g := w3 g (List.mem_range.mpr hg)
    have hLI := LI_C hr (okC_range hr)
    have hwg := LI_wh hr.2.2.2.1 hLI g hg
    have hk := okH_lay hr (okC_range hr)
    have hnd := nd_lay hr (okC_range hr)
    unfold fX0_coatsAbove
    rcases hwg with q | q | q
    · generalize hh : (layR r (List.range (rN r))).2.2 g = h at *
      have hxh : g ∈ (layR r (List.range (rN r))).1 h := (hLI.1 h g).mpr ⟨by have := hLI.2.2.1 g; omega, List.mem_range.mpr hg, hh⟩
      have eh : encW h = nI h := by unfold encW; rw [if_neg (by omega)]
      rw [eh] at y4g w3g
      have hB := y3 h q
      have hB2 := w2 h q
      have hl := (hk h).1
      have hpl := sX10_placeOf (fuel := fuel) hf hN q hg hk w2 (flat_nd hnd h q)
      have hin : fX10_isIn fuel (nI h) (nI 0) (nI 2) = some (nI 1) := by
        rw [sX10_isIn]
        have : decide (nI 0 ≤ nI h ∧ nI h ≤ nI 2) = true := decide_eq_true ⟨(nI_leI (by decide) (by omega)).mpr (by omega), (nI_leI (by omega) (by decide)).mpr (by omega)⟩
        rw [this]; rfl
      have hon : fX0_isOnHeap fuel y.2.2.2.2.2.2.2.2.2.2 (nI g) = some (nI 1) := by
        unfold fX0_isOnHeap
        simp (disch := omega) only [zlit, zz, if_pos, if_neg, if_true, if_false, zgd', zl, zbs, zbz, encz, y4g, sX9_isHeap]
        rw [decide_eq_true q]
        rfl
      have hL := sX0_above_L29 (pi := y.2.2.2.2.2.2.2.2.1) q (show g < 10 by omega) hl (fun x hx => by have := (hk h).2 x hx; omega) hB.2 ((layR r (List.range (rN r))).1 h).length fuel 0 (Nat.le_refl _) (by omega)
      rw [List.take_length] at hL
      cases hq : lastIx (fun x => decide (x = g)) ((layR r (List.range (rN r))).1 h) with
      | none =>
        have := lastIx_none.mp hq g hxh
        simp at this
      | some i =>
        have hi := lastIx_lt hq
        rw [hq] at hL hpl
        have e1' : (1 : Int32) = nI 1 := rfl
        have e9 : nI ((layR r (List.range (rN r))).1 h).length - nI 1 = ixm ((layR r (List.range (rN r))).1 h).length := rfl
        have hfin : ixm ((layR r (List.range (rN r))).1 h).length - nI i = nI (((layR r (List.range (rN r))).1 h).length - (i + 1)) := by
          rw [ixm_pos (by omega), nI_sub (by omega)]
          congr 1
          omega
        simp (disch := omega) only [zz, zgd', zl, zbs, w3g, y4g, hin, hon, z10, if_false, hB.1, hB2.1, e1', e9, e0, hL, hpl, encz]
        refine ⟨_, _, rfl, rfl, ?_⟩
        show nI _ = _
        rw [hfin, Nat.zero_add]
    all_goals
      rw [q] at y4g w3g
      have hon : fX0_isOnHeap fuel y.2.2.2.2.2.2.2.2.2.2 (nI g) = some (nI 0) := by
        unfold fX0_isOnHeap
        simp (disch := omega) only [zlit, zz, if_pos, if_neg, if_true, if_false, zgd', zl, zbs, zbz, encz, y4g]
        rfl
      have hin : fX10_isIn fuel (w.2.2.1 g) (nI 0) (nI 2) = some (nI 0) := by rw [w3g, sX10_isIn]; rfl
      simp (disch := omega) only [zlit, zz, if_pos, if_neg, if_true, if_false, zgd', zl, zbs, zbz, encz, hon, hin]
      exact ⟨_, _, rfl, rfl, rfl⟩
  · rw [← c1] at a1
    rw [← m1] at a2
    rw [a1, a2, zbs, zbs, e0, if_pos z00, if_pos z00]
    exact ⟨_, _, rfl, rfl, rfl⟩
theorem u_order {r : SR} (fuel : Nat) (d_guests : Int32) (d_kinds : Nat → Int32) (d_figures : Nat → Int32) (d_minutes : Nat → Int32) (n_room : Nat) (n_order : Nat → Int32) (n_weights : Nat → Int32) (n_black : Nat → Int32) (y_going : Nat → Int32) (y_coming : Nat → Int32) (ad_d : Nat → Nat) (p1 : Int32) (M_guests : Int32) (M_kind : Nat → Int32) (M_figure : Nat → Int32) (M_told : Nat → Int32) (M_coming : Nat → Int32) (M_comingMany : Int32) (M_going : Nat → Int32) (M_goingMany : Int32) (M_minute : Nat → Int32) (d_settings : Nat → Int32) (d_hooks : Int32) (d_letters : Nat → Int32) (d_letterCount : Int32) (M_heaps : Int32) (M_holds : Int32) (M_back : Int32) (M_mistakes : Int32) (M_hooks : Int32) (M_letters : Int32) (M_rule : Nat → Int32) (hf : 100 < fuel) (hr : okR r) (hc : cR r d_guests d_kinds d_figures d_minutes d_settings d_hooks d_letters d_letterCount) (hm : mR r M_guests M_kind M_figure M_told M_heaps M_holds M_back M_mistakes M_hooks M_letters M_rule) : ∃ o p, fX9_order fuel d_guests d_kinds d_figures d_minutes n_room n_order n_weights n_black y_going y_coming ad_d p1 = some o ∧ fX10_order fuel M_guests M_kind M_figure M_told M_coming M_comingMany M_going M_goingMany M_minute p1 = some p ∧ o.1 = p.1 := by
  have hN := hr.1
  unfold fX9_order fX10_order
  by_cases q : (0 : Int32) ≤ p1
  · rw [if_pos q, if_pos q]
    obtain ⟨b, b1, b2, b3, b4, b5, b6⟩ := sX3_beginR hf hr hc n_order n_weights n_black y_going y_coming
    obtain ⟨u, u1, u2, u3, u4, u5, u6⟩ := sX10_usualR hf hr hm M_coming M_comingMany M_going M_goingMany M_minute
    rw [b1, u1, zbs, zbs, u5, hc.1]
    rcases icase p1 with h | ⟨k, hk, rfl⟩
    · have := (zneg h).1 0 (by decide)
      exact absurd q (by rw [show (0 : Int32) = nI 0 from rfl, this]; exact id)
    · by_cases q2 : rN r ≤ k
      · simp (disch := omega) only [zlit, zz, if_pos, if_neg, if_true, if_false, zgd', zl, zbs, zbz, encz]
        exact ⟨_, _, rfl, rfl, rfl⟩
      · have hlen := odR_len r
        have hcc := List.getElem?_eq_getElem (l := odR r) (i := k) (by omega)
        simp (disch := omega) only [zlit, zz, if_pos, if_neg, if_true, if_false, zgd', zl, zbs, zbz, encz, b2 k _ hcc, u4 k _ hcc]
        exact ⟨_, _, rfl, rfl, rfl⟩
  · rw [if_neg q, if_neg q]
    exact ⟨_, _, rfl, rfl, rfl⟩
