/-! The calls: then, fate, sums, missing. -/
theorem sX3_placeOf {fuel N g : Nat} {l : List Nat} {od : Nat → Int32} (hf : 100 < fuel) (hN : N ≤ 10) (hg : g < N) (had : arr od l) (hl : l.length = N) (hlN : ∀ x ∈ l, x < N) : fX3_placeOf fuel od (nI N) (nI g) = some (enc (firstIx (fun x => decide (x = g)) l)) := by
  have key : ∀ (m n i : Nat), i + m = N → m < n → fX3_placeOf_L2 od (nI N) (nI g) n (nI i) = some (enc ((firstIx (fun x => decide (x = g)) (l.drop i)).map (· + i))) := by
    intro m
    induction m with
    | zero =>
      intro n i h1 h2
      obtain ⟨n, rfl⟩ : ∃ k, n = k + 1 := ⟨n - 1, by omega⟩
      rw [fX3_placeOf_L2, List.drop_eq_nil_of_le (by omega)]
      simp (disch := omega) only [zlit, zz, if_pos, if_neg, if_true, if_false, zgd', zl, zbs, zbz, encz]
      rfl
    | succ m ih =>
      intro n i h1 h2
      obtain ⟨n, rfl⟩ : ∃ k, n = k + 1 := ⟨n - 1, by omega⟩
      have hi' : i < l.length := by omega
      have hc := had i l[i] (List.getElem?_eq_getElem hi')
      have hcN := hlN l[i] (List.getElem_mem hi')
      rw [fX3_placeOf_L2, List.drop_eq_getElem_cons hi', firstIx]
      generalize l[i] = c at hc hcN ⊢
      by_cases q : c = g
      · simp (disch := omega) only [zlit, zz, if_pos, if_neg, if_true, if_false, zgd', zl, zbs, zbz, encz, hc, q]
        simp [encz]
      · simp (disch := omega) only [zlit, zz, if_pos, if_neg, if_true, if_false, zgd', zl, zbs, zbz, encz, hc]
        rw [ih n (i + 1) (by omega) (by omega)]
        simp only [q, decide_false, Bool.false_eq_true, if_false, Option.map_map]
        congr 2
        cases firstIx (fun x => decide (x = g)) (l.drop (i + 1)) with
        | none => rfl
        | some t => simp; omega
  unfold fX3_placeOf
  have := key N fuel 0 (by omega) (by omega)
  rw [List.drop_zero] at this
  rw [show (0 : Int32) = nI 0 from rfl, this]
  cases firstIx (fun x => decide (x = g)) l <;> rfl
theorem firstIx_mem {g : Nat} : ∀ {l : List Nat}, g ∈ l → ∃ i, firstIx (fun x => decide (x = g)) l = some i ∧ i < l.length
  | [], h => by simp at h
  | x :: xs, h => by
    rw [firstIx]
    by_cases q : x = g
    · exact ⟨0, by simp [q], by simp⟩
    · have : g ∈ xs := by
        rcases List.mem_cons.mp h with h | h
        · exact absurd h.symm q
        · exact h
      obtain ⟨i, h1, h2⟩ := firstIx_mem this
      exact ⟨i + 1, by simp [q, h1], by simp; omega⟩
theorem sX10_fate_L86 {g N : Nat} {l : List Nat} {M_going : Nat → Int32} (hN : N ≤ 10) (hg : g < N) (had : arr M_going l) (hl : l.length = N) (hlN : ∀ x ∈ l, x < N) (v1 : Nat → Int32) (v2 : Int32) (v4 : Int32) (v5 v6 v7 v8 : Nat → Int32) (v9 : Int32) (w1 w2 w3 w4 w5 w6 w7 : Nat → Int32) (w8 w9 : Int32) :
    ∀ (m n i j : Nat), i + m = N → m < n → firstIx (fun x => decide (x = g)) (l.drop i) = some j → ∃ p, fX10_fate_L86 (nI g) n (nI i) v1 v2 M_going v4 v5 v6 v7 v8 v9 w1 w2 w3 w4 w5 w6 w7 w8 w9 = some p ∧ p.1 = nI (i + j) := by
  intro m
  induction m with
  | zero =>
    intro n i j h1 h2 hj
    rw [List.drop_eq_nil_of_le (by omega), firstIx] at hj
    cases hj
  | succ m ih =>
    intro n i j h1 h2 hj
    obtain ⟨n, rfl⟩ : ∃ k, n = k + 1 := ⟨n - 1, by omega⟩
    have hi' : i < l.length := by omega
    have hc := had i l[i] (List.getElem?_eq_getElem hi')
    have hcN := hlN l[i] (List.getElem_mem hi')
    rw [List.drop_eq_getElem_cons hi', firstIx] at hj
    rw [fX10_fate_L86]
    generalize l[i] = c at hc hcN hj
    by_cases q : c = g
    · rw [if_pos (by simp [q])] at hj
      cases hj
      simp (disch := omega) only [zlit, zz, if_pos, if_neg, if_true, if_false, zgd', zl, zbs, zbz, encz, hc, q]
      exact ⟨_, rfl, rfl⟩
    · rw [if_neg (by simp [q])] at hj
      cases hq : firstIx (fun x => decide (x = g)) (l.drop (i + 1)) with
      | none => rw [hq] at hj; cases hj
      | some j' =>
        rw [hq] at hj
        cases hj
        simp (disch := omega) only [zlit, zz, if_pos, if_neg, if_true, if_false, zgd', zl, zbs, zbz, encz, hc]
        obtain ⟨p, p1, p2⟩ := ih n (i + 1) j' (by omega) (by omega) hq
        exact ⟨p, p1, by rw [p2]; congr 1; omega⟩
theorem u_fate {r : SR} (fuel : Nat) (d_guests : Int32) (d_kinds : Nat → Int32) (d_figures : Nat → Int32) (d_minutes : Nat → Int32) (d_settings : Nat → Int32) (d_hooks : Int32) (d_letters : Nat → Int32) (d_letterCount : Int32) (n_room : Nat) (n_order : Nat → Int32) (n_weights : Nat → Int32) (n_black : Nat → Int32) (n_lifts : Nat → Int32) (n_begins : Nat → Int32) (n_ends : Nat → Int32) (n_has : Nat → Int32) (n_lifted : Nat → Int32) (n_allLifts : Int32) (n_doneAt : Int32) (y_going : Nat → Int32) (y_coming : Nat → Int32) (y_holds : Int32) (y_latest : Int32) (b_heaps : Int32) (b_piles : Nat → Nat → Int32) (b_heights : Nat → Int32) (b_spots : Nat → Int32) (ad_d : Nat → Nat) (p1 : Int32) (p2 : Int32) (M_guests : Int32) (M_kind : Nat → Int32) (M_figure : Nat → Int32) (M_told : Nat → Int32) (M_heaps : Int32) (M_holds : Int32) (M_back : Int32) (M_mistakes : Int32) (M_hooks : Int32) (M_letters : Int32) (M_rule : Nat → Int32) (M_coming : Nat → Int32) (M_comingMany : Int32) (M_going : Nat → Int32) (M_goingMany : Int32) (M_minute : Nat → Int32) (M_pile : Nat → Int32) (M_high : Nat → Int32) (M_where : Nat → Int32) (M_latest : Int32) (M_lifts : Nat → Int32) (M_begun : Nat → Int32) (M_left : Nat → Int32) (M_has : Nat → Int32) (M_lifted : Nat → Int32) (M_taken : Nat → Int32) (M_above : Nat → Int32) (M_allLifts : Int32) (M_busy : Int32) (hf : 100 < fuel) (hr : okR r) (hc : cR r d_guests d_kinds d_figures d_minutes d_settings d_hooks d_letters d_letterCount) (hm : mR r M_guests M_kind M_figure M_told M_heaps M_holds M_back M_mistakes M_hooks M_letters M_rule) : ∃ o p, fX9_fate fuel d_guests d_kinds d_figures d_minutes d_settings d_hooks d_letters d_letterCount n_room n_order n_weights n_black n_lifts n_begins n_ends n_has n_lifted n_allLifts n_doneAt y_going y_coming y_holds y_latest b_heaps b_piles b_heights b_spots ad_d p1 p2 = some o ∧ fX10_fate fuel M_guests M_kind M_figure M_told M_heaps M_holds M_back M_mistakes M_hooks M_letters M_rule M_coming M_comingMany M_going M_goingMany M_minute M_pile M_high M_where M_latest M_lifts M_begun M_left M_has M_lifted M_taken M_above M_allLifts M_busy p1 p2 = some p ∧ o.1 = p.1 := by
  have hN := hr.1
  unfold fX9_fate fX10_fate
  have c1 := hc.1
  have m1 := hm.1
  have e0 : (0 : Int32) = nI 0 := rfl
  rcases gcase (fuel := fuel) hN p1 with ⟨g, hg, rfl, a1, a2⟩ | ⟨a1, a2⟩
  · rw [← c1] at a1
    rw [← m1] at a2
    rw [a1, a2, zbs, zbs, e0, if_neg z10, if_neg z10]
    obtain ⟨y, y1, y2, y3, y4, -, ⟨g1, g2, -⟩, -⟩ := sX3_pass hf hr hc n_order n_weights n_black n_lifts n_begins n_ends n_has n_lifted n_allLifts n_doneAt y_going y_coming y_holds y_latest b_heaps b_piles b_heights b_spots
    obtain ⟨w, w1, w2, w3, w4, w5, w6, -, ⟨k1, k2, -⟩, -⟩ := sX10_night hf hr hm M_coming M_comingMany M_going M_goingMany M_minute M_pile M_high M_where M_latest M_lifts M_begun M_left M_has M_lifted M_taken M_above M_allLifts M_busy
    obtain ⟨g3, g4, g5⟩ := g1 g hg
    obtain ⟨g6, g7⟩ := g2 g hg (by simp)
    obtain ⟨k3, k4, k5, k6⟩ := k1 g (List.mem_range.mpr hg) (by simp)
    have k7 := k2 g hg
    rw [y1, w1, zbs, zbs]
    by_cases q0 : p2 = nI 0
    · rw [if_pos q0, if_pos q0]
      simp (disch := omega) only [zlit, zz, if_pos, if_neg, if_true, if_false, zgd', zl, zbs, zbz, encz, g3, k3]
      exact ⟨_, _, rfl, rfl, rfl⟩
    rw [if_neg q0, if_neg q0]
    by_cases q1 : p2 = 1
    · rw [if_pos q1, if_pos q1]
      simp (disch := omega) only [zlit, zz, if_pos, if_neg, if_true, if_false, zgd', zl, zbs, zbz, encz, g6, k5]
      exact ⟨_, _, rfl, rfl, rfl⟩
    rw [if_neg q1, if_neg q1]
    by_cases q2 : p2 = 2
    · rw [if_pos q2, if_pos q2]
      simp (disch := omega) only [zlit, zz, if_pos, if_neg, if_true, if_false, zgd', zl, zbs, zbz, encz, g7, k6]
      exact ⟨_, _, rfl, rfl, rfl⟩
    rw [if_neg q2, if_neg q2]
    by_cases q3 : p2 = 3
    · rw [if_pos q3, if_pos q3]
      simp (disch := omega) only [zlit, zz, if_pos, if_neg, if_true, if_false, zgd', zl, zbs, zbz, encz, g4, k4]
      exact ⟨_, _, rfl, rfl, rfl⟩
    rw [if_neg q3, if_neg q3]
    by_cases q4 : p2 = 4
    · rw [if_pos q4, if_pos q4]
      obtain ⟨i, i1, i2⟩ := firstIx_mem (odR_mem.mpr hg)
      obtain ⟨p, p1', p2'⟩ := sX10_fate_L86 (l := odR r) hN hg w3 (odR_len r) (fun x hx => odR_mem.mp hx) w.2.1 w.2.2.1 w.2.2.2.2.1 w.2.2.2.2.2.1 w.2.2.2.2.2.2.1 w.2.2.2.2.2.2.2.1 w.2.2.2.2.2.2.2.2.1 w.2.2.2.2.2.2.2.2.2.1 w.2.2.2.2.2.2.2.2.2.2.1 w.2.2.2.2.2.2.2.2.2.2.2.1 w.2.2.2.2.2.2.2.2.2.2.2.2.1 w.2.2.2.2.2.2.2.2.2.2.2.2.2.1 w.2.2.2.2.2.2.2.2.2.2.2.2.2.2.1 w.2.2.2.2.2.2.2.2.2.2.2.2.2.2.2.1 w.2.2.2.2.2.2.2.2.2.2.2.2.2.2.2.2.1 w.2.2.2.2.2.2.2.2.2.2.2.2.2.2.2.2.2.1 w.2.2.2.2.2.2.2.2.2.2.2.2.2.2.2.2.2.2 (rN r) fuel 0 i (by omega) (by omega) (by rw [List.drop_zero]; exact i1)
      rw [c1, sX3_placeOf hf hN hg y3 (odR_len r) (fun x hx => odR_mem.mp hx), zbs]
      refine ⟨_, p, rfl, p1', ?_⟩
      rw [p2', i1, Nat.zero_add]
      rfl
    rw [if_neg q4, if_neg q4]
    by_cases q5 : p2 = 5
    · rw [if_pos q5, if_pos q5]
      simp (disch := omega) only [zlit, zz, if_pos, if_neg, if_true, if_false, zgd', zl, zbs, zbz, encz, g5, k7]
      exact ⟨_, _, rfl, rfl, rfl⟩
    rw [if_neg q5, if_neg q5]
    exact ⟨_, _, rfl, rfl, rfl⟩
  · rw [← c1] at a1
    rw [← m1] at a2
    rw [a1, a2, zbs, zbs, e0, if_pos z00, if_pos z00]
    exact ⟨_, _, rfl, rfl, rfl⟩
theorem okO_split {r : SR} {k : Nat} : okO r ((odR r).take k ++ (odR r).drop k) := by rw [List.take_append_drop]; exact okO_od r
theorem arr_take {a : Nat → Int32} {l : List Nat} {k : Nat} (h : arr a l) : arr a (l.take k) := fun i x hx => by
  rw [List.getElem?_take] at hx
  split at hx
  · exact h i x hx
  · cases hx
theorem u_then {r : SR} (fuel : Nat) (d_guests : Int32) (d_kinds : Nat → Int32) (d_figures : Nat → Int32) (d_minutes : Nat → Int32) (d_settings : Nat → Int32) (d_hooks : Int32) (d_letters : Nat → Int32) (d_letterCount : Int32) (n_room : Nat) (n_order : Nat → Int32) (n_weights : Nat → Int32) (n_black : Nat → Int32) (n_lifts : Nat → Int32) (n_begins : Nat → Int32) (n_ends : Nat → Int32) (n_has : Nat → Int32) (n_lifted : Nat → Int32) (n_allLifts : Int32) (n_doneAt : Int32) (y_going : Nat → Int32) (y_coming : Nat → Int32) (y_holds : Int32) (y_latest : Int32) (b_heaps : Int32) (b_piles : Nat → Nat → Int32) (b_heights : Nat → Int32) (b_spots : Nat → Int32) (ad_d : Nat → Nat) (p1 : Int32) (p2 : Int32) (p3 : Int32) (M_guests : Int32) (M_kind : Nat → Int32) (M_figure : Nat → Int32) (M_told : Nat → Int32) (M_heaps : Int32) (M_holds : Int32) (M_back : Int32) (M_mistakes : Int32) (M_hooks : Int32) (M_letters : Int32) (M_rule : Nat → Int32) (M_coming : Nat → Int32) (M_comingMany : Int32) (M_going : Nat → Int32) (M_goingMany : Int32) (M_minute : Nat → Int32) (M_pile : Nat → Int32) (M_high : Nat → Int32) (M_where : Nat → Int32) (M_latest : Int32) (M_lifts : Nat → Int32) (M_begun : Nat → Int32) (M_left : Nat → Int32) (M_has : Nat → Int32) (M_lifted : Nat → Int32) (M_taken : Nat → Int32) (M_above : Nat → Int32) (M_allLifts : Int32) (M_busy : Int32) (hf : 100 < fuel) (hr : okR r) (hc : cR r d_guests d_kinds d_figures d_minutes d_settings d_hooks d_letters d_letterCount) (hm : mR r M_guests M_kind M_figure M_told M_heaps M_holds M_back M_mistakes M_hooks M_letters M_rule) : ∃ o p, fX9_then fuel d_guests d_kinds d_figures d_minutes d_settings d_hooks d_letters d_letterCount n_room n_order n_weights n_black n_lifts n_begins n_ends n_has n_lifted n_allLifts n_doneAt y_going y_coming y_holds y_latest b_heaps b_piles b_heights b_spots ad_d p1 p2 p3 = some o ∧ fX10_then fuel M_guests M_kind M_figure M_told M_heaps M_holds M_back M_mistakes M_hooks M_letters M_rule M_coming M_comingMany M_going M_goingMany M_minute M_pile M_high M_where M_latest M_lifts M_begun M_left M_has M_lifted M_taken M_above M_allLifts M_busy p1 p2 p3 = some p ∧ o.1 = p.1 := by
  have hN := hr.1
  unfold fX9_then fX10_then
  have c1 := hc.1
  have m1 := hm.1
  have e0 : (0 : Int32) = nI 0 := rfl
  have e2 : (2 : Int32) = nI 2 := rfl
  have e4 : (-4 : Int32) = enc none := rfl
  have em : (1000000 : Int32) = nI 1000000 := rfl
  have e10 : (10 : Int32) = nI 10 := rfl
  rw [e0, e2, e4, em, e10, sX10_isIn, zbs]
  rcases icase p1 with h | ⟨k, hk, rfl⟩
  · have hz := zneg h
    have hd : decide (nI 0 ≤ p1 ∧ p1 ≤ M_guests) = false := decide_eq_false (fun q => by rw [hz.1 0 (by decide)] at q; exact q.1)
    rw [if_pos h, hd]
    simp (disch := omega) only [zlit, zz, if_pos, if_neg, if_true, if_false, zgd', zl, zbs, zbz, encz]
    exact ⟨_, _, rfl, rfl, rfl⟩
  · by_cases q : k ≤ rN r
    · have hd : decide (nI 0 ≤ nI k ∧ nI k ≤ M_guests) = true := decide_eq_true ⟨(nI_leI (by decide) hk).mpr (Nat.zero_le _), by rw [m1]; exact (nI_leI hk (by omega)).mpr q⟩
      rw [hd, if_neg (by rw [nI_ltI hk (by decide)]; omega), if_neg (by rw [c1, nI_ltI (by omega) hk]; omega)]
      have ht : zb01 true = nI 1 := rfl
      rw [ht, if_neg z10]
      rcases hcase (fuel := fuel) p2 with ⟨h, h3, rfl, a1, a2⟩ | ⟨a1, a2⟩
      · rw [a1, a2, zbs, zbs, if_neg z10, if_neg z10]
        by_cases q3 : nI 0 ≤ p3
        · rw [if_pos q3, if_pos q3]
          rcases icase p3 with h' | ⟨j, hj, rfl⟩
          · exact absurd q3 (by rw [(zneg h').1 0 (by decide)]; exact id)
          · obtain ⟨b, b1, b2, b3, b4, b5, b6⟩ := sX3_beginR hf hr hc n_order n_weights n_black y_going y_coming
            obtain ⟨y, y1, y2, y3, y4⟩ := sX2_layR hf hr hc (okO_range r) b5 b6 y_holds y_latest b_heaps b_piles b_heights b_spots
            have htl : ((odR r).take k).length = k := by rw [List.length_take, odR_len, Nat.min_eq_left q]
            obtain ⟨g, g1, g2, g3, g4, g5, g6⟩ := sX3_letGo (tp := none) (se := d_settings) hf hr b4 b3 b5 hc.2.2.2.2.2.1 hc.2.2.2.2.1 (fun t ht => by cases ht) (okO_range r) (okO_split (k := k)) (LI_R hr (okO_range r)) (arr_take b2) y3 y4 n_lifts n_begins n_ends n_has n_lifted n_allLifts n_doneAt
            rw [htl, ← c1] at g1
            rw [b1, zbs, y1, zbs, y2, g1, zbs]
            obtain ⟨u, u1, u2, u3, u4, u5, u6⟩ := sX10_usualR hf hr hm M_coming M_comingMany M_going M_goingMany M_minute
            obtain ⟨w, w1, w2, w3⟩ := sX10_layR (fuel := fuel) hf hr ⟨M_told, hm⟩ u6 (okC_range hr) u2 M_pile M_high M_where M_latest
            rw [List.length_range] at w1
            have htn : none = tpS (mnR r) 1000000 ((odR r).take k) := (tpS_never (fun x hx => by have := mnR_lt hr (odR_mem.mp (List.mem_of_mem_take hx)); omega)).symm
            obtain ⟨v, v1, v2, v3, v4, v5⟩ := sX10_go (fuel := fuel) (t := 1000000) (rest := (odR r).drop k) hf hr ⟨M_told, hm⟩ u6 (okC_range hr) (by rw [List.take_append_drop]; exact odR_perm r) (LI_C hr (okC_range hr)) w3 (by decide) (arr_take u4) htn w2 M_lifts M_begun M_left M_has M_lifted M_taken M_above M_allLifts M_busy
            rw [htl] at v1
            rw [u1, zbs, u3, w1, zbs, v1, zbs]
            rw [sX0_coatAt g6 g3.1 h3 hj, zbs]
            have hkk := g3.1
            have hl := (hkk h).1
            have bb := v5 h h3
            generalize (goR r (layR r (List.range (rN r))) none ((odR r).take k)).1 = HH at *
            by_cases q4 : (HH h).length ≤ j
            · simp (disch := omega) only [zlit, zz, if_pos, if_neg, if_true, if_false, zgd', zl, zbs, zbz, encz, bb.1]
              refine ⟨_, _, rfl, rfl, ?_⟩
              rw [List.getElem?_eq_none q4]; rfl
            · have hcc := List.getElem?_eq_getElem (l := HH h) (i := j) (by omega)
              have := bb.2 j _ hcc
              rw [hcc]
              simp (disch := omega) only [zlit, zz, if_pos, if_neg, if_true, if_false, zgd', zl, zbs, zbz, encz, bb.1, this]
              exact ⟨_, _, rfl, rfl, rfl⟩
        · rw [if_neg q3, if_neg q3]
          exact ⟨_, _, rfl, rfl, rfl⟩
      · rw [a1, a2, zbs, zbs, if_pos z00, if_pos z00]
        exact ⟨_, _, rfl, rfl, rfl⟩
    · have hd : decide (nI 0 ≤ nI k ∧ nI k ≤ M_guests) = false := decide_eq_false (fun h => q (by rw [m1] at h; exact (nI_leI hk (by omega)).mp h.2))
      rw [hd, if_neg (by rw [nI_ltI hk (by decide)]; omega), if_pos (by rw [c1, nI_ltI (by omega) hk]; omega)]
      simp (disch := omega) only [zlit, zz, if_pos, if_neg, if_true, if_false, zgd', zl, zbs, zbz, encz]
      exact ⟨_, _, rfl, rfl, rfl⟩
