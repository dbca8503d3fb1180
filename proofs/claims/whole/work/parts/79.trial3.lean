/-! The calls: rival, bestRule, enough. -/
theorem upd_back (f : Nat → Int32) (k : Nat) (v : Int32) : upd (upd f k v) k (f k) = f := by
  funext x
  unfold upd
  split
  · rename_i q; rw [q]
  · rfl
theorem sX10_byLetter {r : SR} (fuel : Nat) (M_guests : Int32) (M_kind : Nat → Int32) (M_figure : Nat → Int32) (M_told : Nat → Int32) (M_heaps : Int32) (M_holds : Int32) (M_back : Int32) (M_mistakes : Int32) (M_hooks : Int32) (M_letters : Int32) (M_rule : Nat → Int32) (M_coming : Nat → Int32) (M_comingMany : Int32) (M_going : Nat → Int32) (M_goingMany : Int32) (M_minute : Nat → Int32) (M_pile : Nat → Int32) (M_high : Nat → Int32) (M_where : Nat → Int32) (M_latest : Int32) (M_lifts : Nat → Int32) (M_begun : Nat → Int32) (M_left : Nat → Int32) (M_has : Nat → Int32) (M_lifted : Nat → Int32) (M_taken : Nat → Int32) (M_above : Nat → Int32) (M_allLifts : Int32) (M_busy : Int32) (p1 : Int32) {v : Nat} (hf : 100 < fuel) (hr : okR r) (hv : v ≤ 5) (hm : mR r M_guests M_kind M_figure M_told M_heaps M_holds M_back M_mistakes M_hooks M_letters M_rule) (h : p1 = nI v) : ∃ p, fX10_byLetter fuel M_guests M_kind M_figure M_told M_heaps M_holds M_back M_mistakes M_hooks M_letters M_rule M_coming M_comingMany M_going M_goingMany M_minute M_pile M_high M_where M_latest M_lifts M_begun M_left M_has M_lifted M_taken M_above M_allLifts M_busy p1 = some p ∧ p.1 = nI (sAll (nightR (rRule r [v]))) ∧ p.2.1 = M_letters ∧ p.2.2.1 = M_rule := by
  obtain ⟨a1, a2, a3, a4, a5, a6, a7, a8, a9⟩ := hm
  subst h
  unfold fX10_byLetter
  have hm2 : mR (rRule r [v]) M_guests M_kind M_figure M_told M_heaps M_holds M_back M_mistakes M_hooks 1 (upd M_rule 0 (nI v)) := ⟨a1, a2, a3, a4, a5, a6, a7, rfl, fun i x hx => by
    cases i with
    | zero =>
      cases hx
      exact ⟨rfl, hv⟩
    | succ i => simp [rL, rRule] at hx⟩
  obtain ⟨w, w1, w2, -⟩ := sX10_night hf (ok_rule hr (by simp) (fun x hx => by rw [List.mem_singleton.mp hx]; exact hv)) hm2 M_coming M_comingMany M_going M_goingMany M_minute M_pile M_high M_where M_latest M_lifts M_begun M_left M_has M_lifted M_taken M_above M_allLifts M_busy
  rw [zl, zl, w1, zbs, zl]
  exact ⟨_, rfl, w2, rfl, upd_back _ _ _⟩
theorem u_rival {r : SR} (fuel : Nat) (d_guests : Int32) (d_kinds : Nat → Int32) (d_figures : Nat → Int32) (d_minutes : Nat → Int32) (d_settings : Nat → Int32) (d_hooks : Int32) (d_letters : Nat → Int32) (d_letterCount : Int32) (t_guests : Int32) (t_kinds : Nat → Int32) (t_figures : Nat → Int32) (t_minutes : Nat → Int32) (t_settings : Nat → Int32) (t_hooks : Int32) (t_letters : Nat → Int32) (t_letterCount : Int32) (m_room : Nat) (m_order : Nat → Int32) (m_weights : Nat → Int32) (m_black : Nat → Int32) (m_lifts : Nat → Int32) (m_begins : Nat → Int32) (m_ends : Nat → Int32) (m_has : Nat → Int32) (m_lifted : Nat → Int32) (m_allLifts : Int32) (m_doneAt : Int32) (z_going : Nat → Int32) (z_coming : Nat → Int32) (z_holds : Int32) (z_latest : Int32) (c_heaps : Int32) (c_piles : Nat → Nat → Int32) (c_heights : Nat → Int32) (c_spots : Nat → Int32) (ad_t : Nat → Nat) (p1 : Int32) (M_guests : Int32) (M_kind : Nat → Int32) (M_figure : Nat → Int32) (M_told : Nat → Int32) (M_heaps : Int32) (M_holds : Int32) (M_back : Int32) (M_mistakes : Int32) (M_hooks : Int32) (M_letters : Int32) (M_rule : Nat → Int32) (M_coming : Nat → Int32) (M_comingMany : Int32) (M_going : Nat → Int32) (M_goingMany : Int32) (M_minute : Nat → Int32) (M_pile : Nat → Int32) (M_high : Nat → Int32) (M_where : Nat → Int32) (M_latest : Int32) (M_lifts : Nat → Int32) (M_begun : Nat → Int32) (M_left : Nat → Int32) (M_has : Nat → Int32) (M_lifted : Nat → Int32) (M_taken : Nat → Int32) (M_above : Nat → Int32) (M_allLifts : Int32) (M_busy : Int32) (hf : 100 < fuel) (hr : okR r) (hc : cR r d_guests d_kinds d_figures d_minutes d_settings d_hooks d_letters d_letterCount) (hm : mR r M_guests M_kind M_figure M_told M_heaps M_holds M_back M_mistakes M_hooks M_letters M_rule) : ∃ o p, fX9_rival fuel d_guests d_kinds d_figures d_minutes d_settings d_hooks d_letters d_letterCount t_guests t_kinds t_figures t_minutes t_settings t_hooks t_letters t_letterCount m_room m_order m_weights m_black m_lifts m_begins m_ends m_has m_lifted m_allLifts m_doneAt z_going z_coming z_holds z_latest c_heaps c_piles c_heights c_spots ad_t p1 = some o ∧ fX10_rival fuel M_guests M_kind M_figure M_told M_heaps M_holds M_back M_mistakes M_hooks M_letters M_rule M_coming M_comingMany M_going M_goingMany M_minute M_pile M_high M_where M_latest M_lifts M_begun M_left M_has M_lifted M_taken M_above M_allLifts M_busy p1 = some p ∧ o.1 = p.1 ∧ p.2.1 = M_letters ∧ p.2.2.1 = M_rule := by
  unfold fX9_rival fX10_rival
  have e0 : (0 : Int32) = nI 0 := rfl
  have e5 : (5 : Int32) = nI 5 := rfl
  have e6 : (6 : Int32) = nI 6 := rfl
  rw [sX10_isIn, e0, e5, e6, zbs]
  rcases icase p1 with h | ⟨k, hk, rfl⟩
  · have : decide (nI 0 ≤ p1 ∧ p1 ≤ nI 5) = false := decide_eq_false (fun q => by rw [(zneg h).1 0 (by decide)] at q; exact q.1)
    rw [if_pos h, this, if_pos (show zb01 false = nI 0 from rfl)]
    exact ⟨_, _, rfl, rfl, rfl, rfl, rfl⟩
  · by_cases q : k ≤ 5
    · rw [if_neg (by rw [nI_ltI hk (by decide)]; omega), if_neg (by rw [nI_leI (by decide) hk]; omega), decide_eq_true ⟨(nI_leI (by decide) hk).mpr (Nat.zero_le _), (nI_leI hk (by decide)).mpr q⟩, if_neg (show ¬ zb01 true = nI 0 from z10)]
      obtain ⟨y, y1, y2⟩ := sX8_liftsWithLetter fuel t_guests t_kinds t_figures t_minutes t_settings t_hooks t_letters t_letterCount m_order m_weights m_black m_lifts m_begins m_ends m_has m_lifted m_allLifts m_doneAt z_going z_coming z_holds z_latest c_heaps c_piles c_heights c_spots d_guests d_kinds d_figures d_minutes d_settings d_hooks d_letters d_letterCount (nI k) hf hr q hc rfl
      obtain ⟨w, w1, w2, w3, w4⟩ := sX10_byLetter fuel M_guests M_kind M_figure M_told M_heaps M_holds M_back M_mistakes M_hooks M_letters M_rule M_coming M_comingMany M_going M_goingMany M_minute M_pile M_high M_where M_latest M_lifts M_begun M_left M_has M_lifted M_taken M_above M_allLifts M_busy (nI k) hf hr q hm rfl
      rw [y1, w1, zbs, zbs]
      exact ⟨_, _, rfl, rfl, by rw [y2, w2], w3, w4⟩
    · rw [if_neg (by rw [nI_ltI hk (by decide)]; omega), if_pos (by rw [nI_leI (by decide) hk]; omega), decide_eq_false (fun h => q ((nI_leI hk (by decide)).mp h.2)), if_pos (show zb01 false = nI 0 from rfl)]
      exact ⟨_, _, rfl, rfl, rfl, rfl, rfl⟩
theorem sX9_bestRule_L17 {r : SR} (fuel : Nat) (d_guests : Int32) (d_kinds : Nat → Int32) (d_figures : Nat → Int32) (d_minutes : Nat → Int32) (d_settings : Nat → Int32) (d_hooks : Int32) (d_letters : Nat → Int32) (d_letterCount : Int32) (hf : 100 < fuel) (hr : okR r) (hc : cR r d_guests d_kinds d_figures d_minutes d_settings d_hooks d_letters d_letterCount) :
    ∀ (m n i b : Nat) (t_guests : Int32) (t_kinds : Nat → Int32) (t_figures : Nat → Int32) (t_minutes : Nat → Int32) (t_settings : Nat → Int32) (t_hooks : Int32) (t_letters : Nat → Int32) (t_letterCount : Int32) (m_order : Nat → Int32) (m_weights : Nat → Int32) (m_black : Nat → Int32) (m_lifts : Nat → Int32) (m_begins : Nat → Int32) (m_ends : Nat → Int32) (m_has : Nat → Int32) (m_lifted : Nat → Int32) (m_allLifts : Int32) (m_doneAt : Int32) (z_going : Nat → Int32) (z_coming : Nat → Int32) (z_holds : Int32) (z_latest : Int32) (c_heaps : Int32) (c_piles : Nat → Nat → Int32) (c_heights : Nat → Int32) (c_spots : Nat → Int32), i + m = 6 → m < n → b ≤ 5 → ∃ o, fX9_bestRule_L17 fuel d_guests d_kinds d_figures d_minutes d_settings d_hooks d_letters d_letterCount n (nI b) (nI (sAll (nightR (rRule r [b])))) (nI i) t_guests t_kinds t_figures t_minutes t_settings t_hooks t_letters t_letterCount m_order m_weights m_black m_lifts m_begins m_ends m_has m_lifted m_allLifts m_doneAt z_going z_coming z_holds z_latest c_heaps c_piles c_heights c_spots = some o ∧ o.1 = nI (bsS (fun v => sAll (nightR (rRule r [v]))) m i b) := by
  have okr : ∀ v, v ≤ 5 → okR (rRule r [v]) := fun v hv => ok_rule hr (by simp) (fun x hx => by rw [List.mem_singleton.mp hx]; exact hv)
  intro m
  induction m with
  | zero =>
    intro n i b t_guests t_kinds t_figures t_minutes t_settings t_hooks t_letters t_letterCount m_order m_weights m_black m_lifts m_begins m_ends m_has m_lifted m_allLifts m_doneAt z_going z_coming z_holds z_latest c_heaps c_piles c_heights c_spots h1 h2 hb
    obtain ⟨n, rfl⟩ : ∃ k, n = k + 1 := ⟨n - 1, by omega⟩
    rw [fX9_bestRule_L17]
    simp (disch := omega) only [zlit, zz, if_pos, if_neg, if_true, if_false, zgd', zl, zbs, zbz, encz]
    exact ⟨_, rfl, rfl⟩
  | succ m ih =>
    intro n i b t_guests t_kinds t_figures t_minutes t_settings t_hooks t_letters t_letterCount m_order m_weights m_black m_lifts m_begins m_ends m_has m_lifted m_allLifts m_doneAt z_going z_coming z_holds z_latest c_heaps c_piles c_heights c_spots h1 h2 hb
    obtain ⟨n, rfl⟩ : ∃ k, n = k + 1 := ⟨n - 1, by omega⟩
    have hi : i ≤ 5 := by omega
    obtain ⟨y, y1, y2⟩ := sX8_liftsWithLetter fuel t_guests t_kinds t_figures t_minutes t_settings t_hooks t_letters t_letterCount m_order m_weights m_black m_lifts m_begins m_ends m_has m_lifted m_allLifts m_doneAt z_going z_coming z_holds z_latest c_heaps c_piles c_heights c_spots d_guests d_kinds d_figures d_minutes d_settings d_hooks d_letters d_letterCount (nI i) hf hr hi hc rfl
    have a1 := all_le (okr i hi)
    have a2 := all_le (okr b hb)
    rw [fX9_bestRule_L17, bsS]
    by_cases q : sAll (nightR (rRule r [i])) < sAll (nightR (rRule r [b]))
    · rw [if_pos q]
      simp (disch := omega) only [zlit, zz, if_pos, if_neg, if_true, if_false, zgd', zl, zbs, zbz, encz, y1, y2, fX9_bestRule_J50]
      exact ih n (i + 1) i _ _ _ _ _ _ _ _ _ _ _ _ _ _ _ _ _ _ _ _ _ _ _ _ _ _ (by omega) (by omega) hi
    · rw [if_neg q]
      simp (disch := omega) only [zlit, zz, if_pos, if_neg, if_true, if_false, zgd', zl, zbs, zbz, encz, y1, y2, fX9_bestRule_J50]
      exact ih n (i + 1) b _ _ _ _ _ _ _ _ _ _ _ _ _ _ _ _ _ _ _ _ _ _ _ _ _ _ (by omega) (by omega) hb
theorem sX10_bestRule_L4 {r : SR} (fuel : Nat) (M_guests : Int32) (M_kind : Nat → Int32) (M_figure : Nat → Int32) (M_told : Nat → Int32) (M_heaps : Int32) (M_holds : Int32) (M_back : Int32) (M_mistakes : Int32) (M_hooks : Int32) (M_letters : Int32) (M_rule : Nat → Int32) (hf : 100 < fuel) (hr : okR r) (hm : mR r M_guests M_kind M_figure M_told M_heaps M_holds M_back M_mistakes M_hooks M_letters M_rule) :
    ∀ (m n i b : Nat) (M_coming : Nat → Int32) (M_comingMany : Int32) (M_going : Nat → Int32) (M_goingMany : Int32) (M_minute : Nat → Int32) (M_pile : Nat → Int32) (M_high : Nat → Int32) (M_where : Nat → Int32) (M_latest : Int32) (M_lifts : Nat → Int32) (M_begun : Nat → Int32) (M_left : Nat → Int32) (M_has : Nat → Int32) (M_lifted : Nat → Int32) (M_taken : Nat → Int32) (M_above : Nat → Int32) (M_allLifts : Int32) (M_busy : Int32), i + m = 6 → m < n → b ≤ 5 → ∃ p, fX10_bestRule_L4 fuel M_guests M_kind M_figure M_told M_heaps M_holds M_back M_mistakes M_hooks n (nI b) (nI i) M_letters M_rule M_coming M_comingMany M_going M_goingMany M_minute M_pile M_high M_where M_latest M_lifts M_begun M_left M_has M_lifted M_taken M_above M_allLifts M_busy = some p ∧ p.1 = nI (bsS (fun v => sAll (nightR (rRule r [v]))) m i b) ∧ p.2.1 = M_letters ∧ p.2.2.1 = M_rule := by
  have okr : ∀ v, v ≤ 5 → okR (rRule r [v]) := fun v hv => ok_rule hr (by simp) (fun x hx => by rw [List.mem_singleton.mp hx]; exact hv)
  intro m
  induction m with
  | zero =>
    intro n i b M_coming M_comingMany M_going M_goingMany M_minute M_pile M_high M_where M_latest M_lifts M_begun M_left M_has M_lifted M_taken M_above M_allLifts M_busy h1 h2 hb
    obtain ⟨n, rfl⟩ : ∃ k, n = k + 1 := ⟨n - 1, by omega⟩
    rw [fX10_bestRule_L4]
    simp (disch := omega) only [zlit, zz, if_pos, if_neg, if_true, if_false, zgd', zl, zbs, zbz, encz]
    exact ⟨_, rfl, rfl, rfl, rfl⟩
  | succ m ih =>
    intro n i b M_coming M_comingMany M_going M_goingMany M_minute M_pile M_high M_where M_latest M_lifts M_begun M_left M_has M_lifted M_taken M_above M_allLifts M_busy h1 h2 hb
    obtain ⟨n, rfl⟩ : ∃ k, n = k + 1 := ⟨n - 1, by omega⟩
    have hi : i ≤ 5 := by omega
    obtain ⟨w, w1, w2, w3, w4⟩ := sX10_byLetter fuel M_guests M_kind M_figure M_told M_heaps M_holds M_back M_mistakes M_hooks M_letters M_rule M_coming M_comingMany M_going M_goingMany M_minute M_pile M_high M_where M_latest M_lifts M_begun M_left M_has M_lifted M_taken M_above M_allLifts M_busy (nI i) hf hr hi hm rfl
    obtain ⟨v, v1, v2, v3, v4⟩ := sX10_byLetter fuel M_guests M_kind M_figure M_told M_heaps M_holds M_back M_mistakes M_hooks M_letters M_rule w.2.2.2.1 w.2.2.2.2.1 w.2.2.2.2.2.1 w.2.2.2.2.2.2.1 w.2.2.2.2.2.2.2.1 w.2.2.2.2.2.2.2.2.1 w.2.2.2.2.2.2.2.2.2.1 w.2.2.2.2.2.2.2.2.2.2.1 w.2.2.2.2.2.2.2.2.2.2.2.1 w.2.2.2.2.2.2.2.2.2.2.2.2.1 w.2.2.2.2.2.2.2.2.2.2.2.2.2.1 w.2.2.2.2.2.2.2.2.2.2.2.2.2.2.1 w.2.2.2.2.2.2.2.2.2.2.2.2.2.2.2.1 w.2.2.2.2.2.2.2.2.2.2.2.2.2.2.2.2.1 w.2.2.2.2.2.2.2.2.2.2.2.2.2.2.2.2.2.1 w.2.2.2.2.2.2.2.2.2.2.2.2.2.2.2.2.2.2.1 w.2.2.2.2.2.2.2.2.2.2.2.2.2.2.2.2.2.2.2.1 w.2.2.2.2.2.2.2.2.2.2.2.2.2.2.2.2.2.2.2.2 (nI b) hf hr hb hm rfl
    have a1 := all_le (okr i hi)
    have a2 := all_le (okr b hb)
    rw [fX10_bestRule_L4, bsS]
    by_cases q : sAll (nightR (rRule r [i])) < sAll (nightR (rRule r [b]))
    · rw [if_pos q]
      simp (disch := omega) only [zlit, zz, if_pos, if_neg, if_true, if_false, zgd', zl, zbs, zbz, encz, w1, w2, w3, w4, v1, v2, v3, v4]
      exact ih n (i + 1) i _ _ _ _ _ _ _ _ _ _ _ _ _ _ _ _ _ _ (by omega) (by omega) hi
    · rw [if_neg q]
      simp (disch := omega) only [zlit, zz, if_pos, if_neg, if_true, if_false, zgd', zl, zbs, zbz, encz, w1, w2, w3, w4, v1, v2, v3, v4]
      exact ih n (i + 1) b _ _ _ _ _ _ _ _ _ _ _ _ _ _ _ _ _ _ (by omega) (by omega) hb
theorem u_bestRule {r : SR} (fuel : Nat) (d_guests : Int32) (d_kinds : Nat → Int32) (d_figures : Nat → Int32) (d_minutes : Nat → Int32) (d_settings : Nat → Int32) (d_hooks : Int32) (d_letters : Nat → Int32) (d_letterCount : Int32) (t_guests : Int32) (t_kinds : Nat → Int32) (t_figures : Nat → Int32) (t_minutes : Nat → Int32) (t_settings : Nat → Int32) (t_hooks : Int32) (t_letters : Nat → Int32) (t_letterCount : Int32) (m_order : Nat → Int32) (m_weights : Nat → Int32) (m_black : Nat → Int32) (m_lifts : Nat → Int32) (m_begins : Nat → Int32) (m_ends : Nat → Int32) (m_has : Nat → Int32) (m_lifted : Nat → Int32) (m_allLifts : Int32) (m_doneAt : Int32) (z_going : Nat → Int32) (z_coming : Nat → Int32) (z_holds : Int32) (z_latest : Int32) (c_heaps : Int32) (c_piles : Nat → Nat → Int32) (c_heights : Nat → Int32) (c_spots : Nat → Int32) (M_guests : Int32) (M_kind : Nat → Int32) (M_figure : Nat → Int32) (M_told : Nat → Int32) (M_heaps : Int32) (M_holds : Int32) (M_back : Int32) (M_mistakes : Int32) (M_hooks : Int32) (M_letters : Int32) (M_rule : Nat → Int32) (M_coming : Nat → Int32) (M_comingMany : Int32) (M_going : Nat → Int32) (M_goingMany : Int32) (M_minute : Nat → Int32) (M_pile : Nat → Int32) (M_high : Nat → Int32) (M_where : Nat → Int32) (M_latest : Int32) (M_lifts : Nat → Int32) (M_begun : Nat → Int32) (M_left : Nat → Int32) (M_has : Nat → Int32) (M_lifted : Nat → Int32) (M_taken : Nat → Int32) (M_above : Nat → Int32) (M_allLifts : Int32) (M_busy : Int32) (hf : 100 < fuel) (hr : okR r) (hc : cR r d_guests d_kinds d_figures d_minutes d_settings d_hooks d_letters d_letterCount) (hm : mR r M_guests M_kind M_figure M_told M_heaps M_holds M_back M_mistakes M_hooks M_letters M_rule) : ∃ o p, fX9_bestRule fuel d_guests d_kinds d_figures d_minutes d_settings d_hooks d_letters d_letterCount t_guests t_kinds t_figures t_minutes t_settings t_hooks t_letters t_letterCount m_order m_weights m_black m_lifts m_begins m_ends m_has m_lifted m_allLifts m_doneAt z_going z_coming z_holds z_latest c_heaps c_piles c_heights c_spots = some o ∧ fX10_bestRule fuel M_guests M_kind M_figure M_told M_heaps M_holds M_back M_mistakes M_hooks M_letters M_rule M_coming M_comingMany M_going M_goingMany M_minute M_pile M_high M_where M_latest M_lifts M_begun M_left M_has M_lifted M_taken M_above M_allLifts M_busy = some p ∧ o.1 = p.1 ∧ p.2.1 = M_letters ∧ p.2.2.1 = M_rule := by
  unfold fX9_bestRule fX10_bestRule
  obtain ⟨y, y1, y2⟩ := sX8_liftsWithLetter fuel t_guests t_kinds t_figures t_minutes t_settings t_hooks t_letters t_letterCount m_order m_weights m_black m_lifts m_begins m_ends m_has m_lifted m_allLifts m_doneAt z_going z_coming z_holds z_latest c_heaps c_piles c_heights c_spots d_guests d_kinds d_figures d_minutes d_settings d_hooks d_letters d_letterCount (nI 0) hf hr (Nat.zero_le 5) hc rfl
  have e0 : (0 : Int32) = nI 0 := rfl
  have e1 : (1 : Int32) = nI 1 := rfl
  rw [e0, e1, y1, zbs, y2]
  obtain ⟨p, p1, p2, p3⟩ := sX10_bestRule_L4 fuel M_guests M_kind M_figure M_told M_heaps M_holds M_back M_mistakes M_hooks M_letters M_rule hf hr hm 5 fuel 1 0 M_coming M_comingMany M_going M_goingMany M_minute M_pile M_high M_where M_latest M_lifts M_begun M_left M_has M_lifted M_taken M_above M_allLifts M_busy (by omega) (by omega) (by omega)
  obtain ⟨o, o1, o2⟩ := sX9_bestRule_L17 fuel d_guests d_kinds d_figures d_minutes d_settings d_hooks d_letters d_letterCount hf hr hc 5 fuel 1 0 _ _ _ _ _ _ _ _ _ _ _ _ _ _ _ _ _ _ _ _ _ _ _ _ _ _ (by omega) (by omega) (by omega)
  exact ⟨o, p, o1, p1, by rw [o2, p2], p3⟩
theorem sX9_enough_L15 {r : SR} {v : Nat} (fuel : Nat) (d_guests : Int32) (d_kinds : Nat → Int32) (d_figures : Nat → Int32) (d_minutes : Nat → Int32) (d_settings : Nat → Int32) (d_hooks : Int32) (d_letters : Nat → Int32) (d_letterCount : Int32) (ad_t : Nat → Nat) (p1 : Int32) (hf : 100 < fuel) (hr : okR r) (hc : cR r d_guests d_kinds d_figures d_minutes d_settings d_hooks d_letters d_letterCount) (hv : v ≤ 999) (hp : p1 = nI v) :
    ∀ (m n i : Nat) (t_guests : Int32) (t_kinds : Nat → Int32) (t_figures : Nat → Int32) (t_minutes : Nat → Int32) (t_settings : Nat → Int32) (t_hooks : Int32) (t_letters : Nat → Int32) (t_letterCount : Int32) (m_order : Nat → Int32) (m_weights : Nat → Int32) (m_black : Nat → Int32) (m_lifts : Nat → Int32) (m_begins : Nat → Int32) (m_ends : Nat → Int32) (m_has : Nat → Int32) (m_lifted : Nat → Int32) (m_allLifts : Int32) (m_doneAt : Int32) (z_going : Nat → Int32) (z_coming : Nat → Int32) (z_holds : Int32) (z_latest : Int32) (c_heaps : Int32) (c_piles : Nat → Nat → Int32) (c_heights : Nat → Int32) (c_spots : Nat → Int32) (m_room : Nat), i + m = 4 → m < n → 0 < i → ∃ o, fX9_enough_L15 fuel d_guests d_kinds d_figures d_minutes d_settings d_hooks d_letters d_letterCount ad_t p1 n (nI i) t_guests t_kinds t_figures t_minutes t_settings t_hooks t_letters t_letterCount m_order m_weights m_black m_lifts m_begins m_ends m_has m_lifted m_allLifts m_doneAt z_going z_coming z_holds z_latest c_heaps c_piles c_heights c_spots m_room = some o ∧ o.1 = enc ((List.range' i m).find? fun h => decide (sAll (nightR (rHeaps r h)) ≤ v)) := by
  subst hp
  intro m
  induction m with
  | zero =>
    intro n i t_guests t_kinds t_figures t_minutes t_settings t_hooks t_letters t_letterCount m_order m_weights m_black m_lifts m_begins m_ends m_has m_lifted m_allLifts m_doneAt z_going z_coming z_holds z_latest c_heaps c_piles c_heights c_spots m_room h1 h2 hi0
    obtain ⟨n, rfl⟩ : ∃ k, n = k + 1 := ⟨n - 1, by omega⟩
    rw [fX9_enough_L15]
    simp (disch := omega) only [zlit, zz, if_pos, if_neg, if_true, if_false, zgd', zl, zbs, zbz, encz]
    exact ⟨_, rfl, rfl⟩
  | succ m ih =>
    intro n i t_guests t_kinds t_figures t_minutes t_settings t_hooks t_letters t_letterCount m_order m_weights m_black m_lifts m_begins m_ends m_has m_lifted m_allLifts m_doneAt z_going z_coming z_holds z_latest c_heaps c_piles c_heights c_spots m_room h1 h2 hi0
    obtain ⟨n, rfl⟩ : ∃ k, n = k + 1 := ⟨n - 1, by omega⟩
    have hi : i ≤ 3 := by omega
    obtain ⟨y, y1, y2⟩ := sX8_liftsWith_h fuel t_guests t_kinds t_figures t_minutes t_settings t_hooks t_letters t_letterCount m_order m_weights m_black m_lifts m_begins m_ends m_has m_lifted m_allLifts m_doneAt z_going z_coming z_holds z_latest c_heaps c_piles c_heights c_spots d_guests d_kinds d_figures d_minutes d_settings d_hooks d_letters d_letterCount (nI 0) (nI i) hf hr hi0 hi hc rfl rfl
    have a1 := all_le (ok_heaps hr hi0 hi)
    rw [fX9_enough_L15, List.range'_succ, List.find?_cons]
    by_cases q : sAll (nightR (rHeaps r i)) ≤ v
    · rw [decide_eq_true q]
      simp (disch := omega) only [zlit, zz, if_pos, if_neg, if_true, if_false, zgd', zl, zbs, zbz, encz, y1, y2]
      exact ⟨_, rfl, rfl⟩
    · rw [decide_eq_false q]
      simp (disch := omega) only [zlit, zz, if_pos, if_neg, if_true, if_false, zgd', zl, zbs, zbz, encz, y1, y2]
      exact ih n (i + 1) _ _ _ _ _ _ _ _ _ _ _ _ _ _ _ _ _ _ _ _ _ _ _ _ _ _ _ (by omega) (by omega) (by omega)
theorem sX10_enough_L24 {r : SR} {v : Nat} (fuel : Nat) (M_guests : Int32) (M_kind : Nat → Int32) (M_figure : Nat → Int32) (M_told : Nat → Int32) (M_holds : Int32) (M_back : Int32) (M_mistakes : Int32) (M_hooks : Int32) (M_letters : Int32) (M_rule : Nat → Int32) (p1 : Int32) (M_heaps : Int32) (hf : 100 < fuel) (hr : okR r) (hm : mR r M_guests M_kind M_figure M_told M_heaps M_holds M_back M_mistakes M_hooks M_letters M_rule) (hv : v ≤ 999) (hp : p1 = nI v) (had : Int32) :
    ∀ (m n : Nat) (fo : Option Nat) (M_heaps : Int32) (M_coming : Nat → Int32) (M_comingMany : Int32) (M_going : Nat → Int32) (M_goingMany : Int32) (M_minute : Nat → Int32) (M_pile : Nat → Int32) (M_high : Nat → Int32) (M_where : Nat → Int32) (M_latest : Int32) (M_lifts : Nat → Int32) (M_begun : Nat → Int32) (M_left : Nat → Int32) (M_has : Nat → Int32) (M_lifted : Nat → Int32) (M_taken : Nat → Int32) (M_above : Nat → Int32) (M_allLifts : Int32) (M_busy : Int32), m ≤ 3 → m < n → ∃ p, fX10_enough_L24 fuel M_guests M_kind M_figure M_told M_holds M_back M_mistakes M_hooks M_letters M_rule p1 n had (enc fo) (nI m) M_heaps M_coming M_comingMany M_going M_goingMany M_minute M_pile M_high M_where M_latest M_lifts M_begun M_left M_has M_lifted M_taken M_above M_allLifts M_busy = some p ∧ p.1 = enc (match (List.range' 1 m).find? fun h => decide (sAll (nightR (rHeaps r h)) ≤ v) with | some h => some h | none => fo) ∧ p.2.1 = had := by
  subst hp
  intro m
  induction m with
  | zero =>
    intro n fo M_heaps M_coming M_comingMany M_going M_goingMany M_minute M_pile M_high M_where M_latest M_lifts M_begun M_left M_has M_lifted M_taken M_above M_allLifts M_busy h1 h2
    obtain ⟨n, rfl⟩ : ∃ k, n = k + 1 := ⟨n - 1, by omega⟩
    rw [fX10_enough_L24]
    simp (disch := omega) only [zlit, zz, if_pos, if_neg, if_true, if_false, zgd', zl, zbs, zbz, encz, fX10_enough_J56]
    exact ⟨_, rfl, rfl, rfl⟩
  | succ m ih =>
    intro n fo M_heaps M_coming M_comingMany M_going M_goingMany M_minute M_pile M_high M_where M_latest M_lifts M_begun M_left M_has M_lifted M_taken M_above M_allLifts M_busy h1 h2
    obtain ⟨n, rfl⟩ : ∃ k, n = k + 1 := ⟨n - 1, by omega⟩
    obtain ⟨x1, x2, x3, x4, x5, x6, x7, x8, x9⟩ := hm
    have hm2 : mR (rHeaps r (m + 1)) M_guests M_kind M_figure M_told (nI (m + 1)) M_holds M_back M_mistakes M_hooks M_letters M_rule := ⟨x1, x2, rfl, x4, x5, x6, x7, x8, x9⟩
    obtain ⟨w, w1, w2, -⟩ := sX10_night hf (ok_heaps (v := m + 1) hr (Nat.succ_pos m) h1) hm2 M_coming M_comingMany M_going M_goingMany M_minute M_pile M_high M_where M_latest M_lifts M_begun M_left M_has M_lifted M_taken M_above M_allLifts M_busy
    have a1 := all_le (ok_heaps (v := m + 1) hr (Nat.succ_pos m) h1)
    have hr1 : List.range' 1 (m + 1) = List.range' 1 m ++ [m + 1] := by rw [List.range'_concat]; simp; omega
    have hmm : m + 1 - 1 = m := by omega
    rw [fX10_enough_L24, hr1, List.find?_append]
    by_cases q : sAll (nightR (rHeaps r (m + 1))) ≤ v
    · simp (disch := omega) only [zlit, zz, if_pos, if_neg, if_true, if_false, zgd', zl, zbs, zbz, encz, w1, w2, hmm]
      obtain ⟨p, p1, p2, p3⟩ := ih n (some (m + 1)) (nI (m + 1)) w.2.1 w.2.2.1 w.2.2.2.1 w.2.2.2.2.1 w.2.2.2.2.2.1 w.2.2.2.2.2.2.1 w.2.2.2.2.2.2.2.1 w.2.2.2.2.2.2.2.2.1 w.2.2.2.2.2.2.2.2.2.1 w.2.2.2.2.2.2.2.2.2.2.1 w.2.2.2.2.2.2.2.2.2.2.2.1 w.2.2.2.2.2.2.2.2.2.2.2.2.1 w.2.2.2.2.2.2.2.2.2.2.2.2.2.1 w.2.2.2.2.2.2.2.2.2.2.2.2.2.2.1 w.2.2.2.2.2.2.2.2.2.2.2.2.2.2.2.1 w.2.2.2.2.2.2.2.2.2.2.2.2.2.2.2.2.1 w.2.2.2.2.2.2.2.2.2.2.2.2.2.2.2.2.2.1 w.2.2.2.2.2.2.2.2.2.2.2.2.2.2.2.2.2.2 (by omega) (by omega)
      refine ⟨p, p1, ?_, p3⟩
      rw [p2]
      cases (List.range' 1 m).find? (fun h => decide (sAll (nightR (rHeaps r h)) ≤ v)) with
      | none => simp [q]
      | some h => rfl
    · simp (disch := omega) only [zlit, zz, if_pos, if_neg, if_true, if_false, zgd', zl, zbs, zbz, encz, w1, w2, hmm]
      obtain ⟨p, p1, p2, p3⟩ := ih n fo (nI (m + 1)) w.2.1 w.2.2.1 w.2.2.2.1 w.2.2.2.2.1 w.2.2.2.2.2.1 w.2.2.2.2.2.2.1 w.2.2.2.2.2.2.2.1 w.2.2.2.2.2.2.2.2.1 w.2.2.2.2.2.2.2.2.2.1 w.2.2.2.2.2.2.2.2.2.2.1 w.2.2.2.2.2.2.2.2.2.2.2.1 w.2.2.2.2.2.2.2.2.2.2.2.2.1 w.2.2.2.2.2.2.2.2.2.2.2.2.2.1 w.2.2.2.2.2.2.2.2.2.2.2.2.2.2.1 w.2.2.2.2.2.2.2.2.2.2.2.2.2.2.2.1 w.2.2.2.2.2.2.2.2.2.2.2.2.2.2.2.2.1 w.2.2.2.2.2.2.2.2.2.2.2.2.2.2.2.2.2.1 w.2.2.2.2.2.2.2.2.2.2.2.2.2.2.2.2.2.2 (by omega) (by omega)
      refine ⟨p, p1, ?_, p3⟩
      rw [p2]
      cases (List.range' 1 m).find? (fun h => decide (sAll (nightR (rHeaps r h)) ≤ v)) with
      | none => simp [q]
      | some h => rfl
theorem u_enough {r : SR} (fuel : Nat) (d_guests : Int32) (d_kinds : Nat → Int32) (d_figures : Nat → Int32) (d_minutes : Nat → Int32) (d_settings : Nat → Int32) (d_hooks : Int32) (d_letters : Nat → Int32) (d_letterCount : Int32) (t_guests : Int32) (t_kinds : Nat → Int32) (t_figures : Nat → Int32) (t_minutes : Nat → Int32) (t_settings : Nat → Int32) (t_hooks : Int32) (t_letters : Nat → Int32) (t_letterCount : Int32) (m_room : Nat) (m_order : Nat → Int32) (m_weights : Nat → Int32) (m_black : Nat → Int32) (m_lifts : Nat → Int32) (m_begins : Nat → Int32) (m_ends : Nat → Int32) (m_has : Nat → Int32) (m_lifted : Nat → Int32) (m_allLifts : Int32) (m_doneAt : Int32) (z_going : Nat → Int32) (z_coming : Nat → Int32) (z_holds : Int32) (z_latest : Int32) (c_heaps : Int32) (c_piles : Nat → Nat → Int32) (c_heights : Nat → Int32) (c_spots : Nat → Int32) (ad_t : Nat → Nat) (p1 : Int32) (M_guests : Int32) (M_kind : Nat → Int32) (M_figure : Nat → Int32) (M_told : Nat → Int32) (M_heaps : Int32) (M_holds : Int32) (M_back : Int32) (M_mistakes : Int32) (M_hooks : Int32) (M_letters : Int32) (M_rule : Nat → Int32) (M_coming : Nat → Int32) (M_comingMany : Int32) (M_going : Nat → Int32) (M_goingMany : Int32) (M_minute : Nat → Int32) (M_pile : Nat → Int32) (M_high : Nat → Int32) (M_where : Nat → Int32) (M_latest : Int32) (M_lifts : Nat → Int32) (M_begun : Nat → Int32) (M_left : Nat → Int32) (M_has : Nat → Int32) (M_lifted : Nat → Int32) (M_taken : Nat → Int32) (M_above : Nat → Int32) (M_allLifts : Int32) (M_busy : Int32) (hf : 100 < fuel) (hr : okR r) (hc : cR r d_guests d_kinds d_figures d_minutes d_settings d_hooks d_letters d_letterCount) (hm : mR r M_guests M_kind M_figure M_told M_heaps M_holds M_back M_mistakes M_hooks M_letters M_rule) : ∃ o p, fX9_enough fuel d_guests d_kinds d_figures d_minutes d_settings d_hooks d_letters d_letterCount t_guests t_kinds t_figures t_minutes t_settings t_hooks t_letters t_letterCount m_room m_order m_weights m_black m_lifts m_begins m_ends m_has m_lifted m_allLifts m_doneAt z_going z_coming z_holds z_latest c_heaps c_piles c_heights c_spots ad_t p1 = some o ∧ fX10_enough fuel M_guests M_kind M_figure M_told M_heaps M_holds M_back M_mistakes M_hooks M_letters M_rule M_coming M_comingMany M_going M_goingMany M_minute M_pile M_high M_where M_latest M_lifts M_begun M_left M_has M_lifted M_taken M_above M_allLifts M_busy p1 = some p ∧ o.1 = p.1 ∧ p.2.1 = M_heaps := by
  unfold fX9_enough fX10_enough
  have e0 : (0 : Int32) = nI 0 := rfl
  have e1 : (1 : Int32) = nI 1 := rfl
  have e3 : (3 : Int32) = nI 3 := rfl
  have e4 : (-4 : Int32) = enc none := rfl
  have e9 : (999 : Int32) = nI 999 := rfl
  rw [sX10_isIn, e0, e1, e3, e4, e9, zbs]
  rcases icase p1 with h | ⟨k, hk, rfl⟩
  · have : decide (nI 0 ≤ p1 ∧ p1 ≤ nI 999) = false := decide_eq_false (fun q => by rw [(zneg h).1 0 (by decide)] at q; exact q.1)
    rw [if_pos h, this, if_pos (show zb01 false = nI 0 from rfl)]
    exact ⟨_, _, rfl, rfl, rfl, rfl⟩
  · by_cases q : k ≤ 999
    · rw [if_neg (by rw [nI_ltI hk (by decide)]; omega), if_pos (by rw [nI_leI hk (by decide)]; omega), decide_eq_true ⟨(nI_leI (by decide) hk).mpr (Nat.zero_le _), (nI_leI hk (by decide)).mpr q⟩, if_neg (show ¬ zb01 true = nI 0 from z10)]
      obtain ⟨o, o1, o2⟩ := sX9_enough_L15 (v := k) fuel d_guests d_kinds d_figures d_minutes d_settings d_hooks d_letters d_letterCount ad_t (nI k) hf hr hc q rfl 3 fuel 1 t_guests t_kinds t_figures t_minutes t_settings t_hooks t_letters t_letterCount m_order m_weights m_black m_lifts m_begins m_ends m_has m_lifted m_allLifts m_doneAt z_going z_coming z_holds z_latest c_heaps c_piles c_heights c_spots m_room (by omega) (by omega) (by omega)
      obtain ⟨p, p1, p2, p3⟩ := sX10_enough_L24 (v := k) fuel M_guests M_kind M_figure M_told M_holds M_back M_mistakes M_hooks M_letters M_rule (nI k) M_heaps hf hr hm q rfl M_heaps 3 fuel none M_heaps M_coming M_comingMany M_going M_goingMany M_minute M_pile M_high M_where M_latest M_lifts M_begun M_left M_has M_lifted M_taken M_above M_allLifts M_busy (by omega) (by omega)
      refine ⟨o, p, o1, p1, ?_, p3⟩
      rw [o2, p2]
      cases (List.range' 1 3).find? (fun h => decide (sAll (nightR (rHeaps r h)) ≤ k)) <;> rfl
    · rw [if_neg (by rw [nI_ltI hk (by decide)]; omega), if_neg (by rw [nI_leI hk (by decide)]; omega), decide_eq_false (fun h => q ((nI_leI hk (by decide)).mp h.2)), if_pos (show zb01 false = nI 0 from rfl)]
      exact ⟨_, _, rfl, rfl, rfl, rfl⟩
