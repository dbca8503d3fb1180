/-! What if: another back, another rule, more heaps. -/
theorem cpy_lt {α : Type} {f g : Nat → α} {n k : Nat} (h : k < n) : va_cpy f g 0 0 n k = f k := by
  unfold va_cpy
  rw [if_pos ⟨Nat.zero_le _, by omega⟩]
  congr 1
  omega
theorem cR_copy {r : SR} (hr : okR r) {gu hk lc : Int32} {ki fi mi se le : Nat → Int32} (h : cR r gu ki fi mi se hk le lc) (k2 f2 m2 s2 l2 : Nat → Int32) : cR r gu (va_cpy ki k2 0 0 10) (va_cpy fi f2 0 0 10) (va_cpy mi m2 0 0 10) (va_cpy se s2 0 0 4) hk (va_cpy le l2 0 0 6) lc := by
  obtain ⟨a1, a2, a3, a4, a5, a6, a7, a8, a9⟩ := h
  have hN := hr.1
  have hL := hr.2.2.2.2.2.2.2.2.2.1
  refine ⟨a1, fun i hi => ?_, ?_, ?_, ?_, ?_, a7, fun i x hx => ?_, a9⟩
  · rw [cpy_lt (by omega), cpy_lt (by omega), cpy_lt (by omega)]; exact a2 i hi
  · rw [cpy_lt (by omega)]; exact a3
  · rw [cpy_lt (by omega)]; exact a4
  · rw [cpy_lt (by omega)]; exact a5
  · rw [cpy_lt (by omega)]; exact a6
  · have := (List.getElem?_eq_some_iff.mp hx).1
    rw [cpy_lt (by omega)]; exact a8 i x hx
theorem sX5_copyFrom {r : SR} (hr : okR r) {gu hk lc : Int32} {ki fi mi se le : Nat → Int32} (h : cR r gu ki fi mi se hk le lc) (fuel : Nat) (g2 : Int32) (k2 f2 m2 s2 : Nat → Int32) (h2 : Int32) (l2 : Nat → Int32) (c2 : Int32) :
    ∃ o, fX5_copyFrom fuel g2 k2 f2 m2 s2 h2 l2 c2 gu ki fi mi se hk le lc = some o ∧ cR r o.1 o.2.1 o.2.2.1 o.2.2.2.1 o.2.2.2.2.1 o.2.2.2.2.2.1 o.2.2.2.2.2.2.1 o.2.2.2.2.2.2.2 := by
  unfold fX5_copyFrom
  exact ⟨_, rfl, cR_copy hr h k2 f2 m2 s2 l2⟩
def rHeaps (r : SR) (v : Nat) : SR := (rN r, rK r, rF r, rM r, v, rHo r, rBa r, rMi r, rHk r, rL r)
def rBack (r : SR) (v : Nat) : SR := (rN r, rK r, rF r, rM r, rHp r, rHo r, v, rMi r, rHk r, rL r)
def rHooks (r : SR) (v : Nat) : SR := (rN r, rK r, rF r, rM r, rHp r, rHo r, rBa r, rMi r, v, rL r)
def rRule (r : SR) (l : List Nat) : SR := (rN r, rK r, rF r, rM r, rHp r, rHo r, rBa r, rMi r, rHk r, l)
theorem ok_heaps {r : SR} {v : Nat} (h : okR r) (h1 : 0 < v) (h2 : v ≤ 3) : okR (rHeaps r v) := ⟨h.1, h.2.1, h1, h2, h.2.2.2.2⟩
theorem ok_back {r : SR} {v : Nat} (h : okR r) (h2 : v ≤ 2) : okR (rBack r v) := ⟨h.1, h.2.1, h.2.2.1, h.2.2.2.1, h.2.2.2.2.1, h.2.2.2.2.2.1, h2, h.2.2.2.2.2.2.2⟩
theorem ok_hooks {r : SR} {v : Nat} (h : okR r) (h2 : v < 2 ^ 31) : okR (rHooks r v) := ⟨h.1, h.2.1, h.2.2.1, h.2.2.2.1, h.2.2.2.2.1, h.2.2.2.2.2.1, h.2.2.2.2.2.2.1, h.2.2.2.2.2.2.2.1, h2, h.2.2.2.2.2.2.2.2.2⟩
theorem ok_rule {r : SR} {l : List Nat} (h : okR r) (h1 : l.length ≤ 6) (h2 : ∀ x ∈ l, x ≤ 5) : okR (rRule r l) := ⟨h.1, h.2.1, h.2.2.1, h.2.2.2.1, h.2.2.2.2.1, h.2.2.2.2.2.1, h.2.2.2.2.2.2.1, h.2.2.2.2.2.2.2.1, h.2.2.2.2.2.2.2.2.1, h1, h2⟩
theorem all_le {r : SR} (hr : okR r) : sAll (nightR r) ≤ 1000 := by
  have := (HI_goR (tp := none) (od := odR r) (rest := []) hr (okC_range hr) (by rw [List.append_nil]; exact odR_perm r) (LI_C hr (okC_range hr))).2.2.2.2.2.2.2.2.1
  unfold nightR sAll
  omega
theorem sX8_liftsWith_b {r : SR} (fuel : Nat) (t_guests : Int32) (t_kinds : Nat → Int32) (t_figures : Nat → Int32) (t_minutes : Nat → Int32) (t_settings : Nat → Int32) (t_hooks : Int32) (t_letters : Nat → Int32) (t_letterCount : Int32) (n_order : Nat → Int32) (n_weights : Nat → Int32) (n_black : Nat → Int32) (n_lifts : Nat → Int32) (n_begins : Nat → Int32) (n_ends : Nat → Int32) (n_has : Nat → Int32) (n_lifted : Nat → Int32) (n_allLifts : Int32) (n_doneAt : Int32) (y_going : Nat → Int32) (y_coming : Nat → Int32) (y_holds : Int32) (y_latest : Int32) (b_heaps : Int32) (b_piles : Nat → Nat → Int32) (b_heights : Nat → Int32) (b_spots : Nat → Int32) (r_guests : Int32) (r_kinds : Nat → Int32) (r_figures : Nat → Int32) (r_minutes : Nat → Int32) (r_settings : Nat → Int32) (r_hooks : Int32) (r_letters : Nat → Int32) (r_letterCount : Int32) (p2 : Int32) (p3 : Int32) {v : Nat} (hf : 100 < fuel) (hr : okR r) (hv : v ≤ 2) (hc : cR r r_guests r_kinds r_figures r_minutes r_settings r_hooks r_letters r_letterCount) (h2 : p2 = nI 2) (h3 : p3 = nI v) : ∃ o, fX8_liftsWith fuel t_guests t_kinds t_figures t_minutes t_settings t_hooks t_letters t_letterCount n_order n_weights n_black n_lifts n_begins n_ends n_has n_lifted n_allLifts n_doneAt y_going y_coming y_holds y_latest b_heaps b_piles b_heights b_spots r_guests r_kinds r_figures r_minutes r_settings r_hooks r_letters r_letterCount p2 p3 = some o ∧ o.1 = nI (sAll (nightR (rBack r v))) := by
  unfold fX8_liftsWith
  obtain ⟨c, c1, a1, a2, a3, a4, a5, a6, a7, a8, a9⟩ := sX5_copyFrom hr hc fuel t_guests t_kinds t_figures t_minutes t_settings t_hooks t_letters t_letterCount
  subst h2 h3
  rw [c1, zbs]
  have hc2 : cR (rBack r v) c.1 c.2.1 c.2.2.1 c.2.2.2.1 (upd c.2.2.2.2.1 2 (nI v)) c.2.2.2.2.2.1 c.2.2.2.2.2.2.1 c.2.2.2.2.2.2.2 := ⟨a1, a2, a3, a4, rfl, a6, a7, a8, a9⟩
  obtain ⟨y, y1, y2, -⟩ := sX3_pass hf (ok_back hr hv) hc2 n_order n_weights n_black n_lifts n_begins n_ends n_has n_lifted n_allLifts n_doneAt y_going y_coming y_holds y_latest b_heaps b_piles b_heights b_spots
  simp (disch := omega) only [zlit, zz, if_pos, if_neg, if_true, if_false, zgd', zl, zbs, zbz, encz, y1]
  exact ⟨_, rfl, y2⟩
theorem sX8_liftsWith_h {r : SR} (fuel : Nat) (t_guests : Int32) (t_kinds : Nat → Int32) (t_figures : Nat → Int32) (t_minutes : Nat → Int32) (t_settings : Nat → Int32) (t_hooks : Int32) (t_letters : Nat → Int32) (t_letterCount : Int32) (n_order : Nat → Int32) (n_weights : Nat → Int32) (n_black : Nat → Int32) (n_lifts : Nat → Int32) (n_begins : Nat → Int32) (n_ends : Nat → Int32) (n_has : Nat → Int32) (n_lifted : Nat → Int32) (n_allLifts : Int32) (n_doneAt : Int32) (y_going : Nat → Int32) (y_coming : Nat → Int32) (y_holds : Int32) (y_latest : Int32) (b_heaps : Int32) (b_piles : Nat → Nat → Int32) (b_heights : Nat → Int32) (b_spots : Nat → Int32) (r_guests : Int32) (r_kinds : Nat → Int32) (r_figures : Nat → Int32) (r_minutes : Nat → Int32) (r_settings : Nat → Int32) (r_hooks : Int32) (r_letters : Nat → Int32) (r_letterCount : Int32) (p2 : Int32) (p3 : Int32) {v : Nat} (hf : 100 < fuel) (hr : okR r) (hv0 : 0 < v) (hv : v ≤ 3) (hc : cR r r_guests r_kinds r_figures r_minutes r_settings r_hooks r_letters r_letterCount) (h2 : p2 = nI 0) (h3 : p3 = nI v) : ∃ o, fX8_liftsWith fuel t_guests t_kinds t_figures t_minutes t_settings t_hooks t_letters t_letterCount n_order n_weights n_black n_lifts n_begins n_ends n_has n_lifted n_allLifts n_doneAt y_going y_coming y_holds y_latest b_heaps b_piles b_heights b_spots r_guests r_kinds r_figures r_minutes r_settings r_hooks r_letters r_letterCount p2 p3 = some o ∧ o.1 = nI (sAll (nightR (rHeaps r v))) := by
  unfold fX8_liftsWith
  obtain ⟨c, c1, a1, a2, a3, a4, a5, a6, a7, a8, a9⟩ := sX5_copyFrom hr hc fuel t_guests t_kinds t_figures t_minutes t_settings t_hooks t_letters t_letterCount
  subst h2 h3
  rw [c1, zbs]
  have hc2 : cR (rHeaps r v) c.1 c.2.1 c.2.2.1 c.2.2.2.1 (upd c.2.2.2.2.1 0 (nI v)) c.2.2.2.2.2.1 c.2.2.2.2.2.2.1 c.2.2.2.2.2.2.2 := ⟨a1, a2, rfl, a4, a5, a6, a7, a8, a9⟩
  obtain ⟨y, y1, y2, -⟩ := sX3_pass hf (ok_heaps hr hv0 hv) hc2 n_order n_weights n_black n_lifts n_begins n_ends n_has n_lifted n_allLifts n_doneAt y_going y_coming y_holds y_latest b_heaps b_piles b_heights b_spots
  simp (disch := omega) only [zlit, zz, if_pos, if_neg, if_true, if_false, zgd', zl, zbs, zbz, encz, y1]
  exact ⟨_, rfl, y2⟩
theorem sX8_liftsWithLetter {r : SR} (fuel : Nat) (t_guests : Int32) (t_kinds : Nat → Int32) (t_figures : Nat → Int32) (t_minutes : Nat → Int32) (t_settings : Nat → Int32) (t_hooks : Int32) (t_letters : Nat → Int32) (t_letterCount : Int32) (n_order : Nat → Int32) (n_weights : Nat → Int32) (n_black : Nat → Int32) (n_lifts : Nat → Int32) (n_begins : Nat → Int32) (n_ends : Nat → Int32) (n_has : Nat → Int32) (n_lifted : Nat → Int32) (n_allLifts : Int32) (n_doneAt : Int32) (y_going : Nat → Int32) (y_coming : Nat → Int32) (y_holds : Int32) (y_latest : Int32) (b_heaps : Int32) (b_piles : Nat → Nat → Int32) (b_heights : Nat → Int32) (b_spots : Nat → Int32) (r_guests : Int32) (r_kinds : Nat → Int32) (r_figures : Nat → Int32) (r_minutes : Nat → Int32) (r_settings : Nat → Int32) (r_hooks : Int32) (r_letters : Nat → Int32) (r_letterCount : Int32) (p2 : Int32) {v : Nat} (hf : 100 < fuel) (hr : okR r) (hv : v ≤ 5) (hc : cR r r_guests r_kinds r_figures r_minutes r_settings r_hooks r_letters r_letterCount) (h2 : p2 = nI v) : ∃ o, fX8_liftsWithLetter fuel t_guests t_kinds t_figures t_minutes t_settings t_hooks t_letters t_letterCount n_order n_weights n_black n_lifts n_begins n_ends n_has n_lifted n_allLifts n_doneAt y_going y_coming y_holds y_latest b_heaps b_piles b_heights b_spots r_guests r_kinds r_figures r_minutes r_settings r_hooks r_letters r_letterCount p2 = some o ∧ o.1 = nI (sAll (nightR (rRule r [v]))) := by
  unfold fX8_liftsWithLetter
  obtain ⟨c, c1, a1, a2, a3, a4, a5, a6, a7, a8, a9⟩ := sX5_copyFrom hr hc fuel t_guests t_kinds t_figures t_minutes t_settings t_hooks t_letters t_letterCount
  subst h2
  rw [c1, zbs]
  have hc2 : cR (rRule r [v]) c.1 c.2.1 c.2.2.1 c.2.2.2.1 c.2.2.2.2.1 c.2.2.2.2.2.1 (upd c.2.2.2.2.2.2.1 0 (zLet v)) (nI 1) := ⟨a1, a2, a3, a4, a5, a6, a7, fun i x hx => by
    cases i with
    | zero =>
      cases hx
      exact ⟨rfl, hv⟩
    | succ i => simp [rL, rRule] at hx, rfl⟩
  obtain ⟨y, y1, y2, -⟩ := sX3_pass hf (ok_rule hr (by simp) (fun x hx => by rw [List.mem_singleton.mp hx]; exact hv)) hc2 n_order n_weights n_black n_lifts n_begins n_ends n_has n_lifted n_allLifts n_doneAt y_going y_coming y_holds y_latest b_heaps b_piles b_heights b_spots
  simp (disch := omega) only [zlit, zz, if_pos, if_neg, if_true, if_false, zgd', zl, zbs, zbz, encz, y1]
  exact ⟨_, rfl, y2⟩
/-- between two numbers -/
theorem bcase {p : Int32} {m : Nat} (hm : m < 2 ^ 31) : (∃ k, k ≤ m ∧ p = nI k ∧ decide (nI 0 ≤ p ∧ p ≤ nI m) = true) ∨ decide (nI 0 ≤ p ∧ p ≤ nI m) = false := by
  rcases icase p with h | ⟨k, hk, rfl⟩
  · right
    exact decide_eq_false (fun q => by rw [(zneg h).1 0 (by decide)] at q; exact q.1)
  · by_cases q : k ≤ m
    · left
      exact ⟨k, q, rfl, decide_eq_true ⟨(nI_leI (by decide) hk).mpr (Nat.zero_le _), (nI_leI hk hm).mpr q⟩⟩
    · right
      exact decide_eq_false (fun h => q ((nI_leI hk hm).mp h.2))
theorem sX5_allows2 {fuel : Nat} (p : Int32) : fX5_allows fuel 2 p = some (zb01 (decide (nI 0 ≤ p ∧ p ≤ nI 2))) := by
  unfold fX5_allows
  have e : zLeast ((2 : Int32).toNatClampNeg) = nI 0 := rfl
  have e' : zMost ((2 : Int32).toNatClampNeg) = nI 2 := rfl
  rw [if_neg (by decide), if_neg (by decide), e, e']
  have hz : zin (2 : Int32) 4 = true := by decide
  rw [hz, zgt]
  rcases icase p with h | ⟨k, hk, rfl⟩
  · rw [if_pos h]
    have : decide (nI 0 ≤ p ∧ p ≤ nI 2) = false := decide_eq_false (fun q => by rw [(zneg h).1 0 (by decide)] at q; exact q.1)
    rw [this]; rfl
  · rw [if_neg (by rw [nI_ltI hk (by decide)]; omega)]
    by_cases q : k ≤ 2
    · rw [if_neg (by rw [nI_ltI (by decide) hk]; omega), decide_eq_true ⟨(nI_leI (by decide) hk).mpr (Nat.zero_le _), (nI_leI hk (by decide)).mpr q⟩]
      rfl
    · rw [if_pos (by rw [nI_ltI (by decide) hk]; omega), decide_eq_false (fun h => q ((nI_leI hk (by decide)).mp h.2))]
      rfl
theorem sX10_byBack {r : SR} (fuel : Nat) (M_guests : Int32) (M_kind : Nat → Int32) (M_figure : Nat → Int32) (M_told : Nat → Int32) (M_heaps : Int32) (M_holds : Int32) (M_back : Int32) (M_mistakes : Int32) (M_hooks : Int32) (M_letters : Int32) (M_rule : Nat → Int32) (M_coming : Nat → Int32) (M_comingMany : Int32) (M_going : Nat → Int32) (M_goingMany : Int32) (M_minute : Nat → Int32) (M_pile : Nat → Int32) (M_high : Nat → Int32) (M_where : Nat → Int32) (M_latest : Int32) (M_lifts : Nat → Int32) (M_begun : Nat → Int32) (M_left : Nat → Int32) (M_has : Nat → Int32) (M_lifted : Nat → Int32) (M_taken : Nat → Int32) (M_above : Nat → Int32) (M_allLifts : Int32) (M_busy : Int32) (p1 : Int32) {v : Nat} (hf : 100 < fuel) (hr : okR r) (hv : v ≤ 2) (hm : mR r M_guests M_kind M_figure M_told M_heaps M_holds M_back M_mistakes M_hooks M_letters M_rule) (h : p1 = nI v) : ∃ p, fX10_byBack fuel M_guests M_kind M_figure M_told M_heaps M_holds M_back M_mistakes M_hooks M_letters M_rule M_coming M_comingMany M_going M_goingMany M_minute M_pile M_high M_where M_latest M_lifts M_begun M_left M_has M_lifted M_taken M_above M_allLifts M_busy p1 = some p ∧ p.1 = nI (sAll (nightR (rBack r v))) ∧ p.2.1 = M_back := by
  obtain ⟨a1, a2, a3, a4, a5, a6, a7, a8, a9⟩ := hm
  subst h
  unfold fX10_byBack
  have hm2 : mR (rBack r v) M_guests M_kind M_figure M_told M_heaps M_holds (nI v) M_mistakes M_hooks M_letters M_rule := ⟨a1, a2, a3, a4, rfl, a6, a7, a8, a9⟩
  obtain ⟨w, w1, w2, -⟩ := sX10_night hf (ok_back hr hv) hm2 M_coming M_comingMany M_going M_goingMany M_minute M_pile M_high M_where M_latest M_lifts M_begun M_left M_has M_lifted M_taken M_above M_allLifts M_busy
  rw [w1, zbs]
  exact ⟨_, rfl, w2, rfl⟩
theorem u_backs {r : SR} (fuel : Nat) (d_guests : Int32) (d_kinds : Nat → Int32) (d_figures : Nat → Int32) (d_minutes : Nat → Int32) (d_settings : Nat → Int32) (d_hooks : Int32) (d_letters : Nat → Int32) (d_letterCount : Int32) (t_guests : Int32) (t_kinds : Nat → Int32) (t_figures : Nat → Int32) (t_minutes : Nat → Int32) (t_settings : Nat → Int32) (t_hooks : Int32) (t_letters : Nat → Int32) (t_letterCount : Int32) (m_room : Nat) (m_order : Nat → Int32) (m_weights : Nat → Int32) (m_black : Nat → Int32) (m_lifts : Nat → Int32) (m_begins : Nat → Int32) (m_ends : Nat → Int32) (m_has : Nat → Int32) (m_lifted : Nat → Int32) (m_allLifts : Int32) (m_doneAt : Int32) (z_going : Nat → Int32) (z_coming : Nat → Int32) (z_holds : Int32) (z_latest : Int32) (c_heaps : Int32) (c_piles : Nat → Nat → Int32) (c_heights : Nat → Int32) (c_spots : Nat → Int32) (ad_t : Nat → Nat) (p1 : Int32) (M_guests : Int32) (M_kind : Nat → Int32) (M_figure : Nat → Int32) (M_told : Nat → Int32) (M_heaps : Int32) (M_holds : Int32) (M_back : Int32) (M_mistakes : Int32) (M_hooks : Int32) (M_letters : Int32) (M_rule : Nat → Int32) (M_coming : Nat → Int32) (M_comingMany : Int32) (M_going : Nat → Int32) (M_goingMany : Int32) (M_minute : Nat → Int32) (M_pile : Nat → Int32) (M_high : Nat → Int32) (M_where : Nat → Int32) (M_latest : Int32) (M_lifts : Nat → Int32) (M_begun : Nat → Int32) (M_left : Nat → Int32) (M_has : Nat → Int32) (M_lifted : Nat → Int32) (M_taken : Nat → Int32) (M_above : Nat → Int32) (M_allLifts : Int32) (M_busy : Int32) (hf : 100 < fuel) (hr : okR r) (hc : cR r d_guests d_kinds d_figures d_minutes d_settings d_hooks d_letters d_letterCount) (hm : mR r M_guests M_kind M_figure M_told M_heaps M_holds M_back M_mistakes M_hooks M_letters M_rule) : ∃ o p, fX9_backs fuel d_guests d_kinds d_figures d_minutes d_settings d_hooks d_letters d_letterCount t_guests t_kinds t_figures t_minutes t_settings t_hooks t_letters t_letterCount m_room m_order m_weights m_black m_lifts m_begins m_ends m_has m_lifted m_allLifts m_doneAt z_going z_coming z_holds z_latest c_heaps c_piles c_heights c_spots ad_t p1 = some o ∧ fX10_backs fuel M_guests M_kind M_figure M_told M_heaps M_holds M_back M_mistakes M_hooks M_letters M_rule M_coming M_comingMany M_going M_goingMany M_minute M_pile M_high M_where M_latest M_lifts M_begun M_left M_has M_lifted M_taken M_above M_allLifts M_busy p1 = some p ∧ o.1 = p.1 ∧ p.2.1 = M_back := by
  unfold fX9_backs fX10_backs
  have e0 : (0 : Int32) = nI 0 := rfl
  have e2 : (2 : Int32) = nI 2 := rfl
  rw [sX5_allows2, sX10_isIn, e0, e2, zbs, zbs]
  rcases bcase (p := p1) (m := 2) (by decide) with ⟨k, hk, rfl, hd⟩ | hd
  · rw [hd]
    obtain ⟨y, y1, y2⟩ := sX8_liftsWith_b fuel t_guests t_kinds t_figures t_minutes t_settings t_hooks t_letters t_letterCount m_order m_weights m_black m_lifts m_begins m_ends m_has m_lifted m_allLifts m_doneAt z_going z_coming z_holds z_latest c_heaps c_piles c_heights c_spots d_guests d_kinds d_figures d_minutes d_settings d_hooks d_letters d_letterCount (nI 2) (nI k) hf hr hk hc rfl rfl
    obtain ⟨w, w1, w2, w3⟩ := sX10_byBack fuel M_guests M_kind M_figure M_told M_heaps M_holds M_back M_mistakes M_hooks M_letters M_rule M_coming M_comingMany M_going M_goingMany M_minute M_pile M_high M_where M_latest M_lifts M_begun M_left M_has M_lifted M_taken M_above M_allLifts M_busy (nI k) hf hr hk hm rfl
    have ht : ¬ zb01 true = nI 0 := z10
    rw [if_neg ht, if_neg ht, y1, w1, zbs, zbs]
    exact ⟨_, _, rfl, rfl, by rw [y2, w2], w3⟩
  · rw [hd]
    have ht : zb01 false = nI 0 := rfl
    rw [if_pos ht, if_pos ht]
    exact ⟨_, _, rfl, rfl, rfl, rfl⟩
/-- the first that is least -/
def bsS (f : Nat → Nat) : Nat → Nat → Nat → Nat
  | 0, _, b => b
  | m + 1, i, b => bsS f m (i + 1) (if f i < f b then i else b)
