/-! The calls: turn, bestTurn. -/
/-- what begin leaves, in one -/
def bgR (r : SR) (we bl go : Nat → Int32) : Prop := cM we (wtR r) (rN r) ∧ (∀ i, i < rN r → bl i = zb01 (blR r i)) ∧ cM go (mnR r) (rN r)
theorem firstIx_lt {p : Nat → Bool} : ∀ {l : List Nat} {i : Nat}, firstIx p l = some i → i < l.length
  | [], i, h => by simp [firstIx] at h
  | x :: l, i, h => by
    rw [firstIx] at h
    split at h
    · cases h; simp
    · cases q : firstIx p l with
      | none => rw [q] at h; cases h
      | some j =>
        rw [q] at h
        cases h
        have := firstIx_lt q
        simp
        omega
theorem sX8_liftsInOrder {r : SR} {cs od : List Nat} {tp : Option Nat} (fuel : Nat) (n_order : Nat → Int32) (n_weights : Nat → Int32) (n_black : Nat → Int32) (n_lifts : Nat → Int32) (n_begins : Nat → Int32) (n_ends : Nat → Int32) (n_has : Nat → Int32) (n_lifted : Nat → Int32) (n_allLifts : Int32) (n_doneAt : Int32) (y_going : Nat → Int32) (y_coming : Nat → Int32) (y_holds : Int32) (y_latest : Int32) (b_heaps : Int32) (b_piles : Nat → Nat → Int32) (b_heights : Nat → Int32) (b_spots : Nat → Int32) (r_guests : Int32) (r_settings : Nat → Int32) (r_hooks : Int32) (r_letters : Nat → Int32) (r_letterCount : Int32) (p2 : Int32) {r_kinds r_figures r_minutes : Nat → Int32} (hf : 100 < fuel) (hr : okR r) (hc : cR r r_guests r_kinds r_figures r_minutes r_settings r_hooks r_letters r_letterCount) (hb : bgR r n_weights n_black y_going) (hcs : okO r cs) (hod : okO r od) (hco : arr y_coming cs) (had : arr n_order od) (htp : ∀ t, tp = some t → t < 1000) (hp : p2 = enc tp) : ∃ o, fX8_liftsInOrder fuel n_order n_weights n_black n_lifts n_begins n_ends n_has n_lifted n_allLifts n_doneAt y_going y_coming y_holds y_latest b_heaps b_piles b_heights b_spots r_guests r_settings r_hooks r_letters r_letterCount p2 = some o ∧ o.1 = nI (sAll (goR r (layR r cs) tp od)) := by
  unfold fX8_liftsInOrder
  obtain ⟨y, y1, y2, y3, y4⟩ := sX2_layR hf hr hc hcs hb.2.2 hco y_holds y_latest b_heaps b_piles b_heights b_spots
  rw [y1, zbs, y2]
  have hod' := hod
  rw [← List.append_nil od] at hod'
  obtain ⟨g, g1, g2, g3⟩ := sX3_letGo (tp := tp) (se := r_settings) hf hr hb.2.1 hb.1 hb.2.2 hc.2.2.2.2.2.1 hc.2.2.2.2.1 htp hcs hod' (LI_R hr hcs) had y3 y4 n_lifts n_begins n_ends n_has n_lifted n_allLifts n_doneAt
  rw [hod.2.1, ← hc.1, ← hp] at g1
  rw [g1, zbs]
  exact ⟨_, rfl, g2⟩
theorem sX3_firstFromMinute {fuel N t : Nat} {l : List Nat} {mn : Nat → Nat} {od go : Nat → Int32} (hf : 100 < fuel) (hN : N ≤ 10) (ht : t < 1000) (hM : cM go mn N) (had : arr od l) (hl : l.length = N) (hlN : ∀ x ∈ l, x < N) : fX3_firstFromMinute fuel od go (nI N) (nI t) = some (enc (tpS mn t l)) := by
  have key : ∀ (m n i : Nat), i + m = N → m < n → fX3_firstFromMinute_L2 od go (nI N) (nI t) n (nI i) = some (enc ((tpS mn t (l.drop i)).map (· + i))) := by
    intro m
    induction m with
    | zero =>
      intro n i h1 h2
      obtain ⟨n, rfl⟩ : ∃ k, n = k + 1 := ⟨n - 1, by omega⟩
      rw [fX3_firstFromMinute_L2, List.drop_eq_nil_of_le (by omega)]
      simp (disch := omega) only [zlit, zz, if_pos, if_neg, if_true, if_false, zgd', zl, zbs, zbz, encz]
      rfl
    | succ m ih =>
      intro n i h1 h2
      obtain ⟨n, rfl⟩ : ∃ k, n = k + 1 := ⟨n - 1, by omega⟩
      have hi' : i < l.length := by omega
      have hc := had i l[i] (List.getElem?_eq_getElem hi')
      have hcN := hlN l[i] (List.getElem_mem hi')
      rw [fX3_firstFromMinute_L2, List.drop_eq_getElem_cons hi', tpS, firstIx]
      generalize l[i] = c at hc hcN ⊢
      obtain ⟨m1, m2⟩ := hM c hcN
      by_cases q : t ≤ mn c
      · simp (disch := omega) only [zlit, zz, if_pos, if_neg, if_true, if_false, zgd', zl, zbs, zbz, encz, hc, m1]
        simp [q, encz]
      · simp (disch := omega) only [zlit, zz, if_pos, if_neg, if_true, if_false, zgd', zl, zbs, zbz, encz, hc, m1]
        rw [ih n (i + 1) (by omega) (by omega)]
        simp only [q, decide_false, Bool.false_eq_true, if_false, Option.map_map, tpS]
        congr 2
        cases firstIx (fun g => decide (t ≤ mn g)) (l.drop (i + 1)) with
        | none => rfl
        | some j => simp; omega
  unfold fX3_firstFromMinute
  have := key N fuel 0 (by omega) (by omega)
  rw [List.drop_zero] at this
  rw [show (0 : Int32) = nI 0 from rfl, this]
  cases tpS mn t l <;> rfl
theorem tpS_lt {r : SR} (hr : okR r) {t i : Nat} (h : tpS (mnR r) t (odR r) = some i) : i < 1000 := by
  have := firstIx_lt h
  rw [odR_len] at this
  have := hr.1
  omega
/-- all lifts if all is turned over ahead of a place -/
def tnG (r : SR) (tp : Option Nat) : Nat := sAll (goR r (layR r (List.range (rN r))) tp (odR r))
theorem tnG_le {r : SR} (hr : okR r) (tp : Option Nat) : tnG r tp ≤ 1000 := by
  have := (HI_goR (tp := tp) (od := odR r) (rest := []) hr (okC_range hr) (by rw [List.append_nil]; exact odR_perm r) (LI_C hr (okC_range hr))).2.2.2.2.2.2.2.2.1
  unfold tnG sAll
  omega
def tnT (r : SR) (m : Nat) : Nat := tnG r (tpS (mnR r) m (odR r))
theorem sX8_liftsWithTurn {r : SR} {t : Nat} (fuel : Nat) (n_order : Nat → Int32) (n_weights : Nat → Int32) (n_black : Nat → Int32) (n_lifts : Nat → Int32) (n_begins : Nat → Int32) (n_ends : Nat → Int32) (n_has : Nat → Int32) (n_lifted : Nat → Int32) (n_allLifts : Int32) (n_doneAt : Int32) (y_going : Nat → Int32) (y_coming : Nat → Int32) (y_holds : Int32) (y_latest : Int32) (b_heaps : Int32) (b_piles : Nat → Nat → Int32) (b_heights : Nat → Int32) (b_spots : Nat → Int32) (r_guests : Int32) (r_kinds : Nat → Int32) (r_figures : Nat → Int32) (r_minutes : Nat → Int32) (r_settings : Nat → Int32) (r_hooks : Int32) (r_letters : Nat → Int32) (r_letterCount : Int32) (p2 : Int32) (hf : 100 < fuel) (hr : okR r) (hc : cR r r_guests r_kinds r_figures r_minutes r_settings r_hooks r_letters r_letterCount) (ht : t < 1000) (hp : p2 = nI t) : ∃ o, fX8_liftsWithTurn fuel n_order n_weights n_black n_lifts n_begins n_ends n_has n_lifted n_allLifts n_doneAt y_going y_coming y_holds y_latest b_heaps b_piles b_heights b_spots r_guests r_kinds r_figures r_minutes r_settings r_hooks r_letters r_letterCount p2 = some o ∧ o.1 = nI (tnT r t) := by
  subst hp
  unfold fX8_liftsWithTurn
  obtain ⟨b, b1, b2, b3, b4, b5, b6⟩ := sX3_beginR hf hr hc n_order n_weights n_black y_going y_coming
  rw [b1, zbs]
  have hff := sX3_firstFromMinute (fuel := fuel) (t := t) hf hr.1 ht b5 b2 (odR_len r) (fun x hx => odR_mem.mp hx)
  rw [← hc.1] at hff
  rw [hff, zbs]
  obtain ⟨o, o1, o2⟩ := sX8_liftsInOrder fuel b.1 b.2.1 b.2.2.1 n_lifts n_begins n_ends n_has n_lifted n_allLifts n_doneAt b.2.2.2.1 b.2.2.2.2 y_holds y_latest b_heaps b_piles b_heights b_spots r_guests r_settings r_hooks r_letters r_letterCount (enc (tpS (mnR r) t (odR r))) hf hr hc ⟨b3, b4, b5⟩ (okO_range r) (okO_od r) b6 b2 (fun i hi => tpS_lt hr hi) rfl
  rw [o1, zbs]
  exact ⟨_, rfl, o2⟩
theorem sX10_byTurn {r : SR} {t : Nat} (fuel : Nat) (M_guests : Int32) (M_kind : Nat → Int32) (M_figure : Nat → Int32) (M_told : Nat → Int32) (M_heaps : Int32) (M_holds : Int32) (M_back : Int32) (M_mistakes : Int32) (M_hooks : Int32) (M_letters : Int32) (M_rule : Nat → Int32) (M_coming : Nat → Int32) (M_comingMany : Int32) (M_going : Nat → Int32) (M_goingMany : Int32) (M_minute : Nat → Int32) (M_pile : Nat → Int32) (M_high : Nat → Int32) (M_where : Nat → Int32) (M_latest : Int32) (M_lifts : Nat → Int32) (M_begun : Nat → Int32) (M_left : Nat → Int32) (M_has : Nat → Int32) (M_lifted : Nat → Int32) (M_taken : Nat → Int32) (M_above : Nat → Int32) (M_allLifts : Int32) (M_busy : Int32) (p1 : Int32) (hf : 100 < fuel) (hr : okR r) (hm : mR r M_guests M_kind M_figure M_told M_heaps M_holds M_back M_mistakes M_hooks M_letters M_rule) (ht : t < 2 ^ 31) (hp : p1 = nI t) : ∃ o, fX10_byTurn fuel M_guests M_kind M_figure M_told M_heaps M_holds M_back M_mistakes M_hooks M_letters M_rule M_coming M_comingMany M_going M_goingMany M_minute M_pile M_high M_where M_latest M_lifts M_begun M_left M_has M_lifted M_taken M_above M_allLifts M_busy p1 = some o ∧ o.1 = nI (tnT r t) := by
  subst hp
  unfold fX10_byTurn
  obtain ⟨u, u1, u2, u3, u4, u5, u6⟩ := sX10_usualR hf hr hm M_coming M_comingMany M_going M_goingMany M_minute
  obtain ⟨w, w1, w2, w3⟩ := sX10_layR (fuel := fuel) hf hr ⟨M_told, hm⟩ u6 (okC_range hr) u2 M_pile M_high M_where M_latest
  rw [List.length_range] at w1
  obtain ⟨v, v1, v2, v3⟩ := sX10_go (fuel := fuel) (t := t) (rest := []) hf hr ⟨M_told, hm⟩ u6 (okC_range hr) (by rw [List.append_nil]; exact odR_perm r) (LI_C hr (okC_range hr)) w3 ht u4 rfl w2 M_lifts M_begun M_left M_has M_lifted M_taken M_above M_allLifts M_busy
  rw [odR_len] at v1
  rw [u1, zbs, u3, w1, zbs, u5, v1, zbs]
  exact ⟨_, rfl, v2⟩
theorem sX9_isMinute {fuel : Nat} (p : Int32) : fX9_isMinute fuel p = some (zb01 (decide (nI 0 ≤ p ∧ p ≤ nI 99))) := by
  unfold fX9_isMinute
  rcases icase p with h | ⟨k, hk, rfl⟩
  · have : decide (nI 0 ≤ p ∧ p ≤ nI 99) = false := decide_eq_false (fun q => by rw [(zneg h).1 0 (by decide)] at q; exact q.1)
    rw [this]
    simp (disch := omega) only [zlit, zz, if_pos, if_neg, if_true, if_false, zgd', zl, zbs, zbz, encz, zneg h]
  · by_cases q : k ≤ 99
    · have : decide (nI 0 ≤ nI k ∧ nI k ≤ nI 99) = true := decide_eq_true ⟨(nI_leI (by decide) hk).mpr (Nat.zero_le _), (nI_leI hk (by decide)).mpr q⟩
      rw [this]
      simp (disch := omega) only [zlit, zz, if_pos, if_neg, if_true, if_false, zgd', zl, zbs, zbz, encz]
    · have : decide (nI 0 ≤ nI k ∧ nI k ≤ nI 99) = false := decide_eq_false (fun h => q ((nI_leI hk (by decide)).mp h.2))
      rw [this]
      simp (disch := omega) only [zlit, zz, if_pos, if_neg, if_true, if_false, zgd', zl, zbs, zbz, encz]
theorem u_turn {r : SR} (fuel : Nat) (d_guests : Int32) (d_kinds : Nat → Int32) (d_figures : Nat → Int32) (d_minutes : Nat → Int32) (d_settings : Nat → Int32) (d_hooks : Int32) (d_letters : Nat → Int32) (d_letterCount : Int32) (m_room : Nat) (m_order : Nat → Int32) (m_weights : Nat → Int32) (m_black : Nat → Int32) (m_lifts : Nat → Int32) (m_begins : Nat → Int32) (m_ends : Nat → Int32) (m_has : Nat → Int32) (m_lifted : Nat → Int32) (m_allLifts : Int32) (m_doneAt : Int32) (z_going : Nat → Int32) (z_coming : Nat → Int32) (z_holds : Int32) (z_latest : Int32) (c_heaps : Int32) (c_piles : Nat → Nat → Int32) (c_heights : Nat → Int32) (c_spots : Nat → Int32) (ad_d : Nat → Nat) (p1 : Int32) (M_guests : Int32) (M_kind : Nat → Int32) (M_figure : Nat → Int32) (M_told : Nat → Int32) (M_heaps : Int32) (M_holds : Int32) (M_back : Int32) (M_mistakes : Int32) (M_hooks : Int32) (M_letters : Int32) (M_rule : Nat → Int32) (M_coming : Nat → Int32) (M_comingMany : Int32) (M_going : Nat → Int32) (M_goingMany : Int32) (M_minute : Nat → Int32) (M_pile : Nat → Int32) (M_high : Nat → Int32) (M_where : Nat → Int32) (M_latest : Int32) (M_lifts : Nat → Int32) (M_begun : Nat → Int32) (M_left : Nat → Int32) (M_has : Nat → Int32) (M_lifted : Nat → Int32) (M_taken : Nat → Int32) (M_above : Nat → Int32) (M_allLifts : Int32) (M_busy : Int32) (hf : 100 < fuel) (hr : okR r) (hc : cR r d_guests d_kinds d_figures d_minutes d_settings d_hooks d_letters d_letterCount) (hm : mR r M_guests M_kind M_figure M_told M_heaps M_holds M_back M_mistakes M_hooks M_letters M_rule) : ∃ o p, fX9_turn fuel d_guests d_kinds d_figures d_minutes d_settings d_hooks d_letters d_letterCount m_room m_order m_weights m_black m_lifts m_begins m_ends m_has m_lifted m_allLifts m_doneAt z_going z_coming z_holds z_latest c_heaps c_piles c_heights c_spots ad_d p1 = some o ∧ fX10_turn fuel M_guests M_kind M_figure M_told M_heaps M_holds M_back M_mistakes M_hooks M_letters M_rule M_coming M_comingMany M_going M_goingMany M_minute M_pile M_high M_where M_latest M_lifts M_begun M_left M_has M_lifted M_taken M_above M_allLifts M_busy p1 = some p ∧ o.1 = p.1 := by
  unfold fX9_turn fX10_turn
  have e0 : (0 : Int32) = nI 0 := rfl
  have e9 : (99 : Int32) = nI 99 := rfl
  rw [e0, e9, sX9_isMinute, sX10_isIn, zbs, zbs]
  rcases bcase (p := p1) (m := 99) (by decide) with ⟨k, hk, rfl, hd⟩ | hd
  · rw [hd]
    have ht : ¬ zb01 true = nI 0 := z10
    rw [if_neg ht, if_neg ht]
    obtain ⟨y, y1, y2⟩ := sX8_liftsWithTurn (t := k) fuel m_order m_weights m_black m_lifts m_begins m_ends m_has m_lifted m_allLifts m_doneAt z_going z_coming z_holds z_latest c_heaps c_piles c_heights c_spots d_guests d_kinds d_figures d_minutes d_settings d_hooks d_letters d_letterCount (nI k) hf hr hc (by omega) rfl
    obtain ⟨w, w1, w2⟩ := sX10_byTurn (t := k) fuel M_guests M_kind M_figure M_told M_heaps M_holds M_back M_mistakes M_hooks M_letters M_rule M_coming M_comingMany M_going M_goingMany M_minute M_pile M_high M_where M_latest M_lifts M_begun M_left M_has M_lifted M_taken M_above M_allLifts M_busy (nI k) hf hr hm (by omega) rfl
    rw [y1, w1, zbs, zbs]
    exact ⟨_, _, rfl, rfl, by rw [y2, w2]⟩
  · rw [hd]
    have ht : zb01 false = nI 0 := rfl
    rw [if_pos ht, if_pos ht]
    exact ⟨_, _, rfl, rfl, rfl⟩
/-- the first minute by which there are fewer lifts -/
def tnS (T : Nat → Nat) : Nat → Nat → Option Nat → Nat → Option Nat
  | 0, _, b, _ => b
  | m + 1, i, b, L => if T i < L then tnS T m (i + 1) (some i) (T i) else tnS T m (i + 1) b L
theorem sX8_findFewer {fuel x t L : Nat} {f : Int32} (ht : t < 2 ^ 31) (hL : L < 2 ^ 31) : fX8_findIfFewer fuel f (nI L) (nI x) (nI t) = some (if t < L then (nI x, nI t) else (f, nI L)) := by
  unfold fX8_findIfFewer fX8_findIfFewer_J17
  have e4 : (-4 : Int32) = zNo := rfl
  rw [e4]
  by_cases q : t < L
  · simp (disch := omega) only [zlit, zz, if_pos, if_neg, if_true, if_false, zgd', zl, zbs, zbz, encz]
  · simp (disch := omega) only [zlit, zz, if_pos, if_neg, if_true, if_false, zgd', zl, zbs, zbz, encz]
theorem sX8_bestTurn_L28 {r : SR} (fuel : Nat) (r_guests : Int32) (r_settings : Nat → Int32) (r_hooks : Int32) (r_letters : Nat → Int32) (r_letterCount : Int32) {r_kinds r_figures r_minutes : Nat → Int32} (hf : 100 < fuel) (hr : okR r) (hc : cR r r_guests r_kinds r_figures r_minutes r_settings r_hooks r_letters r_letterCount) :
    ∀ (m n i L : Nat) (tpv b : Option Nat) (n_order : Nat → Int32) (n_weights : Nat → Int32) (n_black : Nat → Int32) (n_lifts : Nat → Int32) (n_begins : Nat → Int32) (n_ends : Nat → Int32) (n_has : Nat → Int32) (n_lifted : Nat → Int32) (n_allLifts : Int32) (n_doneAt : Int32) (y_going : Nat → Int32) (y_coming : Nat → Int32) (y_holds : Int32) (y_latest : Int32) (b_heaps : Int32) (b_piles : Nat → Nat → Int32) (b_heights : Nat → Int32) (b_spots : Nat → Int32), i + m = 100 → m < n → L ≤ 1000 → L ≤ tnG r none → L ≤ tnG r tpv → bgR r n_weights n_black y_going → arr n_order (odR r) → arr y_coming (List.range (rN r)) → (∀ t, tpv = some t → t < 1000) →
      ∃ o, fX8_bestMinuteToTurn_L28 fuel r_guests r_settings r_hooks r_letters r_letterCount n (enc tpv) (nI i) (enc b) (nI L) n_order n_weights n_black n_lifts n_begins n_ends n_has n_lifted n_allLifts n_doneAt y_going y_coming y_holds y_latest b_heaps b_piles b_heights b_spots = some o ∧ o.1 = enc (tnS (tnT r) m i b L) := by
  intro m
  induction m with
  | zero =>
    intro n i L tpv b n_order n_weights n_black n_lifts n_begins n_ends n_has n_lifted n_allLifts n_doneAt y_going y_coming y_holds y_latest b_heaps b_piles b_heights b_spots h1 h2 hL hL1 hL2 hb had hco htv
    obtain ⟨n, rfl⟩ : ∃ k, n = k + 1 := ⟨n - 1, by omega⟩
    rw [fX8_bestMinuteToTurn_L28]
    simp (disch := omega) only [zlit, zz, if_pos, if_neg, if_true, if_false, zgd', zl, zbs, zbz, encz]
    exact ⟨_, rfl, rfl⟩
  | succ m ih =>
    intro n i L tpv b n_order n_weights n_black n_lifts n_begins n_ends n_has n_lifted n_allLifts n_doneAt y_going y_coming y_holds y_latest b_heaps b_piles b_heights b_spots h1 h2 hL hL1 hL2 hb had hco htv
    obtain ⟨n, rfl⟩ : ∃ k, n = k + 1 := ⟨n - 1, by omega⟩
    have hff := sX3_firstFromMinute (fuel := fuel) (t := i) hf hr.1 (by omega) hb.2.2 had (odR_len r) (fun x hx => odR_mem.mp hx)
    rw [← hc.1] at hff
    rw [fX8_bestMinuteToTurn_L28, tnS]
    have hT : tnT r i = tnG r (tpS (mnR r) i (odR r)) := rfl
    have htl := tnG_le hr (tpS (mnR r) i (odR r))
    have e4 : (-4 : Int32) = zNo := rfl
    cases hq : tpS (mnR r) i (odR r) with
    | none =>
      rw [hq] at hff hT
      rw [if_neg (show ¬ tnT r i < L by omega)]
      simp (disch := omega) only [zlit, zz, if_pos, if_neg, if_true, if_false, zgd', zl, zbs, zbz, encz, hff, fX8_bestMinuteToTurn_J69]
      exact ih n (i + 1) L none b n_order n_weights n_black n_lifts n_begins n_ends n_has n_lifted n_allLifts n_doneAt y_going y_coming y_holds y_latest b_heaps b_piles b_heights b_spots (by omega) (by omega) hL hL1 hL1 hb had hco (fun t ht => by cases ht)
    | some j =>
      have hj := tpS_lt hr hq
      rw [hq] at hff hT htl
      by_cases q : tpv = some j
      · subst q
        rw [if_neg (show ¬ tnT r i < L by omega)]
        simp (disch := omega) only [zlit, zz, if_pos, if_neg, if_true, if_false, zgd', zl, zbs, zbz, encz, hff, fX8_bestMinuteToTurn_J69]
        exact ih n (i + 1) L (some j) b n_order n_weights n_black n_lifts n_begins n_ends n_has n_lifted n_allLifts n_doneAt y_going y_coming y_holds y_latest b_heaps b_piles b_heights b_spots (by omega) (by omega) hL hL1 hL2 hb had hco htv
      · have hne : ¬ nI j = enc tpv := by
          cases tpv with
          | none => exact fun h => nI_m4 (by omega) h
          | some t =>
            have := htv t rfl
            show ¬ nI j = nI t
            rw [nI_eq (by omega) (by omega)]
            exact fun h => q (by rw [h])
        obtain ⟨o, o1, o2⟩ := sX8_liftsInOrder fuel n_order n_weights n_black n_lifts n_begins n_ends n_has n_lifted n_allLifts n_doneAt y_going y_coming y_holds y_latest b_heaps b_piles b_heights b_spots r_guests r_settings r_hooks r_letters r_letterCount (nI j) hf hr hc hb (okO_range r) (okO_od r) hco had (tp := some j) (fun t ht => by cases ht; exact hj) rfl
        have o2' : o.1 = nI (tnT r i) := by rw [o2, hT]; rfl
        by_cases q2 : tnT r i < L
        · rw [if_pos q2]
          simp (disch := omega) only [zlit, zz, if_pos, if_neg, if_true, if_false, zgd', zl, zbs, zbz, encz, hff, hne, o1, o2', sX8_findFewer, fX8_bestMinuteToTurn_J69]
          exact ih n (i + 1) (tnT r i) (some j) (some i) _ _ _ _ _ _ _ _ _ _ _ _ _ _ _ _ _ _ (by omega) (by omega) (by omega) (by omega) (by omega) hb had hco (fun t ht => by cases ht; exact hj)
        · rw [if_neg q2]
          simp (disch := omega) only [zlit, zz, if_pos, if_neg, if_true, if_false, zgd', zl, zbs, zbz, encz, hff, hne, o1, o2', sX8_findFewer, fX8_bestMinuteToTurn_J69]
          exact ih n (i + 1) L (some j) b _ _ _ _ _ _ _ _ _ _ _ _ _ _ _ _ _ _ (by omega) (by omega) hL hL1 (by omega) hb had hco (fun t ht => by cases ht; exact hj)
theorem sX10_bestTurn_L10 {r : SR} (fuel : Nat) (M_guests : Int32) (M_kind : Nat → Int32) (M_figure : Nat → Int32) (M_told : Nat → Int32) (M_heaps : Int32) (M_holds : Int32) (M_back : Int32) (M_mistakes : Int32) (M_hooks : Int32) (M_letters : Int32) (M_rule : Nat → Int32) (hf : 100 < fuel) (hr : okR r) (hm : mR r M_guests M_kind M_figure M_told M_heaps M_holds M_back M_mistakes M_hooks M_letters M_rule) :
    ∀ (m n i L : Nat) (b : Option Nat) (M_coming : Nat → Int32) (M_comingMany : Int32) (M_going : Nat → Int32) (M_goingMany : Int32) (M_minute : Nat → Int32) (M_pile : Nat → Int32) (M_high : Nat → Int32) (M_where : Nat → Int32) (M_latest : Int32) (M_lifts : Nat → Int32) (M_begun : Nat → Int32) (M_left : Nat → Int32) (M_has : Nat → Int32) (M_lifted : Nat → Int32) (M_taken : Nat → Int32) (M_above : Nat → Int32) (M_allLifts : Int32) (M_busy : Int32), i + m = 100 → m < n → L ≤ 1000 → ∃ p, fX10_bestTurn_L10 fuel M_guests M_kind M_figure M_told M_heaps M_holds M_back M_mistakes M_hooks M_letters M_rule n (enc b) (nI L) (nI i) M_coming M_comingMany M_going M_goingMany M_minute M_pile M_high M_where M_latest M_lifts M_begun M_left M_has M_lifted M_taken M_above M_allLifts M_busy = some p ∧ p.1 = enc (tnS (tnT r) m i b L) := by
  intro m
  induction m with
  | zero =>
    intro n i L b M_coming M_comingMany M_going M_goingMany M_minute M_pile M_high M_where M_latest M_lifts M_begun M_left M_has M_lifted M_taken M_above M_allLifts M_busy h1 h2 hL
    obtain ⟨n, rfl⟩ : ∃ k, n = k + 1 := ⟨n - 1, by omega⟩
    rw [fX10_bestTurn_L10]
    simp (disch := omega) only [zlit, zz, if_pos, if_neg, if_true, if_false, zgd', zl, zbs, zbz, encz]
    exact ⟨_, rfl, rfl⟩
  | succ m ih =>
    intro n i L b M_coming M_comingMany M_going M_goingMany M_minute M_pile M_high M_where M_latest M_lifts M_begun M_left M_has M_lifted M_taken M_above M_allLifts M_busy h1 h2 hL
    obtain ⟨n, rfl⟩ : ∃ k, n = k + 1 := ⟨n - 1, by omega⟩
    obtain ⟨w, w1, w2⟩ := sX10_byTurn (t := i) fuel M_guests M_kind M_figure M_told M_heaps M_holds M_back M_mistakes M_hooks M_letters M_rule M_coming M_comingMany M_going M_goingMany M_minute M_pile M_high M_where M_latest M_lifts M_begun M_left M_has M_lifted M_taken M_above M_allLifts M_busy (nI i) hf hr hm (by omega) rfl
    have htl : tnT r i ≤ 1000 := tnG_le hr _
    rw [fX10_bestTurn_L10, tnS]
    by_cases q : tnT r i < L
    · have e : min L (tnT r i) = tnT r i := Nat.min_eq_right (by omega)
      rw [if_pos q]
      simp (disch := omega) only [zlit, zz, if_pos, if_neg, if_true, if_false, zgd', zl, zbs, zbz, encz, w1, w2, nI_zmin, e]
      exact ih n (i + 1) (tnT r i) (some i) _ _ _ _ _ _ _ _ _ _ _ _ _ _ _ _ _ _ (by omega) (by omega) htl
    · have e : min L (tnT r i) = L := Nat.min_eq_left (by omega)
      rw [if_neg q]
      simp (disch := omega) only [zlit, zz, if_pos, if_neg, if_true, if_false, zgd', zl, zbs, zbz, encz, w1, w2, nI_zmin, e]
      exact ih n (i + 1) L b _ _ _ _ _ _ _ _ _ _ _ _ _ _ _ _ _ _ (by omega) (by omega) hL
theorem u_bestTurn {r : SR} (fuel : Nat) (d_guests : Int32) (d_kinds : Nat → Int32) (d_figures : Nat → Int32) (d_minutes : Nat → Int32) (d_settings : Nat → Int32) (d_hooks : Int32) (d_letters : Nat → Int32) (d_letterCount : Int32) (q_found : Int32) (q_foundLifts : Int32) (m_order : Nat → Int32) (m_weights : Nat → Int32) (m_black : Nat → Int32) (m_lifts : Nat → Int32) (m_begins : Nat → Int32) (m_ends : Nat → Int32) (m_has : Nat → Int32) (m_lifted : Nat → Int32) (m_allLifts : Int32) (m_doneAt : Int32) (z_going : Nat → Int32) (z_coming : Nat → Int32) (z_holds : Int32) (z_latest : Int32) (c_heaps : Int32) (c_piles : Nat → Nat → Int32) (c_heights : Nat → Int32) (c_spots : Nat → Int32) (M_guests : Int32) (M_kind : Nat → Int32) (M_figure : Nat → Int32) (M_told : Nat → Int32) (M_heaps : Int32) (M_holds : Int32) (M_back : Int32) (M_mistakes : Int32) (M_hooks : Int32) (M_letters : Int32) (M_rule : Nat → Int32) (M_coming : Nat → Int32) (M_comingMany : Int32) (M_going : Nat → Int32) (M_goingMany : Int32) (M_minute : Nat → Int32) (M_pile : Nat → Int32) (M_high : Nat → Int32) (M_where : Nat → Int32) (M_latest : Int32) (M_lifts : Nat → Int32) (M_begun : Nat → Int32) (M_left : Nat → Int32) (M_has : Nat → Int32) (M_lifted : Nat → Int32) (M_taken : Nat → Int32) (M_above : Nat → Int32) (M_allLifts : Int32) (M_busy : Int32) (hf : 1000 < fuel) (hr : okR r) (hc : cR r d_guests d_kinds d_figures d_minutes d_settings d_hooks d_letters d_letterCount) (hm : mR r M_guests M_kind M_figure M_told M_heaps M_holds M_back M_mistakes M_hooks M_letters M_rule) : ∃ o p, fX9_bestTurn fuel d_guests d_kinds d_figures d_minutes d_settings d_hooks d_letters d_letterCount q_found q_foundLifts m_order m_weights m_black m_lifts m_begins m_ends m_has m_lifted m_allLifts m_doneAt z_going z_coming z_holds z_latest c_heaps c_piles c_heights c_spots = some o ∧ fX10_bestTurn fuel M_guests M_kind M_figure M_told M_heaps M_holds M_back M_mistakes M_hooks M_letters M_rule M_coming M_comingMany M_going M_goingMany M_minute M_pile M_high M_where M_latest M_lifts M_begun M_left M_has M_lifted M_taken M_above M_allLifts M_busy = some p ∧ o.1 = p.1 := by
  have hf' : 100 < fuel := by omega
  unfold fX9_bestTurn fX10_bestTurn fX8_bestMinuteToTurn fX8_findNothing
  obtain ⟨b, b1, b2, b3, b4, b5, b6⟩ := sX3_beginR hf' hr hc m_order m_weights m_black z_going z_coming
  obtain ⟨y, y1, y2⟩ := sX8_liftsInOrder fuel b.1 b.2.1 b.2.2.1 m_lifts m_begins m_ends m_has m_lifted m_allLifts m_doneAt b.2.2.2.1 b.2.2.2.2 z_holds z_latest c_heaps c_piles c_heights c_spots d_guests d_settings d_hooks d_letters d_letterCount (enc none) hf' hr hc ⟨b3, b4, b5⟩ (okO_range r) (okO_od r) b6 b2 (fun i hi => by cases hi) rfl
  obtain ⟨w, w1, w2, -⟩ := sX10_night hf' hr hm M_coming M_comingMany M_going M_goingMany M_minute M_pile M_high M_where M_latest M_lifts M_begun M_left M_has M_lifted M_taken M_above M_allLifts M_busy
  have e4 : (-4 : Int32) = enc none := rfl
  have e0 : (0 : Int32) = nI 0 := rfl
  have hall : sAll (nightR r) = tnG r none := rfl
  have y2' : y.1 = nI (tnG r none) := y2
  rw [hall] at w2
  rw [b1, zbs, zbs, e4, y1, zbs, w1, zbs, e0, y2', w2]
  have hle := tnG_le hr none
  obtain ⟨o, o1, o2⟩ := sX8_bestTurn_L28 fuel d_guests d_settings d_hooks d_letters d_letterCount hf' hr hc 100 fuel 0 (tnG r none) none none b.1 b.2.1 b.2.2.1 y.2.1 y.2.2.1 y.2.2.2.1 y.2.2.2.2.1 y.2.2.2.2.2.1 y.2.2.2.2.2.2.1 y.2.2.2.2.2.2.2.1 b.2.2.2.1 b.2.2.2.2 y.2.2.2.2.2.2.2.2.1 y.2.2.2.2.2.2.2.2.2.1 y.2.2.2.2.2.2.2.2.2.2.1 y.2.2.2.2.2.2.2.2.2.2.2.1 y.2.2.2.2.2.2.2.2.2.2.2.2.1 y.2.2.2.2.2.2.2.2.2.2.2.2.2 (by omega) (by omega) hle (Nat.le_refl _) (Nat.le_refl _) ⟨b3, b4, b5⟩ b2 b6 (fun t ht => by cases ht)
  obtain ⟨p, p1, p2⟩ := sX10_bestTurn_L10 fuel M_guests M_kind M_figure M_told M_heaps M_holds M_back M_mistakes M_hooks M_letters M_rule hf' hr hm 100 fuel 0 (tnG r none) none w.2.1 w.2.2.1 w.2.2.2.1 w.2.2.2.2.1 w.2.2.2.2.2.1 w.2.2.2.2.2.2.1 w.2.2.2.2.2.2.2.1 w.2.2.2.2.2.2.2.2.1 w.2.2.2.2.2.2.2.2.2.1 w.2.2.2.2.2.2.2.2.2.2.1 w.2.2.2.2.2.2.2.2.2.2.2.1 w.2.2.2.2.2.2.2.2.2.2.2.2.1 w.2.2.2.2.2.2.2.2.2.2.2.2.2.1 w.2.2.2.2.2.2.2.2.2.2.2.2.2.2.1 w.2.2.2.2.2.2.2.2.2.2.2.2.2.2.2.1 w.2.2.2.2.2.2.2.2.2.2.2.2.2.2.2.2.1 w.2.2.2.2.2.2.2.2.2.2.2.2.2.2.2.2.2.1 w.2.2.2.2.2.2.2.2.2.2.2.2.2.2.2.2.2.2 (by omega) (by omega) hle
  rw [o1, zbs, p1]
  exact ⟨_, _, rfl, rfl, by rw [p2]; exact o2⟩
