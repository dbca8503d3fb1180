/-! The calls: what is asked of a laying. -/
theorem icase (p : Int32) : p < nI 0 ∨ ∃ k, k < 2 ^ 31 ∧ p = nI k := by
  by_cases h : p < nI 0
  · exact Or.inl h
  · right
    rw [Int32.lt_iff_toInt_lt, nI_toInt (by decide)] at h
    have h1 : p.toInt < 2 ^ 31 := Int32.toInt_lt p
    refine ⟨p.toInt.toNat, by omega, ?_⟩
    apply Int32.toInt_inj.mp
    rw [nI_toInt (by omega)]
    omega
theorem zneg {p : Int32} (h : p < nI 0) : (∀ k : Nat, k < 2 ^ 31 → (nI k ≤ p) = False) ∧ (∀ k : Nat, k < 2 ^ 31 → (p ≤ nI k) = True) ∧ (∀ k : Nat, k < 2 ^ 31 → (p < nI k) = True) ∧ (∀ k : Nat, k < 2 ^ 31 → (p = nI k) = False) ∧ (∀ k : Nat, k < 2 ^ 31 → (nI k = p) = False) ∧ (∀ k : Nat, k < 2 ^ 31 → (nI k < p) = False) := by
  rw [Int32.lt_iff_toInt_lt, nI_toInt (by decide)] at h
  refine ⟨fun k hk => ?_, fun k hk => ?_, fun k hk => ?_, fun k hk => ?_, fun k hk => ?_, fun k hk => ?_⟩
  · refine eq_false fun q => ?_
    rw [Int32.le_iff_toInt_le, nI_toInt hk] at q
    omega
  · refine eq_true ?_
    rw [Int32.le_iff_toInt_le, nI_toInt hk]
    omega
  · refine eq_true ?_
    rw [Int32.lt_iff_toInt_lt, nI_toInt hk]
    omega
  · refine eq_false fun q => ?_
    rw [q, nI_toInt hk] at h
    omega
  · refine eq_false fun q => ?_
    rw [← q, nI_toInt hk] at h
    omega
  · refine eq_false fun q => ?_
    rw [Int32.lt_iff_toInt_lt, nI_toInt hk] at q
    omega
theorem ixm_ge' {p : Int32} {n : Nat} (hn : n < 1000) : (p ≤ ixm n) = (p < nI n) := by
  rw [Int32.le_iff_toInt_le, Int32.lt_iff_toInt_lt, ixm_toInt hn, nI_toInt (by omega)]
  exact propext ⟨fun h => by omega, fun h => by omega⟩
theorem z10 : ¬ nI 1 = nI 0 := by decide
theorem z00 : nI 0 = nI 0 := rfl
/-- is it a guest -/
theorem gcase {fuel N : Nat} (hN : N ≤ 10) (p : Int32) : (∃ k, k < N ∧ p = nI k ∧ fX5_hasGuest fuel (nI N) p = some (nI 1) ∧ fX10_isGuest fuel (nI N) p = some (nI 1)) ∨ (fX5_hasGuest fuel (nI N) p = some (nI 0) ∧ fX10_isGuest fuel (nI N) p = some (nI 0)) := by
  have e1 : (1 : Int32) = nI 1 := rfl
  have e0 : (0 : Int32) = nI 0 := rfl
  have e9 : nI N - nI 1 = ixm N := rfl
  unfold fX5_hasGuest fX10_isGuest
  have hdd : decide (nI 0 ≤ p ∧ p ≤ ixm N) = decide (nI 0 ≤ p ∧ p < nI N) := decide_eq_decide.mpr (by rw [ixm_ge' (by omega)])
  rw [sX10_isIn, e0, e1, e9, hdd]
  rcases icase p with h | ⟨k, hk, rfl⟩
  · right
    have hz := zneg h
    have hd : decide (nI 0 ≤ p ∧ p < nI N) = false := decide_eq_false (fun q => by rw [hz.1 0 (by decide)] at q; exact q.1)
    rw [if_pos h, hd]
    exact ⟨rfl, rfl⟩
  · by_cases q : k < N
    · left
      refine ⟨k, q, rfl, ?_, ?_⟩
      · simp (disch := omega) only [zlit, zz, if_pos, if_neg, if_true, if_false, zgd', zl, zbs, zbz, encz]
      · have : decide (nI 0 ≤ nI k ∧ nI k < nI N) = true := decide_eq_true ⟨(nI_leI (by decide) hk).mpr (Nat.zero_le _), (nI_ltI hk (by omega)).mpr q⟩
        rw [this]
        rfl
    · right
      refine ⟨?_, ?_⟩
      · simp (disch := omega) only [zlit, zz, if_pos, if_neg, if_true, if_false, zgd', zl, zbs, zbz, encz]
      · have : decide (nI 0 ≤ nI k ∧ nI k < nI N) = false := decide_eq_false (fun h => q ((nI_ltI hk (by omega)).mp h.2))
        rw [this]
        rfl
/-- is it a heap -/
theorem hcase {fuel : Nat} (p : Int32) : (∃ k, k < 3 ∧ p = nI k ∧ fX9_isHeap fuel p = some (nI 1) ∧ fX10_isIn fuel p (nI 0) (nI 2) = some (nI 1)) ∨ (fX9_isHeap fuel p = some (nI 0) ∧ fX10_isIn fuel p (nI 0) (nI 2) = some (nI 0)) := by
  rw [sX10_isIn]
  rcases icase p with h | ⟨k, hk, rfl⟩
  · right
    have hz := zneg h
    refine ⟨?_, ?_⟩
    · unfold fX9_isHeap
      simp (disch := omega) only [zlit, zz, if_pos, if_neg, if_true, if_false, zgd', zl, zbs, zbz, encz, hz]
    · have hd : decide (nI 0 ≤ p ∧ p ≤ nI 2) = false := decide_eq_false (fun q => by rw [hz.1 0 (by decide)] at q; exact q.1)
      rw [hd]; rfl
  · rw [sX9_isHeap hk]
    by_cases q : k < 3
    · left
      refine ⟨k, q, rfl, by rw [decide_eq_true q]; rfl, ?_⟩
      have : decide (nI 0 ≤ nI k ∧ nI k ≤ nI 2) = true := decide_eq_true ⟨(nI_leI (by decide) hk).mpr (Nat.zero_le _), (nI_leI hk (by decide)).mpr (by omega)⟩
      rw [this]; rfl
    · right
      refine ⟨by rw [decide_eq_false q]; rfl, ?_⟩
      have : decide (nI 0 ≤ nI k ∧ nI k ≤ nI 2) = false := decide_eq_false (fun h => by have := (nI_leI hk (by decide)).mp h.2; omega)
      rw [this]; rfl
/-- a coat of a heap, as both tell it -/
theorem sX0_coatAt {fuel N h k : Nat} {H : HP} {pi : Nat → Nat → Int32} {hts : Nat → Int32} (hB : cB H pi hts) (hk : okH N H) (h3 : h < 3) (hk2 : k < 2 ^ 31) : fX0_coatAt fuel pi hts (nI h) (nI k) = some (enc (H h)[k]?) := by
  have hl := (hk h).1
  obtain ⟨b1, b2⟩ := hB h h3
  unfold fX0_coatAt
  by_cases q : (H h).length ≤ k
  · simp (disch := omega) only [zlit, zz, if_pos, if_neg, if_true, if_false, zgd', zl, zbs, zbz, encz, b1]
    rw [List.getElem?_eq_none q]
    rfl
  · have hc := List.getElem?_eq_getElem (l := H h) (i := k) (by omega)
    have := b2 k _ hc
    rw [hc]
    simp (disch := omega) only [zlit, zz, if_pos, if_neg, if_true, if_false, zgd', zl, zbs, zbz, encz, b1, this]
/-- what laid gives -/
theorem sX9_laid {r : SR} (fuel : Nat) (d_guests : Int32) (d_kinds : Nat → Int32) (d_figures : Nat → Int32) (d_minutes : Nat → Int32) (d_settings : Nat → Int32) (d_hooks : Int32) (d_letters : Nat → Int32) (d_letterCount : Int32) (n_order : Nat → Int32) (n_weights : Nat → Int32) (n_black : Nat → Int32) (y_going : Nat → Int32) (y_coming : Nat → Int32) (y_holds : Int32) (y_latest : Int32) (b_heaps : Int32) (b_piles : Nat → Nat → Int32) (b_heights : Nat → Int32) (b_spots : Nat → Int32) (hf : 100 < fuel) (hr : okR r) (hc : cR r d_guests d_kinds d_figures d_minutes d_settings d_hooks d_letters d_letterCount) :
    ∃ o, fX9_laid fuel d_guests d_kinds d_figures d_minutes d_settings d_hooks d_letters d_letterCount n_order n_weights n_black y_going y_coming y_holds y_latest b_heaps b_piles b_heights b_spots = some o ∧ o.2.2.2.2.2.2.2.1 = nI (rHp r) ∧ cB (layR r (List.range (rN r))).1 o.2.2.2.2.2.2.2.2.1 o.2.2.2.2.2.2.2.2.2.1 ∧ ∀ x, x < rN r → o.2.2.2.2.2.2.2.2.2.2 x = encW ((layR r (List.range (rN r))).2.2 x) := by
  unfold fX9_laid
  obtain ⟨q, q1, q2, q3, q4, q5, q6⟩ := sX3_beginR hf hr hc n_order n_weights n_black y_going y_coming
  rw [q1, zbs]
  obtain ⟨y, y1, y2, y3, y4⟩ := sX2_layR hf hr hc (okO_range r) q5 q6 y_holds y_latest b_heaps b_piles b_heights b_spots
  rw [y1, zbs]
  exact ⟨_, rfl, y2, y3, fun x hx => y4 x (List.mem_range.mpr hx)⟩
theorem okH_lay {r : SR} {cs : List Nat} (hr : okR r) (hc : okC r cs) : okH (rN r) (layR r cs).1 := (LI_GI (mist := true) (bl := fun _ => true) (rem := []) hr.2.2.2.1 hc.2.2 hc.2.1 (LI_C hr hc) (by simp) (fun x hx => by simp at hx)).1
theorem nd_lay {r : SR} {cs : List Nat} (hr : okR r) (hc : okC r cs) : (flat (layR r cs).1).Nodup := (LI_C hr hc).2.2.2.1
theorem okC_range {r : SR} (hr : okR r) : okC r (List.range (rN r)) := okO_C hr (okO_range r)
theorem u_heap {r : SR} (fuel : Nat) (d_guests : Int32) (d_kinds : Nat → Int32) (d_figures : Nat → Int32) (d_minutes : Nat → Int32) (d_settings : Nat → Int32) (d_hooks : Int32) (d_letters : Nat → Int32) (d_letterCount : Int32) (n_room : Nat) (n_order : Nat → Int32) (n_weights : Nat → Int32) (n_black : Nat → Int32) (y_going : Nat → Int32) (y_coming : Nat → Int32) (y_holds : Int32) (y_latest : Int32) (b_heaps : Int32) (b_piles : Nat → Nat → Int32) (b_heights : Nat → Int32) (b_spots : Nat → Int32) (ad_d : Nat → Nat) (p1 : Int32) (p2 : Int32) (M_guests : Int32) (M_kind : Nat → Int32) (M_figure : Nat → Int32) (M_told : Nat → Int32) (M_heaps : Int32) (M_holds : Int32) (M_hooks : Int32) (M_letters : Int32) (M_rule : Nat → Int32) (M_coming : Nat → Int32) (M_comingMany : Int32) (M_going : Nat → Int32) (M_goingMany : Int32) (M_minute : Nat → Int32) (M_pile : Nat → Int32) (M_high : Nat → Int32) (M_where : Nat → Int32) (M_latest : Int32) (M_back : Int32) (M_mistakes : Int32) (hf : 100 < fuel) (hr : okR r) (hc : cR r d_guests d_kinds d_figures d_minutes d_settings d_hooks d_letters d_letterCount) (hm : mR r M_guests M_kind M_figure M_told M_heaps M_holds M_back M_mistakes M_hooks M_letters M_rule) : ∃ o p, fX9_heap fuel d_guests d_kinds d_figures d_minutes d_settings d_hooks d_letters d_letterCount n_room n_order n_weights n_black y_going y_coming y_holds y_latest b_heaps b_piles b_heights b_spots ad_d p1 p2 = some o ∧ fX10_heap fuel M_guests M_kind M_figure M_told M_heaps M_holds M_hooks M_letters M_rule M_coming M_comingMany M_going M_goingMany M_minute M_pile M_high M_where M_latest p1 p2 = some p ∧ o.1 = p.1 := by
  unfold fX9_heap fX10_heap
  have e0 : (0 : Int32) = nI 0 := rfl
  have e2 : (2 : Int32) = nI 2 := rfl
  have e1 : (-1 : Int32) = zAw := rfl
  have e4 : (-4 : Int32) = zNo := rfl
  have e10 : (10 : Int32) = nI 10 := rfl
  rcases hcase (fuel := fuel) p1 with ⟨h, h3, rfl, a1, a2⟩ | ⟨a1, a2⟩
  · rw [e0, e2, a1, a2, zbs, zbs, if_neg z10, if_neg z10, e1]
    by_cases q1 : zAw ≤ p2
    · rw [if_pos q1, if_pos q1]
      obtain ⟨y, y1, y2, y3, y4⟩ := sX9_laid fuel d_guests d_kinds d_figures d_minutes d_settings d_hooks d_letters d_letterCount n_order n_weights n_black y_going y_coming y_holds y_latest b_heaps b_piles b_heights b_spots hf hr hc
      obtain ⟨u, u1, u2, u3, u4, u5, u6⟩ := sX10_usualR hf hr hm M_coming M_comingMany M_going M_goingMany M_minute
      obtain ⟨w, w1, w2, w3⟩ := sX10_layR (fuel := fuel) hf hr ⟨M_told, hm⟩ u6 (okC_range hr) u2 M_pile M_high M_where M_latest
      rw [List.length_range] at w1
      rw [y1, u1, zbs, zbs, u3, w1, zbs]
      have hk := okH_lay hr (okC_range hr)
      have b1 := (y3 h h3).1
      have b2 := (w2 h h3).1
      have hl := (hk h).1
      by_cases q2 : p2 = zAw
      · rw [if_pos q2, if_pos q2]
        simp (disch := omega) only [zlit, zz, if_pos, if_neg, if_true, if_false, zgd', zl, zbs, zbz, encz, b1, b2]
        exact ⟨_, _, rfl, rfl, rfl⟩
      · rw [if_neg q2, if_neg q2]
        rcases icase p2 with q3 | ⟨k, hk2, rfl⟩
        · exfalso
          have a := Int32.le_iff_toInt_le.mp q1
          rw [zAw_toInt] at a
          have b := Int32.lt_iff_toInt_lt.mp q3
          rw [nI_toInt (by decide)] at b
          exact q2 (Int32.toInt_inj.mp (by rw [zAw_toInt]; omega))
        · rw [sX0_coatAt y3 hk h3 hk2, zbs, e4, e10]
          by_cases q4 : ((layR r (List.range (rN r))).1 h).length ≤ k
          · simp (disch := omega) only [zlit, zz, if_pos, if_neg, if_true, if_false, zgd', zl, zbs, zbz, encz, b2]
            refine ⟨_, _, rfl, rfl, ?_⟩
            rw [List.getElem?_eq_none q4]; rfl
          · have hcc := List.getElem?_eq_getElem (l := (layR r (List.range (rN r))).1 h) (i := k) (by omega)
            have := (w2 h h3).2 k _ hcc
            rw [hcc]
            simp (disch := omega) only [zlit, zz, if_pos, if_neg, if_true, if_false, zgd', zl, zbs, zbz, encz, b2, this]
            exact ⟨_, _, rfl, rfl, rfl⟩
    · rw [if_neg q1, if_neg q1]
      exact ⟨_, _, rfl, rfl, rfl⟩
  · rw [e0, e2, a1, a2, zbs, zbs, if_pos z00, if_pos z00]
    exact ⟨_, _, rfl, rfl, rfl⟩
