/-! The calls: sums, missing. -/
theorem zadd0 (v : Int32) : v + nI 0 = v := Int32.add_zero v
theorem sX10_misses {fuel : Nat} {r : SR} {en : Nat → Nat} {ki fi to mr lr : Nat → Int32} {i : Nat} (hr : okR r) (h : kfm (rN r) (rK r) (rF r) (rM r) ki fi to) (hb : lr i = nI (en i)) (hen : en i < 2 ^ 30) (hg : cM mr (mnR r) (rN r)) (hi : i < rN r) : fX10_misses fuel ki fi mr lr (nI i) = some (zb01 (msS r en i)) := by
  have hN := hr.1
  have e2 := hg i hi
  have e4 : spS (rK r i) (rF r i) ≤ 99 := by have := (hr.2.1 i hi).2.1; unfold spS; split <;> omega
  unfold fX10_misses msS
  simp (disch := omega) only [zlit, zz, if_pos, if_neg, if_true, if_false, zgd', zl, zbs, zbz, encz, sX10_spare hN h hi, hb, e2.1]
  by_cases q : en i ≤ mnR r i + spS (rK r i) (rF r i)
  · rw [if_pos q, decide_eq_false (by omega)]; rfl
  · rw [if_neg q, decide_eq_true (by omega)]; rfl
/-- one step of the sum that is asked for -/
def smS (r : SR) (s : GoS) (p : Int32) (k : Nat) (v : Int32) : Int32 :=
  if p = nI 1 then v + (nI (s.2.2.2.1 k) - nI (mnR r k)) else if p = nI 2 then (if decide (s.2.1 k ≠ some k ∧ s.2.1 k ≠ none) = true then v + nI 1 else v) else if p = nI 3 then (if decide (s.2.1 k = none) = true then v + nI 1 else v) else (if msS r s.2.2.2.2.1 k = true then v + nI 1 else v)
theorem sX10_sums_L24 {fuel : Nat} {r : SR} {s : GoS} {wh : Nat → Nat} {p1 : Int32} {ki fi to : Nat → Int32} (hr : okR r) (h : kfm (rN r) (rK r) (rF r) (rM r) ki fi to) (hH : HI (rN r) wh s) (v1 : Nat → Int32) (v2 : Int32) (v2' : Nat → Int32) (v4 : Int32) (mr v6 v7 v8 : Nat → Int32) (v9 : Int32) (w1 be lr ha w5 w6 w7 : Nat → Int32) (w8 w9 : Int32) (hM : cM mr (mnR r) (rN r)) (hk : ∀ x ∈ List.range (rN r), x ∉ ([] : List Nat) → w1 x = nI (s.2.2.1 x) ∧ ha x = enc (s.2.1 x) ∧ be x = nI (s.2.2.2.1 x) ∧ lr x = nI (s.2.2.2.2.1 x)) (al : Int32) :
    ∀ (m n i : Nat) (su ma : Int32), i + m = rN r → m < n → ∃ p, fX10_sums_L24 fuel (nI (rN r)) ki fi p1 n al su ma (nI i) v1 v2 v2' v4 mr v6 v7 v8 v9 w1 be lr ha w5 w6 w7 w8 w9 = some p ∧ p.1 = if p1 = nI 0 then al else if p1 = nI 4 then zfold (fun k v => zmax v (nI (s.2.2.2.2.1 k))) m i ma else zfold (smS r s p1) m i su := by
  have hN := hr.1
  intro m
  induction m with
  | zero =>
    intro n i su ma h1 h2
    obtain ⟨n, rfl⟩ : ∃ k, n = k + 1 := ⟨n - 1, by omega⟩
    rw [fX10_sums_L24]
    simp (disch := omega) only [zlit, zz, if_pos, if_neg, if_true, if_false, zgd', zl, zbs, zbz, encz, fX10_sums_J178]
    by_cases q0 : p1 = nI 0
    · rw [if_pos q0, if_pos q0]; exact ⟨_, rfl, rfl⟩
    · rw [if_neg q0, if_neg q0]
      by_cases q4 : p1 = nI 4
      · rw [if_pos q4, if_pos q4]; exact ⟨_, rfl, rfl⟩
      · rw [if_neg q4, if_neg q4]; exact ⟨_, rfl, rfl⟩
  | succ m ih =>
    intro n i su ma h1 h2
    obtain ⟨n, rfl⟩ : ∃ k, n = k + 1 := ⟨n - 1, by omega⟩
    have hi : i < rN r := by omega
    obtain ⟨k1, k2, k3, k4⟩ := hk i (List.mem_range.mpr hi) (by simp)
    have k5 := (hM i hi).1
    have k6 := hH.2.2.2.1 i
    have hms := sX10_misses (fuel := fuel) (en := s.2.2.2.2.1) hr h k4 (by omega) hM hi
    -- one more
    have aft : ∀ su', (¬ p1 = nI 0 → ¬ p1 = nI 4 → su' = smS r s p1 i su) → ∃ p, fX10_sums_J172 (fX10_sums_L24 fuel (nI (rN r)) ki fi p1 n) al su' (zmax ma (nI (s.2.2.2.2.1 i))) (nI i) v1 v2 v2' v4 mr v6 v7 v8 v9 w1 be lr ha w5 w6 w7 w8 w9 = some p ∧ p.1 = if p1 = nI 0 then al else if p1 = nI 4 then zfold (fun k v => zmax v (nI (s.2.2.2.2.1 k))) (m + 1) i ma else zfold (smS r s p1) (m + 1) i su := by
      intro su' hsu
      unfold fX10_sums_J172
      simp (disch := omega) only [zlit, zz, if_pos, if_neg, if_true, if_false, zgd', zl, zbs, zbz, encz]
      obtain ⟨p, p1', p2'⟩ := ih n (i + 1) su' (zmax ma (nI (s.2.2.2.2.1 i))) (by omega) (by omega)
      refine ⟨p, p1', ?_⟩
      rw [p2', zfold, zfold]
      by_cases q0 : p1 = nI 0
      · rw [if_pos q0, if_pos q0]
      · rw [if_neg q0, if_neg q0]
        by_cases q4 : p1 = nI 4
        · rw [if_pos q4, if_pos q4]
        · rw [if_neg q4, if_neg q4, hsu q0 q4]
    rw [fX10_sums_L24]
    by_cases q1 : p1 = nI 1
    · have e0 : (0 : Int32) = nI 0 := rfl
      have e1 : (1 : Int32) = nI 1 := rfl
      have e2 : (2 : Int32) = nI 2 := rfl
      have e3 : (3 : Int32) = nI 3 := rfl
      simp (disch := omega) only [nI_leI, nI_clamp, zin_nI, zgd', zl, k3, k4, k5, e1, if_neg, if_pos q1]
      exact aft _ (fun _ _ => by unfold smS; rw [if_pos q1])
    · by_cases q2 : p1 = nI 2
      · cases hq : s.2.1 i with
        | none =>
          rw [hq] at k2
          refine zex ?_ (aft su (fun _ _ => by unfold smS; rw [if_neg q1, if_pos q2, hq]; simp))
          simp (disch := omega) only [zlit, zz, if_pos, if_neg, if_true, if_false, zgd', zl, zbs, zbz, encz, q2, k2, k4, zadd0]
        | some c =>
          rw [hq] at k2
          have := (hH.1 i c hq).2
          by_cases qc : c = i
          · refine zex ?_ (aft su (fun _ _ => by unfold smS; rw [if_neg q1, if_pos q2, hq, qc]; simp))
            simp (disch := omega) only [zlit, zz, if_pos, if_neg, if_true, if_false, zgd', zl, zbs, zbz, encz, q2, k2, k4, zadd0, qc]
          · refine zex ?_ (aft (su + nI 1) (fun _ _ => by unfold smS; rw [if_neg q1, if_pos q2, hq]; simp [qc]))
            simp (disch := omega) only [zlit, zz, if_pos, if_neg, if_true, if_false, zgd', zl, zbs, zbz, encz, q2, k2, k4, zadd0]
      · by_cases q3 : p1 = nI 3
        · cases hq : s.2.1 i with
          | none =>
            rw [hq] at k2
            refine zex ?_ (aft (su + nI 1) (fun _ _ => by unfold smS; rw [if_neg q1, if_neg q2, if_pos q3, hq]; simp))
            simp (disch := omega) only [zlit, zz, if_pos, if_neg, if_true, if_false, zgd', zl, zbs, zbz, encz, q3, k2, k4, zadd0]
          | some c =>
            rw [hq] at k2
            have := (hH.1 i c hq).2
            refine zex ?_ (aft su (fun _ _ => by unfold smS; rw [if_neg q1, if_neg q2, if_pos q3, hq]; simp))
            simp (disch := omega) only [zlit, zz, if_pos, if_neg, if_true, if_false, zgd', zl, zbs, zbz, encz, q3, k2, k4, zadd0]
        · cases hq : msS r s.2.2.2.2.1 i with
          | false =>
            rw [hq] at hms
            refine zex ?_ (aft su (fun _ _ => by unfold smS; rw [if_neg q1, if_neg q2, if_neg q3, hq]; simp))
            simp (disch := omega) only [zlit, zz, if_pos, if_neg, if_true, if_false, zgd', zl, zbs, zbz, encz, q1, q2, q3, k4, hms, zadd0]
          | true =>
            rw [hq] at hms
            refine zex ?_ (aft (su + nI 1) (fun _ _ => by unfold smS; rw [if_neg q1, if_neg q2, if_neg q3, hq]; simp))
            simp (disch := omega) only [zlit, zz, if_pos, if_neg, if_true, if_false, zgd', zl, zbs, zbz, encz, q1, q2, q3, k4, hms, zadd0]
theorem u_sums {r : SR} (fuel : Nat) (d_guests : Int32) (d_kinds : Nat → Int32) (d_figures : Nat → Int32) (d_minutes : Nat → Int32) (d_settings : Nat → Int32) (d_hooks : Int32) (d_letters : Nat → Int32) (d_letterCount : Int32) (n_order : Nat → Int32) (n_weights : Nat → Int32) (n_black : Nat → Int32) (n_lifts : Nat → Int32) (n_begins : Nat → Int32) (n_ends : Nat → Int32) (n_has : Nat → Int32) (n_lifted : Nat → Int32) (n_allLifts : Int32) (n_doneAt : Int32) (y_going : Nat → Int32) (y_coming : Nat → Int32) (y_holds : Int32) (y_latest : Int32) (b_heaps : Int32) (b_piles : Nat → Nat → Int32) (b_heights : Nat → Int32) (b_spots : Nat → Int32) (p1 : Int32) (M_guests : Int32) (M_kind : Nat → Int32) (M_figure : Nat → Int32) (M_told : Nat → Int32) (M_heaps : Int32) (M_holds : Int32) (M_back : Int32) (M_mistakes : Int32) (M_hooks : Int32) (M_letters : Int32) (M_rule : Nat → Int32) (M_coming : Nat → Int32) (M_comingMany : Int32) (M_going : Nat → Int32) (M_goingMany : Int32) (M_minute : Nat → Int32) (M_pile : Nat → Int32) (M_high : Nat → Int32) (M_where : Nat → Int32) (M_latest : Int32) (M_lifts : Nat → Int32) (M_begun : Nat → Int32) (M_left : Nat → Int32) (M_has : Nat → Int32) (M_lifted : Nat → Int32) (M_taken : Nat → Int32) (M_above : Nat → Int32) (M_allLifts : Int32) (M_busy : Int32) (hf : 100 < fuel) (hr : okR r) (hc : cR r d_guests d_kinds d_figures d_minutes d_settings d_hooks d_letters d_letterCount) (hm : mR r M_guests M_kind M_figure M_told M_heaps M_holds M_back M_mistakes M_hooks M_letters M_rule) : ∃ o p, fX9_sums fuel d_guests d_kinds d_figures d_minutes d_settings d_hooks d_letters d_letterCount n_order n_weights n_black n_lifts n_begins n_ends n_has n_lifted n_allLifts n_doneAt y_going y_coming y_holds y_latest b_heaps b_piles b_heights b_spots p1 = some o ∧ fX10_sums fuel M_guests M_kind M_figure M_told M_heaps M_holds M_back M_mistakes M_hooks M_letters M_rule M_coming M_comingMany M_going M_goingMany M_minute M_pile M_high M_where M_latest M_lifts M_begun M_left M_has M_lifted M_taken M_above M_allLifts M_busy p1 = some p ∧ o.1 = p.1 := by
  have hN := hr.1
  have hH := HI_night hr
  unfold fX9_sums fX10_sums
  have c1 := hc.1
  have m1 := hm.1
  have e0 : (0 : Int32) = nI 0 := rfl
  have e1 : (1 : Int32) = nI 1 := rfl
  have e2 : (2 : Int32) = nI 2 := rfl
  have e3 : (3 : Int32) = nI 3 := rfl
  have e4 : (4 : Int32) = nI 4 := rfl
  have e5 : (5 : Int32) = nI 5 := rfl
  obtain ⟨y, y1, y2, y3, y4, -, ⟨g1, g2, g3, -⟩, -⟩ := sX3_pass hf hr hc n_order n_weights n_black n_lifts n_begins n_ends n_has n_lifted n_allLifts n_doneAt y_going y_coming y_holds y_latest b_heaps b_piles b_heights b_spots
  obtain ⟨w, w1, w2, w3, w4, w5, w6, -, ⟨k1, k2, -⟩, -⟩ := sX10_night hf hr hm M_coming M_comingMany M_going M_goingMany M_minute M_pile M_high M_where M_latest M_lifts M_begun M_left M_has M_lifted M_taken M_above M_allLifts M_busy
  rw [y1, w1, zbs, zbs, e0, e1, e2, e3, e4, e5, sX10_isIn, zbs]
  obtain ⟨p, l1, l2⟩ := sX10_sums_L24 (fuel := fuel) (p1 := p1) hr hm.2.1 hH w.2.1 w.2.2.1 w.2.2.2.1 w.2.2.2.2.1 w.2.2.2.2.2.1 w.2.2.2.2.2.2.1 w.2.2.2.2.2.2.2.1 w.2.2.2.2.2.2.2.2.1 w.2.2.2.2.2.2.2.2.2.1 w.2.2.2.2.2.2.2.2.2.2.1 w.2.2.2.2.2.2.2.2.2.2.2.1 w.2.2.2.2.2.2.2.2.2.2.2.2.1 w.2.2.2.2.2.2.2.2.2.2.2.2.2.1 w.2.2.2.2.2.2.2.2.2.2.2.2.2.2.1 w.2.2.2.2.2.2.2.2.2.2.2.2.2.2.2.1 w.2.2.2.2.2.2.2.2.2.2.2.2.2.2.2.2.1 w.2.2.2.2.2.2.2.2.2.2.2.2.2.2.2.2.2.1 w.2.2.2.2.2.2.2.2.2.2.2.2.2.2.2.2.2.2 w5 k1 w.1 (rN r) fuel 0 (nI 0) (nI 0) (by omega) (by omega)
  rw [← m1] at l1
  rw [l1]
  have hin : ∀ k, k ≤ 5 → p1 = nI k → ¬ zb01 (decide (nI 0 ≤ p1 ∧ p1 ≤ nI 5)) = nI 0 := by
    intro k hk e
    rw [e, decide_eq_true ⟨(nI_leI (by decide) (by omega)).mpr (Nat.zero_le _), (nI_leI (by omega) (by decide)).mpr hk⟩]
    exact z10
  have hbe : ∀ x, x < rN r → y.2.2.2.2.2.1 x = nI ((nightR r).2.2.2.1 x) := fun x hx => (g2 x hx (by simp)).1
  have hen : ∀ x, x < rN r → y.2.2.2.2.2.2.1 x = nI ((nightR r).2.2.2.2.1 x) := fun x hx => (g2 x hx (by simp)).2
  have hha : ∀ x, x < rN r → y.2.2.2.2.2.2.2.1 x = enc ((nightR r).2.1 x) := fun x hx => (g1 x hx).2.1
  have hlt : ∀ x c, x < rN r → (nightR r).2.1 x = some c → c < rN r := fun x c _ e => (hH.1 x c e).2
  by_cases q0 : p1 = nI 0
  · rw [if_pos q0] at l2
    rw [if_pos q0, if_neg (hin 0 (by omega) q0)]
    exact ⟨_, p, rfl, rfl, by rw [l2, w2]; exact g3⟩
  rw [if_neg q0] at l2
  rw [if_neg q0]
  by_cases q1 : p1 = nI 1
  · rw [if_neg (by rw [q1]; decide)] at l2
    rw [if_pos q1, if_neg (hin 1 (by omega) q1)]
    unfold fX3_allWaiting
    rw [c1, e0, sX3_allWaiting_L4 hN hbe (fun x hx => (y4 x hx).1) (rN r) fuel 0 (nI 0) (by omega) (by omega), zbs]
    refine ⟨_, p, rfl, rfl, ?_⟩
    rw [l2]
    exact zfold_ext _ _ _ (fun k v _ _ => by unfold smS; rw [if_pos q1])
  rw [if_neg q1]
  by_cases q2 : p1 = nI 2
  · rw [if_neg (by rw [q2]; decide)] at l2
    rw [if_pos q2, if_neg (hin 2 (by omega) q2)]
    unfold fX3_howManyHaveAnothers
    rw [c1, e0, sX3_others_L4 hN hha hlt (rN r) fuel 0 (nI 0) (by omega) (by omega), zbs]
    refine ⟨_, p, rfl, rfl, ?_⟩
    rw [l2]
    exact zfold_ext _ _ _ (fun k v _ _ => by unfold smS; rw [if_neg q1, if_pos q2])
  rw [if_neg q2]
  by_cases q3 : p1 = nI 3
  · rw [if_neg (by rw [q3]; decide)] at l2
    rw [if_pos q3, if_neg (hin 3 (by omega) q3)]
    unfold fX3_howManyHaveNone
    rw [c1, e0, sX3_nones_L4 hN hha hlt (rN r) fuel 0 (nI 0) (by omega) (by omega), zbs]
    refine ⟨_, p, rfl, rfl, ?_⟩
    rw [l2]
    exact zfold_ext _ _ _ (fun k v _ _ => by unfold smS; rw [if_neg q1, if_neg q2, if_pos q3])
  rw [if_neg q3]
  by_cases q4 : p1 = nI 4
  · rw [if_pos q4] at l2
    rw [if_pos q4, if_neg (hin 4 (by omega) q4)]
    unfold fX3_lastEnd
    rw [c1, e0, sX3_lastEnd_L4 hN hen (rN r) fuel 0 (nI 0) (by omega) (by omega), zbs]
    exact ⟨_, p, rfl, rfl, l2.symm⟩
  rw [if_neg q4] at l2
  rw [if_neg q4]
  by_cases q5 : p1 = nI 5
  · rw [if_pos q5, if_neg (hin 5 (by omega) q5), c1, sX3_missers hf hr hc.2.1 hen (fun x _ => by have := hH.2.2.2.1 x; omega) y4, zbs, sJ6_bitCount (bset_1024 hN), zbs]
    refine ⟨_, p, rfl, rfl, ?_⟩
    rw [l2]
    have hz := zfold_cnt (p := msS r (nightR r).2.2.2.2.1) (rN r) 0
    rw [Nat.zero_add] at hz
    show nI _ = _
    rw [pop_bset _ _ hN, ← hz]
    exact zfold_ext _ _ _ (fun k v _ _ => by unfold smS; rw [if_neg q1, if_neg q2, if_neg q3])
  rw [if_neg q5]
  have hd : decide (nI 0 ≤ p1 ∧ p1 ≤ nI 5) = false := by
    refine decide_eq_false fun ⟨a, b⟩ => ?_
    rcases icase p1 with h | ⟨k, hk, rfl⟩
    · rw [(zneg h).1 0 (by decide)] at a; exact a
    · have := (nI_leI hk (by decide)).mp b
      rcases (show k = 0 ∨ k = 1 ∨ k = 2 ∨ k = 3 ∨ k = 4 ∨ k = 5 by omega) with rfl | rfl | rfl | rfl | rfl | rfl
      · exact q0 rfl
      · exact q1 rfl
      · exact q2 rfl
      · exact q3 rfl
      · exact q4 rfl
      · exact q5 rfl
  rw [hd]
  simp (disch := omega) only [zlit, zz, if_pos, if_neg, if_true, if_false, zgd', zl, zbs, zbz, encz]
  exact ⟨_, _, rfl, rfl, rfl⟩
theorem sX10_missing_L9 {fuel : Nat} {r : SR} {en : Nat → Nat} {ki fi to : Nat → Int32} (hr : okR r) (h : kfm (rN r) (rK r) (rF r) (rM r) ki fi to) (v1 : Nat → Int32) (v2 : Int32) (v2' : Nat → Int32) (v4 : Int32) (mr v6 v7 v8 : Nat → Int32) (v9 : Int32) (w1 be lr ha w5 w6 w7 : Nat → Int32) (w8 w9 : Int32) (hM : cM mr (mnR r) (rN r)) (hk : ∀ x, x < rN r → lr x = nI (en x)) (hen : ∀ x, en x < 2 ^ 30) :
    ∀ (m n i : Nat) (su : Int32), i + m = rN r → m < n → ∃ p, fX10_missing_L9 fuel (nI (rN r)) ki fi n su (nI i) v1 v2 v2' v4 mr v6 v7 v8 v9 w1 be lr ha w5 w6 w7 w8 w9 = some p ∧ p.1 = zfold (fun k v => if msS r en k = true then v ||| ((1 : Int32) <<< (nI k &&& 31)) else v) m i su := by
  have hN := hr.1
  intro m
  induction m with
  | zero =>
    intro n i su h1 h2
    obtain ⟨n, rfl⟩ : ∃ k, n = k + 1 := ⟨n - 1, by omega⟩
    rw [fX10_missing_L9]
    simp (disch := omega) only [zlit, zz, if_pos, if_neg, if_true, if_false, zgd', zl, zbs, zbz, encz]
    exact ⟨_, rfl, rfl⟩
  | succ m ih =>
    intro n i su h1 h2
    obtain ⟨n, rfl⟩ : ∃ k, n = k + 1 := ⟨n - 1, by omega⟩
    have hi : i < rN r := by omega
    have hms := sX10_misses (fuel := fuel) (en := en) hr h (hk i hi) (hen i) hM hi
    have e0 : (0 : Int32) = nI 0 := rfl
    have e1 : (1 : Int32) = nI 1 := rfl
    rw [fX10_missing_L9, zfold, zor0]
    generalize (1 : Int32) <<< (nI i &&& 31) = sh
    cases hq : msS r en i with
    | false =>
      rw [hq] at hms
      simp (disch := omega) only [zlit, zz, if_pos, if_neg, if_true, if_false, zgd', zl, zbs, zbz, encz, hms, Bool.false_eq_true]
      exact ih n (i + 1) su (by omega) (by omega)
    | true =>
      rw [hq] at hms
      simp (disch := omega) only [zlit, zz, if_pos, if_neg, if_true, if_false, zgd', zl, zbs, zbz, encz, hms]
      exact ih n (i + 1) _ (by omega) (by omega)
theorem u_missing {r : SR} (fuel : Nat) (d_guests : Int32) (d_kinds : Nat → Int32) (d_figures : Nat → Int32) (d_minutes : Nat → Int32) (d_settings : Nat → Int32) (d_hooks : Int32) (d_letters : Nat → Int32) (d_letterCount : Int32) (n_order : Nat → Int32) (n_weights : Nat → Int32) (n_black : Nat → Int32) (n_lifts : Nat → Int32) (n_begins : Nat → Int32) (n_ends : Nat → Int32) (n_has : Nat → Int32) (n_lifted : Nat → Int32) (n_allLifts : Int32) (n_doneAt : Int32) (y_going : Nat → Int32) (y_coming : Nat → Int32) (y_holds : Int32) (y_latest : Int32) (b_heaps : Int32) (b_piles : Nat → Nat → Int32) (b_heights : Nat → Int32) (b_spots : Nat → Int32) (M_guests : Int32) (M_kind : Nat → Int32) (M_figure : Nat → Int32) (M_told : Nat → Int32) (M_heaps : Int32) (M_holds : Int32) (M_back : Int32) (M_mistakes : Int32) (M_hooks : Int32) (M_letters : Int32) (M_rule : Nat → Int32) (M_coming : Nat → Int32) (M_comingMany : Int32) (M_going : Nat → Int32) (M_goingMany : Int32) (M_minute : Nat → Int32) (M_pile : Nat → Int32) (M_high : Nat → Int32) (M_where : Nat → Int32) (M_latest : Int32) (M_lifts : Nat → Int32) (M_begun : Nat → Int32) (M_left : Nat → Int32) (M_has : Nat → Int32) (M_lifted : Nat → Int32) (M_taken : Nat → Int32) (M_above : Nat → Int32) (M_allLifts : Int32) (M_busy : Int32) (hf : 100 < fuel) (hr : okR r) (hc : cR r d_guests d_kinds d_figures d_minutes d_settings d_hooks d_letters d_letterCount) (hm : mR r M_guests M_kind M_figure M_told M_heaps M_holds M_back M_mistakes M_hooks M_letters M_rule) : ∃ o p, fX9_missing fuel d_guests d_kinds d_figures d_minutes d_settings d_hooks d_letters d_letterCount n_order n_weights n_black n_lifts n_begins n_ends n_has n_lifted n_allLifts n_doneAt y_going y_coming y_holds y_latest b_heaps b_piles b_heights b_spots = some o ∧ fX10_missing fuel M_guests M_kind M_figure M_told M_heaps M_holds M_back M_mistakes M_hooks M_letters M_rule M_coming M_comingMany M_going M_goingMany M_minute M_pile M_high M_where M_latest M_lifts M_begun M_left M_has M_lifted M_taken M_above M_allLifts M_busy = some p ∧ o.1 = p.1 := by
  have hN := hr.1
  have hH := HI_night hr
  unfold fX9_missing fX10_missing
  have c1 := hc.1
  have m1 := hm.1
  have e0 : (0 : Int32) = nI 0 := rfl
  obtain ⟨y, y1, y2, y3, y4, -, ⟨g1, g2, g3, -⟩, -⟩ := sX3_pass hf hr hc n_order n_weights n_black n_lifts n_begins n_ends n_has n_lifted n_allLifts n_doneAt y_going y_coming y_holds y_latest b_heaps b_piles b_heights b_spots
  obtain ⟨w, w1, w2, w3, w4, w5, w6, -, ⟨k1, k2, -⟩, -⟩ := sX10_night hf hr hm M_coming M_comingMany M_going M_goingMany M_minute M_pile M_high M_where M_latest M_lifts M_begun M_left M_has M_lifted M_taken M_above M_allLifts M_busy
  have hen : ∀ x, x < rN r → y.2.2.2.2.2.2.1 x = nI ((nightR r).2.2.2.2.1 x) := fun x hx => (g2 x hx (by simp)).2
  rw [y1, w1, zbs, zbs, c1, sX3_missers hf hr hc.2.1 hen (fun x _ => by have := hH.2.2.2.1 x; omega) y4, zbs, m1, e0]
  obtain ⟨p, l1, l2⟩ := sX10_missing_L9 (fuel := fuel) (en := (nightR r).2.2.2.2.1) hr hm.2.1 w.2.1 w.2.2.1 w.2.2.2.1 w.2.2.2.2.1 w.2.2.2.2.2.1 w.2.2.2.2.2.2.1 w.2.2.2.2.2.2.2.1 w.2.2.2.2.2.2.2.2.1 w.2.2.2.2.2.2.2.2.2.1 w.2.2.2.2.2.2.2.2.2.2.1 w.2.2.2.2.2.2.2.2.2.2.2.1 w.2.2.2.2.2.2.2.2.2.2.2.2.1 w.2.2.2.2.2.2.2.2.2.2.2.2.2.1 w.2.2.2.2.2.2.2.2.2.2.2.2.2.2.1 w.2.2.2.2.2.2.2.2.2.2.2.2.2.2.2.1 w.2.2.2.2.2.2.2.2.2.2.2.2.2.2.2.2.1 w.2.2.2.2.2.2.2.2.2.2.2.2.2.2.2.2.2.1 w.2.2.2.2.2.2.2.2.2.2.2.2.2.2.2.2.2.2 w5 (fun x hx => (k1 x (List.mem_range.mpr hx) (by simp)).2.2.2) (fun x => by have := hH.2.2.2.1 x; omega) (rN r) fuel 0 (nI 0) (by omega) (by omega)
  refine ⟨_, p, rfl, l1, ?_⟩
  have := zfold_bset (p := msS r (nightR r).2.2.2.2.1) (rN r) 0 (by omega)
  rw [Nat.zero_add] at this
  rw [l2]
  exact this.symm
