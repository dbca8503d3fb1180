/-! The class: which heap a letter finds. -/
theorem sX2_hasRoom {fuel ho n h : Nat} {hts : Nat → Int32} (h1 : ho < 100) (h2 : n < 100) (h3 : hts h = nI n) (h4 : h < 3) : fX2_hasRoom fuel (nI ho) hts (nI h) = some (zb01 (decide (n < ho))) := by
  unfold fX2_hasRoom
  by_cases q : n < ho
  · simp (disch := omega) only [zlit, zz, zgd', h3, if_neg, decide_eq_true q, zbz]
  · simp (disch := omega) only [zlit, zz, zgd', h3, if_pos, decide_eq_false q, zbz]
theorem sX0_topOf {fuel h : Nat} {H : HP} {pi : Nat → Nat → Int32} {hts : Nat → Int32} {N : Nat} (hN : N ≤ 10) (hB : cB H pi hts) (hk : okH N H) (h4 : h < 3) : fX0_topOf fuel pi hts (nI h) = some (enc (H h).getLast?) := by
  unfold fX0_topOf
  have hl := (hk h).1
  obtain ⟨e1, e2⟩ := hB h h4
  cases hq : (H h).getLast? with
  | none =>
    have : (H h) = [] := List.getLast?_eq_none_iff.mp hq
    rw [this] at e1
    simp (disch := omega) only [zlit, zz, zgd', e1, List.length_nil, if_pos]
    rfl
  | some x =>
    have hne : 0 < (H h).length := by
      cases hH : H h with
      | nil => rw [hH] at hq; simp at hq
      | cons a t => simp
    simp (disch := omega) only [zlit, zz, zgd', e1, if_neg]
    rw [arr_last e2 hq]
    rfl
theorem sX2_firstFrom_L2 {fuel ho hp st : Nat} {hts : Nat → Int32} {ln : Nat → Nat} (hhp : hp ≤ 3) (hst : st ≤ hp) (hho : ho < 100) (hh : ∀ h, h < 3 → hts h = nI (ln h) ∧ ln h < 100) :
    ∀ (m n i : Nat), i + m = hp → m < n → fX2_firstFrom_L2 fuel (nI ho) (nI hp) hts (nI st) n (nI i) = some (enc (bestH (fun h than => decide (ln h < ho) && than.isNone) ((List.range' i m).map fun k => if st + k < hp then st + k else st + k - hp) none)) := by
  have stop : ∀ (l : List Nat) (t : Nat), bestH (fun h than => decide (ln h < ho) && than.isNone) l (some t) = some t := by
    intro l t
    induction l with
    | nil => rfl
    | cons a l ih => rw [bestH]; simpa using ih
  intro m
  induction m with
  | zero =>
    intro n i h1 h2
    obtain ⟨n, rfl⟩ : ∃ k, n = k + 1 := ⟨n - 1, by omega⟩
    rw [fX2_firstFrom_L2]
    simp (disch := omega) only [zlit, zz, if_pos]
    rfl
  | succ m ih =>
    intro n i h1 h2
    obtain ⟨n, rfl⟩ : ∃ k, n = k + 1 := ⟨n - 1, by omega⟩
    rw [fX2_firstFrom_L2]
    rw [List.range'_succ, List.map_cons, bestH]
    by_cases q : st + i < hp
    · obtain ⟨e1, e2⟩ := hh (st + i) (by omega)
      simp (disch := omega) only [zlit, zz, if_neg, if_pos, zl, sX2_hasRoom hho e2 e1, zbs, zbz]
      by_cases r : ln (st + i) < ho
      · simp only [r, decide_true, Option.isNone_none, Bool.and_self, if_true, stop, Bool.true_eq_false, if_false]
        rfl
      · simp only [r, decide_false, Bool.false_and, Bool.false_eq_true, if_false, if_true]
        exact ih n (i + 1) (by omega) (by omega)
    · obtain ⟨e1, e2⟩ := hh (st + i - hp) (by omega)
      simp (disch := omega) only [zlit, zz, if_neg, if_pos, zl, sX2_hasRoom hho e2 e1, zbs, zbz]
      by_cases r : ln (st + i - hp) < ho
      · simp only [r, decide_true, Option.isNone_none, Bool.and_self, if_true, stop, Bool.true_eq_false, if_false]
        rfl
      · simp only [r, decide_false, Bool.false_and, Bool.false_eq_true, if_false, if_true]
        exact ih n (i + 1) (by omega) (by omega)
theorem sX2_lowest_L5 {fuel ho hp mg : Nat} {hts : Nat → Int32} {ln : Nat → Nat} {tm : Nat → Option Nat} (hhp : hp ≤ 3) (hho : ho < 100) (hh : ∀ h, h < 3 → hts h = nI (ln h) ∧ ln h < 100) :
    ∀ (m n i : Nat) (than : Option Nat), i + m = hp → m < n → (∀ t, than = some t → t < 3) → fX2_lowest_L5 fuel (nI ho) (nI hp) hts n (enc than) (nI i) = some (enc (bestH (btS 1 ho ln tm mg) (List.range' i m) than)) := by
  intro m
  induction m with
  | zero =>
    intro n i than h1 h2 h3
    obtain ⟨n, rfl⟩ : ∃ k, n = k + 1 := ⟨n - 1, by omega⟩
    rw [fX2_lowest_L5]
    simp (disch := omega) only [zlit, zz, if_pos]
    rfl
  | succ m ih =>
    intro n i than h1 h2 h3
    obtain ⟨n, rfl⟩ : ∃ k, n = k + 1 := ⟨n - 1, by omega⟩
    rw [fX2_lowest_L5]
    rw [List.range'_succ, bestH]
    obtain ⟨e1, e2⟩ := hh i (by omega)
    simp (disch := omega) only [zlit, zz, if_neg, sX2_hasRoom hho e2 e1, zbs, zbz, fX2_lowest_J53, fX2_lowest_J51, zl]
    by_cases r : ln i < ho
    · simp only [r, decide_true, Bool.true_eq_false, if_false]
      cases than with
      | none =>
        simp only [enc, if_true, btS, btI, r, decide_true, Bool.true_and]
        exact ih n (i + 1) (some i) (by omega) (by omega) (fun t ht => by cases ht; omega)
      | some t =>
        have ht := h3 t rfl
        obtain ⟨d1, d2⟩ := hh t ht
        simp (disch := omega) only [enc, zz, if_false, zgd', d1, e1]
        simp only [btS, btI, r, decide_true, Bool.true_and]
        by_cases q : ln i < ln t
        · rw [if_neg (by omega), if_pos (decide_eq_true q)]
          exact ih n (i + 1) (some i) (by omega) (by omega) (fun t ht => by cases ht; omega)
        · rw [if_pos (by omega), if_neg (by simp [q])]
          exact ih n (i + 1) (some t) (by omega) (by omega) h3
    · simp only [r, decide_false, if_true, btS, btI, Bool.false_and, Bool.false_eq_true, if_false]
      exact ih n (i + 1) than (by omega) (by omega) h3
theorem bestH_stop {ho : Nat} {ln : Nat → Nat} {tm : Nat → Option Nat} {mg letter : Nat} (hl : letter = 0 ∨ letter = 2 ∨ letter = 5) (t : Nat) : ∀ (l : List Nat), bestH (btS letter ho ln tm mg) l (some t) = some t := by
  intro l
  induction l with
  | nil => rfl
  | cons a l ih =>
    rw [bestH]
    rcases hl with rfl | rfl | rfl <;> simpa [btS, btI] using ih
theorem sX2_empty_L2 {ho hp mg : Nat} {hts : Nat → Int32} {ln : Nat → Nat} {tm : Nat → Option Nat} (hhp : hp ≤ 3) (hho : 0 < ho) (hh : ∀ h, h < 3 → hts h = nI (ln h) ∧ ln h < 100) :
    ∀ (m n i : Nat), i + m = hp → m < n → fX2_empty_L2 (nI hp) hts n (nI i) = some (enc (bestH (btS 2 ho ln tm mg) (List.range' i m) none)) := by
  intro m
  induction m with
  | zero =>
    intro n i h1 h2
    obtain ⟨n, rfl⟩ : ∃ k, n = k + 1 := ⟨n - 1, by omega⟩
    rw [fX2_empty_L2]
    simp (disch := omega) only [zlit, zz, if_pos]
    rfl
  | succ m ih =>
    intro n i h1 h2
    obtain ⟨n, rfl⟩ : ∃ k, n = k + 1 := ⟨n - 1, by omega⟩
    rw [fX2_empty_L2]
    rw [List.range'_succ, bestH]
    obtain ⟨e1, e2⟩ := hh i (by omega)
    simp (disch := omega) only [zlit, zz, if_neg, zgd', e1, zl]
    by_cases r : ln i = 0
    · rw [if_pos r]
      have : btS 2 ho ln tm mg i none = true := by simp [btS, btI, r, hho]
      rw [if_pos this, bestH_stop (Or.inr (Or.inl rfl))]
      rfl
    · rw [if_neg r]
      have : btS 2 ho ln tm mg i none = false := by simp [btS, btI, r]
      rw [this]
      exact ih n (i + 1) (by omega) (by omega)
/-- the minutes of a row are those of mn -/
def cM (a : Nat → Int32) (mn : Nat → Nat) (N : Nat) : Prop := ∀ i, i < N → a i = nI (mn i) ∧ mn i < 1000
theorem sX2_latestTop_L7 {fuel ho hp mg : Nat} {H : HP} {mn : Nat → Nat} {go : Nat → Int32} {pi : Nat → Nat → Int32} {hts : Nat → Int32} (hhp : hp ≤ 3) (hho : ho < 100) {N : Nat} (hN : N ≤ 10) (hB : cB H pi hts) (hk : okH N H) (hM : cM go mn N) :
    ∀ (m n i : Nat) (than : Option Nat) (v2 : Int32), i + m = hp → m < n → (∀ t, than = some t → t < 3 ∧ ∃ b, tmS mn H t = some b ∧ v2 = nI b ∧ b < 1000) → fX2_latestTop_L7 fuel go (nI ho) (nI hp) pi hts n (enc than) v2 (nI i) = some (enc (bestH (btS 3 ho (lnS H) (tmS mn H) mg) (List.range' i m) than)) := by
  intro m
  induction m with
  | zero =>
    intro n i than v2 h1 h2 h3
    obtain ⟨n, rfl⟩ : ∃ k, n = k + 1 := ⟨n - 1, by omega⟩
    rw [fX2_latestTop_L7]
    simp (disch := omega) only [zlit, zz, if_pos]
    rfl
  | succ m ih =>
    intro n i than v2 h1 h2 h3
    obtain ⟨n, rfl⟩ : ∃ k, n = k + 1 := ⟨n - 1, by omega⟩
    rw [fX2_latestTop_L7]
    rw [List.range'_succ, bestH]
    obtain ⟨e1, -⟩ := hB i (by omega)
    have e2 := (hk i).1
    simp (disch := omega) only [zlit, zz, if_neg, sX0_topOf hN hB hk, sX2_hasRoom hho (show (H i).length < 100 by omega) e1, zbs, zbz, fX2_latestTop_J70, fX2_latestTop_J60, zl]
    cases hq : (H i).getLast? with
    | none =>
      have : btS 3 ho (lnS H) (tmS mn H) mg i than = false := by simp [btS, btI, tmS, hq]
      rw [this]
      simp only [enc, if_true]
      exact ih n (i + 1) than v2 (by omega) (by omega) h3
    | some c =>
      have hc : c < N := (hk i).2 c (List.mem_of_getLast? hq)
      obtain ⟨g1, g2⟩ := hM c hc
      simp (disch := omega) only [enc, zz, if_false, zgd', g1]
      by_cases r : (H i).length < ho
      · simp only [r, decide_true, Bool.true_eq_false, if_false]
        cases than with
        | none =>
          have : btS 3 ho (lnS H) (tmS mn H) mg i none = true := by simp [btS, btI, tmS, lnS, hq, r]
          rw [if_pos this]
          simp only [if_true]
          exact ih n (i + 1) (some i) _ (by omega) (by omega) (fun t ht => by cases ht; exact ⟨by omega, mn c, by simp [tmS, hq], rfl, g2⟩)
        | some t =>
          obtain ⟨ht, b, hb1, hb2, hb3⟩ := h3 t rfl
          subst hb2
          simp (disch := omega) only [zz, if_false]
          have e : btS 3 ho (lnS H) (tmS mn H) mg i (some t) = decide (b < mn c) := by
            have q1 : tmS mn H i = some (mn c) := by simp [tmS, hq]
            simp [btS, btI, lnS, r, q1, hb1]
          rw [e]
          by_cases q : b < mn c
          · rw [if_neg (by omega), if_pos (decide_eq_true q)]
            exact ih n (i + 1) (some i) _ (by omega) (by omega) (fun t ht => by cases ht; exact ⟨by omega, mn c, by simp [tmS, hq], rfl, g2⟩)
          · rw [if_pos (by omega), if_neg (by simp [q])]
            exact ih n (i + 1) (some t) _ (by omega) (by omega) h3
      · have : btS 3 ho (lnS H) (tmS mn H) mg i than = false := by simp [btS, btI, lnS, r]
        rw [this]
        simp only [r, decide_false, if_true, Bool.false_eq_true, if_false]
        exact ih n (i + 1) than v2 (by omega) (by omega) h3
theorem sX2_soonest_L8 {fuel ho hp mg : Nat} {H : HP} {mn : Nat → Nat} {go : Nat → Int32} {pi : Nat → Nat → Int32} {hts : Nat → Int32} (hhp : hp ≤ 3) (hho : ho < 100) {N : Nat} (hN : N ≤ 10) (hB : cB H pi hts) (hk : okH N H) (hM : cM go mn N) (hmg : mg < 1000) :
    ∀ (m n i : Nat) (than : Option Nat) (v2 : Int32), i + m = hp → m < n → (∀ t, than = some t → t < 3 ∧ ∃ b, tmS mn H t = some b ∧ v2 = nI b ∧ b < 1000) → fX2_soonestTopBehind_L8 fuel go (nI ho) (nI hp) pi hts (nI mg) n (enc than) v2 (nI i) = some (enc (bestH (btS 4 ho (lnS H) (tmS mn H) mg) (List.range' i m) than)) := by
  intro m
  induction m with
  | zero =>
    intro n i than v2 h1 h2 h3
    obtain ⟨n, rfl⟩ : ∃ k, n = k + 1 := ⟨n - 1, by omega⟩
    rw [fX2_soonestTopBehind_L8]
    simp (disch := omega) only [zlit, zz, if_pos]
    rfl
  | succ m ih =>
    intro n i than v2 h1 h2 h3
    obtain ⟨n, rfl⟩ : ∃ k, n = k + 1 := ⟨n - 1, by omega⟩
    rw [fX2_soonestTopBehind_L8]
    rw [List.range'_succ, bestH]
    obtain ⟨e1, -⟩ := hB i (by omega)
    have e2 := (hk i).1
    simp (disch := omega) only [zlit, zz, if_neg, sX0_topOf hN hB hk, sX2_hasRoom hho (show (H i).length < 100 by omega) e1, zbs, zbz, fX2_soonestTopBehind_J62, fX2_soonestTopBehind_J98, fX2_soonestTopBehind_J87, zl, if_true]
    cases hq : (H i).getLast? with
    | none =>
      have : btS 4 ho (lnS H) (tmS mn H) mg i than = false := by simp [btS, btI, tmS, hq]
      rw [this]
      simp only [enc, if_true]
      exact ih n (i + 1) than v2 (by omega) (by omega) h3
    | some c =>
      have hc : c < N := (hk i).2 c (List.mem_of_getLast? hq)
      obtain ⟨g1, g2⟩ := hM c hc
      simp (disch := omega) only [enc, zz, if_false, zgd', g1]
      by_cases r : (H i).length < ho
      · simp only [r, decide_true, Bool.true_eq_false, if_false]
        by_cases w : mg < mn c
        · rw [if_neg (by omega)]
          cases than with
          | none =>
            have : btS 4 ho (lnS H) (tmS mn H) mg i none = true := by simp [btS, btI, tmS, lnS, hq, r, w]
            rw [if_pos this]
            simp only [if_true]
            exact ih n (i + 1) (some i) _ (by omega) (by omega) (fun t ht => by cases ht; exact ⟨by omega, mn c, by simp [tmS, hq], rfl, g2⟩)
          | some t =>
            obtain ⟨ht, b, hb1, hb2, hb3⟩ := h3 t rfl
            subst hb2
            simp (disch := omega) only [zz, if_false]
            have e : btS 4 ho (lnS H) (tmS mn H) mg i (some t) = decide (mn c < b) := by
              have q1 : tmS mn H i = some (mn c) := by simp [tmS, hq]
              simp [btS, btI, lnS, r, q1, hb1, w]
            rw [e]
            by_cases q : mn c < b
            · rw [if_neg (by omega), if_pos (decide_eq_true q)]
              exact ih n (i + 1) (some i) _ (by omega) (by omega) (fun t ht => by cases ht; exact ⟨by omega, mn c, by simp [tmS, hq], rfl, g2⟩)
            · rw [if_pos (by omega), if_neg (by simp [q])]
              exact ih n (i + 1) (some t) _ (by omega) (by omega) h3
        · rw [if_pos (by omega)]
          have : btS 4 ho (lnS H) (tmS mn H) mg i than = false := by simp [btS, btI, tmS, lnS, hq, r, w]
          rw [this]
          exact ih n (i + 1) than v2 (by omega) (by omega) h3
      · have : btS 4 ho (lnS H) (tmS mn H) mg i than = false := by simp [btS, btI, lnS, r]
        rw [this]
        simp only [r, decide_false, if_true, Bool.false_eq_true, if_false]
        exact ih n (i + 1) than v2 (by omega) (by omega) h3
