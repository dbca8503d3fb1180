/-! Letters of a rule. -/
def letS (v : Int32) : Option Nat := (List.range 6).find? fun k => decide (v = zLet k)
theorem sX6_isLetter_L2 {v : Int32} : ∀ (m n i : Nat), i + m = 6 → m < n → fX6_isLetterOfRule_L2 v n (nI i) = some (zb01 ((List.range' i m).find? fun k => decide (v = zLet k)).isSome) := by
  intro m
  induction m with
  | zero =>
    intro n i h1 h2
    obtain ⟨n, rfl⟩ : ∃ k, n = k + 1 := ⟨n - 1, by omega⟩
    rw [fX6_isLetterOfRule_L2]
    simp (disch := omega) only [zlit, zz, if_pos, if_neg, if_true, if_false, zgd', zl, zbs, zbz, encz]
    rfl
  | succ m ih =>
    intro n i h1 h2
    obtain ⟨n, rfl⟩ : ∃ k, n = k + 1 := ⟨n - 1, by omega⟩
    rw [fX6_isLetterOfRule_L2, List.range'_succ, List.find?_cons]
    by_cases q : v = zLet i
    · rw [decide_eq_true q]
      have q' : zLet i = v := q.symm
      simp (disch := omega) only [zlit, zz, if_pos, if_neg, if_true, if_false, zgd', zl, zbs, zbz, encz, q']
      rfl
    · rw [decide_eq_false q]
      have q' : ¬ zLet i = v := fun e => q e.symm
      simp (disch := omega) only [zlit, zz, if_pos, if_neg, if_true, if_false, zgd', zl, zbs, zbz, encz, q']
      exact ih n (i + 1) (by omega) (by omega)
theorem sX6_isLetter {fuel : Nat} {v : Int32} (hf : 100 < fuel) : fX6_isLetterOfRule fuel v = some (zb01 (letS v).isSome) := by
  unfold fX6_isLetterOfRule letS
  rw [List.range_eq_range']
  exact sX6_isLetter_L2 6 fuel 0 (by omega) (by omega)
theorem sX10_byteAt {fuel d a n : Nat} {it : Nat → Int32} (hd : d < 8) (hn : n ≤ 100) (ha : a < 2 ^ 31) : fX10_byteAt fuel (nI a) (nI n) (nI d) it = some (if n ≤ a then zAw else it (100 * d + a)) := by
  unfold fX10_byteAt
  have e100 : (100 : Int32) = nI 100 := rfl
  by_cases q : n ≤ a
  · simp (disch := omega) only [zlit, zz, if_pos, if_neg, if_true, if_false, zgd', zl, zbs, zbz, encz]
  · simp (disch := omega) only [zlit, zz, if_pos, if_neg, if_true, if_false, zgd', zl, zbs, zbz, encz]
/-- the rows of letters, as the model has them from its beginning -/
def mLet (rl : Nat → Int32) : Prop := ∀ i, i < 6 → rl i = zLet i
theorem sX10_oneOfRule_L2 {fuel d a n : Nat} {rl it : Nat → Int32} (hd : d < 8) (hn : n ≤ 100) (ha : a < 2 ^ 31) (hrl : mLet rl) : ∀ (m w i : Nat), i + m = 6 → m < w → fX10_oneOf_ruleLetters_L2 fuel (nI n) (nI d) rl it w (nI i) (nI a) = some (match (List.range' i m).find? (fun k => decide ((if n ≤ a then zAw else it (100 * d + a)) = zLet k)) with | some k => (nI k, nI (a + 1)) | none => (zAw, nI a)) := by
  intro m
  induction m with
  | zero =>
    intro w i h1 h2
    obtain ⟨w, rfl⟩ : ∃ k, w = k + 1 := ⟨w - 1, by omega⟩
    rw [fX10_oneOf_ruleLetters_L2]
    simp (disch := omega) only [zlit, zz, if_pos, if_neg, if_true, if_false, zgd', zl, zbs, zbz, encz]
    rfl
  | succ m ih =>
    intro w i h1 h2
    obtain ⟨w, rfl⟩ : ∃ k, w = k + 1 := ⟨w - 1, by omega⟩
    have hb := sX10_byteAt (fuel := fuel) (it := it) hd hn ha
    have hl := hrl i (by omega)
    rw [fX10_oneOf_ruleLetters_L2, List.range'_succ, List.find?_cons, hb, zbs]
    generalize (if n ≤ a then zAw else it (100 * d + a)) = b at *
    by_cases q : b = zLet i
    · rw [decide_eq_true q]
      simp (disch := omega) only [zlit, zz, if_pos, if_neg, if_true, if_false, zgd', zl, zbs, zbz, encz, hl, q, fX10_oneOf_ruleLetters_J18]
    · rw [decide_eq_false q]
      simp (disch := omega) only [zlit, zz, if_pos, if_neg, if_true, if_false, zgd', zl, zbs, zbz, encz, hl, q]
      exact ih w (i + 1) (by omega) (by omega)
theorem sX10_oneOfRule {fuel d a n : Nat} {rl it : Nat → Int32} (hf : 100 < fuel) (hd : d < 8) (hn : n ≤ 100) (ha : a < 2 ^ 31) (hrl : mLet rl) : fX10_oneOf_ruleLetters fuel (nI a) (nI n) (nI d) rl it = some (match letS (if n ≤ a then zAw else it (100 * d + a)) with | some k => (nI k, nI (a + 1)) | none => (zAw, nI a)) := by
  unfold fX10_oneOf_ruleLetters letS
  rw [List.range_eq_range']
  exact sX10_oneOfRule_L2 hd hn ha hrl 6 fuel 0 (by omega) (by omega)
theorem letS_some {v : Int32} {k : Nat} (h : letS v = some k) : v = zLet k ∧ k ≤ 5 := by
  unfold letS at h
  have h1 := List.find?_some h
  have h2 := List.mem_range.mp (List.mem_of_find?_eq_some h)
  exact ⟨by simpa using h1, by omega⟩
theorem letS_aw : letS zAw = none := by decide
theorem sX7_signAt {fuel d a n : Nat} {sz : Nat → Int32} {el : Nat → Nat → Int32} (hs : sz d = nI n) (hn : n ≤ 100) (ha : a < 2 ^ 31) : fX7_signAt fuel sz el d (nI a) = some (if n ≤ a then zAw else el d a) := by
  unfold fX7_signAt fX7_hasPlace
  by_cases q : n ≤ a
  · simp (disch := omega) only [zlit, zz, if_pos, if_neg, if_true, if_false, zgd', zl, zbs, zbz, encz, hs]
  · simp (disch := omega) only [zlit, zz, if_pos, if_neg, if_true, if_false, zgd', zl, zbs, zbz, encz, hs]
