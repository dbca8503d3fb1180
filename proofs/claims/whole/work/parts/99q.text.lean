/-! The text of a room: signs, one statement. -/
def zBeg (k : Nat) : Int32 := match k with | 0 => 103 | 1 => 104 | 2 => 98 | 3 => 109 | 4 => 107 | _ => 114
def mBeg (b : Nat → Int32) : Prop := ∀ i, i < 6 → b i = zBeg i
def kdS (v : Int32) : Option Nat := (List.range 6).find? fun k => decide (v = zBeg k)
def dgc (k : Nat) : Nat := match k with | 0 => 4 | 1 => 2 | 2 => 1 | 3 => 1 | 4 => 1 | _ => 0
theorem kdS_some {v : Int32} {k : Nat} (h : kdS v = some k) : v = zBeg k ∧ k ≤ 5 := by
  unfold kdS at h
  have h1 := List.find?_some h
  have h2 := List.mem_of_find?_eq_some h
  exact ⟨of_decide_eq_true h1, by have := List.mem_range.mp h2; omega⟩
theorem kdS_none {v : Int32} (h : kdS v = none) : ∀ k, k < 6 → ¬ v = zBeg k := by
  intro k hk e
  have := List.find?_eq_none.mp h k (List.mem_range.mpr hk)
  simp [e] at this
def rlO (v : Int32) (a : Nat) : Int32 × Int32 := match letS v with | some k => (nI k, nI (a + 1)) | none => (zAw, nI a)
def kbO (v : Int32) (a : Nat) : Int32 × Int32 := match kdS v with | some k => (nI k, nI (a + 1)) | none => (zAw, nI a)
/-- how a text is read: the class and the model see the same sign at each place -/
def txS (fuel n d : Nat) (sg : Nat → Int32) (sz : Nat → Int32) (el : Nat → Nat → Int32) (be rl it : Nat → Int32) : Prop :=
  d < 8 ∧ n ≤ 100 ∧ sz d = nI n ∧ (∀ a, n ≤ a → sg a = zAw) ∧ (∀ a, a < n → sg a = el d a) ∧ (∀ a, a < 2 ^ 31 → fX7_signAt fuel sz el d (nI a) = some (sg a)) ∧ (∀ a, a < 2 ^ 31 → fX10_byteAt fuel (nI a) (nI n) (nI d) it = some (sg a)) ∧
    (∀ a, a < 2 ^ 31 → fX10_oneOf_ruleLetters fuel (nI a) (nI n) (nI d) rl it = some (rlO (sg a) a)) ∧
    (∀ a, a < 2 ^ 31 → fX10_oneOf_begins fuel (nI a) (nI n) (nI d) be it = some (kbO (sg a) a))
theorem sX10_oneOfBeg_L2 {fuel d a n : Nat} {rl it : Nat → Int32} (hd : d < 8) (hn : n ≤ 100) (ha : a < 2 ^ 31) (hrl : mBeg rl) : ∀ (m w i : Nat), i + m = 6 → m < w → fX10_oneOf_begins_L2 fuel (nI n) (nI d) rl it w (nI i) (nI a) = some (match (List.range' i m).find? (fun k => decide ((if n ≤ a then zAw else it (100 * d + a)) = zBeg k)) with | some k => (nI k, nI (a + 1)) | none => (zAw, nI a)) := by
  intro m
  induction m with
  | zero =>
    intro w i h1 h2
    obtain ⟨w, rfl⟩ : ∃ k, w = k + 1 := ⟨w - 1, by omega⟩
    rw [fX10_oneOf_begins_L2]
    simp (disch := omega) only [zlit, zz, if_pos, if_neg, if_true, if_false, zgd', zl, zbs, zbz, encz]
    rfl
  | succ m ih =>
    intro w i h1 h2
    obtain ⟨w, rfl⟩ : ∃ k, w = k + 1 := ⟨w - 1, by omega⟩
    have hb := sX10_byteAt (fuel := fuel) (it := it) hd hn ha
    have hl := hrl i (by omega)
    rw [fX10_oneOf_begins_L2, List.range'_succ, List.find?_cons, hb, zbs]
    generalize (if n ≤ a then zAw else it (100 * d + a)) = b at *
    by_cases q : b = zBeg i
    · rw [decide_eq_true q]
      simp (disch := omega) only [zlit, zz, if_pos, if_neg, if_true, if_false, zgd', zl, zbs, zbz, encz, hl, q, fX10_oneOf_begins_J18]
    · rw [decide_eq_false q]
      simp (disch := omega) only [zlit, zz, if_pos, if_neg, if_true, if_false, zgd', zl, zbs, zbz, encz, hl, q]
      exact ih w (i + 1) (by omega) (by omega)
theorem txS_ok {fuel n d : Nat} {sz : Nat → Int32} {el : Nat → Nat → Int32} {be rl it : Nat → Int32} (hf : 100 < fuel) (hd : d < 8) (hn : n ≤ 100) (hs : sz d = nI n) (hb : mBeg be) (hl : mLet rl) (hel : ∀ i, i < 100 → el d i = it (100 * d + i)) : txS fuel n d (fun a => if n ≤ a then zAw else el d a) sz el be rl it := by
  have hsg : ∀ a, (if n ≤ a then zAw else it (100 * d + a)) = if n ≤ a then zAw else el d a := fun a => by
    split
    · rfl
    · exact (hel a (by omega)).symm
  refine ⟨hd, hn, hs, fun a h => by show (if n ≤ a then zAw else el d a) = zAw; rw [if_pos h], fun a h => by show (if n ≤ a then zAw else el d a) = el d a; rw [if_neg (by omega)], fun a ha => sX7_signAt hs hn ha, fun a ha => ?_, fun a ha => ?_, fun a ha => ?_⟩
  · show _ = some (if n ≤ a then zAw else el d a)
    rw [← hsg]
    exact sX10_byteAt hd hn ha
  · show _ = some (rlO (if n ≤ a then zAw else el d a) a)
    rw [← hsg]
    exact sX10_oneOfRule hf hd hn ha hl
  · show _ = some (kbO (if n ≤ a then zAw else el d a) a)
    rw [← hsg]
    unfold fX10_oneOf_begins kbO kdS
    rw [List.range_eq_range']
    exact sX10_oneOfBeg_L2 hd hn ha hb 6 fuel 0 (by omega) (by omega)
/-- a figure -/
def dig (v : Int32) : Option Nat := (List.range 10).find? fun t => decide (v = nI (48 + t))
theorem dig_some {v : Int32} {t : Nat} (h : dig v = some t) : v = nI (48 + t) ∧ t ≤ 9 := by
  unfold dig at h
  have h1 := List.find?_some h
  have h2 := List.mem_of_find?_eq_some h
  exact ⟨of_decide_eq_true h1, by have := List.mem_range.mp h2; omega⟩
theorem dig_none {v : Int32} (h : dig v = none) : v < nI 48 ∨ ¬ v ≤ nI 57 := by
  rcases icase v with hn | ⟨k, hk, rfl⟩
  · left
    rw [(zneg hn).2.2.1 48 (by decide)]
    trivial
  · by_cases q : k < 48
    · exact Or.inl ((nI_ltI hk (by decide)).mpr q)
    · right
      intro q2
      have hk2 := (nI_leI hk (by decide)).mp q2
      have := List.find?_eq_none.mp h (k - 48) (List.mem_range.mpr (by omega))
      simp [show 48 + (k - 48) = k by omega] at this
theorem sX6_isDigit {fuel : Nat} (v : Int32) : fX6_isDigit fuel v = some (zb01 (dig v).isSome) := by
  unfold fX6_isDigit
  have e48 : (48 : Int32) = nI 48 := rfl
  have e57 : (57 : Int32) = nI 57 := rfl
  rw [e48, e57]
  cases h : dig v with
  | none =>
    rcases dig_none h with q | q
    · rw [if_pos q]; rfl
    · by_cases q2 : v < nI 48
      · rw [if_pos q2]; rfl
      · rw [if_neg q2, if_pos (Int32.not_le.mp q)]; rfl
  | some t =>
    obtain ⟨rfl, ht⟩ := dig_some h
    rw [if_neg (fun q => by have := (nI_ltI (by omega) (by decide)).mp q; omega), if_neg (fun q => by have := (nI_ltI (by decide) (by omega)).mp q; omega)]
    rfl
theorem sX10_figure {fuel a n d : Nat} {it : Nat → Int32} {v : Int32} (h : fX10_byteAt fuel (nI a) (nI n) (nI d) it = some v) : fX10_figure fuel (nI a) (nI 1) (nI n) (nI d) it = some (match dig v with | some t => (nI t, nI (a + 1), nI 1) | none => (nI 0, nI a, nI 0)) := by
  unfold fX10_figure fX10_figure_J24
  have e48 : (48 : Int32) = nI 48 := rfl
  have e57 : (57 : Int32) = nI 57 := rfl
  have e0 : (0 : Int32) = nI 0 := rfl
  have e1 : (1 : Int32) = nI 1 := rfl
  rw [h, zbs, e48, e57, e0, if_neg z10]
  cases hd : dig v with
  | none =>
    by_cases q2 : v < nI 48
    · rw [if_pos q2]
    · rw [if_neg q2]
      rcases dig_none hd with q | q
      · exact absurd q q2
      · rw [if_neg q]
  | some t =>
    obtain ⟨rfl, ht⟩ := dig_some hd
    rw [if_neg (fun q => by have := (nI_ltI (by omega) (by decide)).mp q; omega), if_pos ((nI_leI (by omega) (by decide)).mpr (by omega)), zl, nI_sub (by omega), e1, nI_add, show 48 + t - 48 = t by omega]
theorem sX10_figure0 {fuel : Nat} {a n d v : Int32} {it : Nat → Int32} (h : fX10_byteAt fuel a n d it = some v) : fX10_figure fuel a (nI 0) n d it = some (nI 0, a, nI 0) := by
  unfold fX10_figure fX10_figure_J24
  rw [h, zbs, show (0 : Int32) = nI 0 from rfl, if_pos z00]
def dgR (sg : Nat → Int32) : Nat → Nat → Option Nat
  | _, 0 => none
  | i, m + 1 => if (dig (sg i)).isSome = true then dgR sg (i + 1) m else some i
theorem dgR_add (sg : Nat → Int32) : ∀ (m i : Nat), dgR sg i (m + 1) = match dgR sg i m with | some j => some j | none => if (dig (sg (i + m))).isSome = true then none else some (i + m)
  | 0, i => by simp [dgR]
  | m + 1, i => by
    rw [dgR, dgR_add sg m (i + 1)]
    conv => rhs; rw [dgR]
    by_cases q : (dig (sg i)).isSome = true
    · rw [if_pos q, if_pos q, show i + 1 + m = i + (m + 1) by omega]
    · rw [if_neg q, if_neg q]
theorem dgR_none {sg : Nat → Int32} : ∀ {m i : Nat}, dgR sg i m = none → ∀ x, x < m → ∃ t, dig (sg (i + x)) = some t
  | 0, _, _, x, hx => absurd hx (Nat.not_lt_zero x)
  | m + 1, i, h, x, hx => by
    rw [dgR] at h
    split at h
    · rename_i q
      cases x with
      | zero => exact Option.isSome_iff_exists.mp q
      | succ x =>
        obtain ⟨t, ht⟩ := dgR_none h x (by omega)
        exact ⟨t, by rw [show i + (x + 1) = i + 1 + x by omega]; exact ht⟩
    · cases h
theorem dgR_lt {sg : Nat → Int32} : ∀ {m i j : Nat}, dgR sg i m = some j → i ≤ j ∧ j < i + m
  | 0, _, _, h => by cases h
  | m + 1, i, j, h => by
    rw [dgR] at h
    split at h
    · have := dgR_lt h; omega
    · cases h; omega
def ltS (sg : Nat → Int32) : Nat → Nat → Nat
  | _, 0 => 0
  | i, m + 1 => if (letS (sg i)).isSome = true then ltS sg (i + 1) m + 1 else 0
theorem ltS_le (sg : Nat → Int32) : ∀ (m i : Nat), ltS sg i m ≤ m
  | 0, _ => Nat.le_refl _
  | m + 1, i => by
    rw [ltS]
    split
    · have := ltS_le sg m (i + 1); omega
    · omega
theorem ltS_let (sg : Nat → Int32) : ∀ (m i x : Nat), x < ltS sg i m → ∃ y, letS (sg (i + x)) = some y
  | 0, _, x, h => absurd h (Nat.not_lt_zero x)
  | m + 1, i, x, h => by
    rw [ltS] at h
    split at h
    · rename_i q
      cases x with
      | zero => exact Option.isSome_iff_exists.mp q
      | succ x =>
        obtain ⟨t, ht⟩ := ltS_let sg m (i + 1) x (by omega)
        exact ⟨t, by rw [show i + (x + 1) = i + 1 + x by omega]; exact ht⟩
    · exact absurd h (Nat.not_lt_zero x)
def lenS (sg : Nat → Int32) (p k : Nat) : Nat := 2 + if k = 5 then ltS sg (p + 1) 6 else dgc k
theorem dgc_le (k : Nat) : dgc k ≤ 4 := by unfold dgc; split <;> omega
theorem lenS_le (sg : Nat → Int32) (p k : Nat) : 2 ≤ lenS sg p k ∧ lenS sg p k ≤ 8 := by
  have h1 := ltS_le sg 6 (p + 1)
  have h2 := dgc_le k
  unfold lenS
  split <;> omega
/-- where a statement is broken -/
def brS (sg : Nat → Int32) (p : Nat) : Option Nat := match kdS (sg p) with
  | none => some p
  | some k => match dgR sg (p + 1) (dgc k) with
    | some i => some i
    | none => if sg (p + lenS sg p k - 1) = nI 59 then none else some (p + lenS sg p k - 1)
theorem sX6_digitsBehind {fuel : Nat} (v : Int32) : fX6_digitsBehind fuel v = some (nI (match kdS v with | some k => dgc k | none => 0)) := by
  cases h : kdS v with
  | some k =>
    obtain ⟨rfl, hk⟩ := kdS_some h
    rcases (show k = 0 ∨ k = 1 ∨ k = 2 ∨ k = 3 ∨ k = 4 ∨ k = 5 by omega) with rfl | rfl | rfl | rfl | rfl | rfl <;> rfl
  | none =>
    have hn := kdS_none h
    have h0 : ¬ v = 103 := hn 0 (by omega)
    have h1 : ¬ v = 104 := hn 1 (by omega)
    have h2 : ¬ v = 98 := hn 2 (by omega)
    have h3 : ¬ v = 109 := hn 3 (by omega)
    have h4 : ¬ v = 107 := hn 4 (by omega)
    show fX6_digitsBehind fuel v = some (nI 0)
    unfold fX6_digitsBehind
    rw [if_neg h2, if_neg h0, if_neg h1, if_neg h4, if_neg h3]
    repeat' split
    all_goals rfl
theorem sX6_lettersBehind {fuel n d p : Nat} {sg sz : Nat → Int32} {el : Nat → Nat → Int32} (hf : 100 < fuel) (hp : p ≤ 100) (hC : ∀ a, a < 2 ^ 31 → fX7_signAt fuel sz el d (nI a) = some (sg a)) : fX6_lettersBehind fuel sz el d (nI p) = some (nI (ltS sg (p + 1) 6)) := by
  have key : ∀ (m w c : Nat), c + m = 6 → m < w → fX6_lettersBehind_L2 fuel sz el d (nI p) w (nI c) = some (nI (c + ltS sg (p + 1 + c) m)) := by
    intro m
    induction m with
    | zero =>
      intro w c h1 h2
      obtain ⟨w, rfl⟩ : ∃ k, w = k + 1 := ⟨w - 1, by omega⟩
      rw [fX6_lettersBehind_L2]
      simp (disch := omega) only [zlit, zz, if_pos, if_neg, if_true, if_false, zgd', zl, zbs, zbz, encz]
      rfl
    | succ m ih =>
      intro w c h1 h2
      obtain ⟨w, rfl⟩ : ∃ k, w = k + 1 := ⟨w - 1, by omega⟩
      have hs := hC (p + 1 + c) (by omega)
      rw [fX6_lettersBehind_L2, ltS]
      cases q : (letS (sg (p + 1 + c))).isSome with
      | true =>
        have hl : fX6_isLetterOfRule fuel (sg (p + 1 + c)) = some (nI 1) := by rw [sX6_isLetter hf, q]; rfl
        simp (disch := omega) only [zlit, zz, if_pos, if_neg, if_true, if_false, zgd', zl, zbs, zbz, encz, hs, hl, z10]
        rw [ih w (c + 1) (by omega) (by omega)]
        rw [show p + 1 + (c + 1) = p + 1 + c + 1 by omega]
        congr 2
        omega
      | false =>
        have hl : fX6_isLetterOfRule fuel (sg (p + 1 + c)) = some (nI 0) := by rw [sX6_isLetter hf, q]; rfl
        simp (disch := omega) only [zlit, zz, if_pos, if_neg, if_true, if_false, zgd', zl, zbs, zbz, encz, hs, hl, Bool.false_eq_true]
        rfl
  unfold fX6_lettersBehind
  have := key 6 fuel 0 (by omega) (by omega)
  rw [Nat.zero_add] at this
  exact this
theorem sX6_lengthOf {fuel n d p k : Nat} {sg sz : Nat → Int32} {el : Nat → Nat → Int32} (hf : 100 < fuel) (hp : p ≤ 100) (hC : ∀ a, a < 2 ^ 31 → fX7_signAt fuel sz el d (nI a) = some (sg a)) (hk : kdS (sg p) = some k) : fX6_lengthOf fuel sz el d (nI p) = some (nI (lenS sg p k)) := by
  obtain ⟨hv, hk5⟩ := kdS_some hk
  unfold fX6_lengthOf lenS
  rw [hC p (by omega), zbs, hv]
  by_cases q : k = 5
  · subst q
    rw [if_pos (show zBeg 5 = 114 from rfl), if_pos rfl, sX6_lettersBehind (n := n) hf hp hC, zbs, show (2 : Int32) = nI 2 from rfl, nI_add]
  · have hne : ¬ zBeg k = 114 := by
      rcases (show k = 0 ∨ k = 1 ∨ k = 2 ∨ k = 3 ∨ k = 4 by omega) with rfl | rfl | rfl | rfl | rfl <;> decide
    rw [if_neg hne, if_neg q, sX6_digitsBehind, zbs, ← hv, hk, show (2 : Int32) = nI 2 from rfl, nI_add]
theorem sX6_brokenIn {fuel n d p : Nat} {sg sz : Nat → Int32} {el : Nat → Nat → Int32} (hf : 100 < fuel) (hp : p ≤ 100) (hC : ∀ a, a < 2 ^ 31 → fX7_signAt fuel sz el d (nI a) = some (sg a)) : fX6_brokenIn fuel sz el d (nI p) = some (enc (brS sg p)) := by
  have e0 : (0 : Int32) = nI 0 := rfl
  have e1 : (1 : Int32) = nI 1 := rfl
  unfold fX6_brokenIn brS
  rw [hC p (by omega), zbs, sX6_digitsBehind, zbs]
  cases hk : kdS (sg p) with
  | none =>
    have hne : ¬ sg p = 114 := kdS_none hk 5 (by omega)
    show (if nI 0 = 0 then _ else _) = _
    rw [e0, if_pos rfl, if_neg hne]
    rfl
  | some k =>
    obtain ⟨hv, hk5⟩ := kdS_some hk
    have hlen := lenS_le sg p k
    have h57 : fX6_brokenIn_J57 fuel sz el d (nI p) = some (enc (if sg (p + lenS sg p k - 1) = nI 59 then none else some (p + lenS sg p k - 1))) := by
      unfold fX6_brokenIn_J57
      rw [sX6_lengthOf (n := n) hf hp hC hk, zbs, zl, nI_add, e1, nI_sub (by omega), hC _ (by omega), zbs, show (59 : Int32) = nI 59 from rfl]
      by_cases q : sg (p + lenS sg p k - 1) = nI 59
      · rw [if_pos q, if_pos q]; rfl
      · rw [if_neg q, if_neg q]; rfl
    have hdl := dgc_le k
    have key : ∀ (m w i : Nat), i + m = p + 1 + dgc k → m < w → fX6_brokenIn_L28 fuel sz el d (nI p) w (nI (dgc k)) (nI i) = some (enc (match dgR sg i m with | some j => some j | none => if sg (p + lenS sg p k - 1) = nI 59 then none else some (p + lenS sg p k - 1))) := by
      intro m
      induction m with
      | zero =>
        intro w i h1 h2
        obtain ⟨w, rfl⟩ : ∃ k, w = k + 1 := ⟨w - 1, by omega⟩
        rw [fX6_brokenIn_L28, nI_add, if_pos ((nI_ltI (by omega) (by omega)).mpr (by omega))]
        exact h57
      | succ m ih =>
        intro w i h1 h2
        obtain ⟨w, rfl⟩ : ∃ k, w = k + 1 := ⟨w - 1, by omega⟩
        rw [fX6_brokenIn_L28, nI_add, if_neg (fun q => by have := (nI_ltI (by omega) (by omega)).mp q; omega), hC i (by omega), zbs, sX6_isDigit, zbs, dgR, e0]
        cases q : (dig (sg i)).isSome with
        | true =>
          rw [if_neg (show ¬ zb01 true = nI 0 from z10), zl, e1, nI_add, if_pos rfl]
          exact ih w (i + 1) (by omega) (by omega)
        | false =>
          rw [if_pos (show zb01 false = nI 0 from rfl), if_neg (by decide)]
          rfl
    have hj : fX6_brokenIn_J23 fuel sz el d (nI p) (nI (dgc k)) = some (enc (match dgR sg (p + 1) (dgc k) with | some j => some j | none => if sg (p + lenS sg p k - 1) = nI 59 then none else some (p + lenS sg p k - 1))) := by
      unfold fX6_brokenIn_J23
      rw [zl, e1, nI_add]
      exact key (dgc k) fuel (p + 1) (by omega) (by omega)
    show (if nI (dgc k) = 0 then _ else _) = _
    rw [e0]
    by_cases q : dgc k = 0
    · have hk5' : k = 5 := by
        rcases (show k = 0 ∨ k = 1 ∨ k = 2 ∨ k = 3 ∨ k = 4 ∨ k = 5 by omega) with rfl | rfl | rfl | rfl | rfl | rfl <;> first | rfl | (exact absurd q (by decide))
      rw [if_pos (by rw [q]), if_pos (by rw [hv, hk5']; rfl)]
      exact hj
    · rw [if_neg (fun h => q ((nI_eq (by omega) (by decide)).mp h))]
      exact hj
