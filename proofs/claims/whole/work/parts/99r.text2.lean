/-! The model reads a statement. -/
theorem sX10_st_J189 {fuel n d a : Nat} {sg it : Nat → Int32} (ha : a < 1000) (hB : ∀ a, a < 2 ^ 31 → fX10_byteAt fuel (nI a) (nI n) (nI d) it = some (sg a)) (so : Int32) (fi : Nat → Int32) (fs : Int32) : fX10_statement_J189 fuel (nI n) (nI d) it (nI a) (nI 1) so fi fs = some (if sg a = nI 59 then (nI (a + 1), nI 1, so, fi, fs) else (nI a, nI 0, so, fi, fs)) := by
  unfold fX10_statement_J189 fX10_statement_J218
  have e0 : (0 : Int32) = nI 0 := rfl
  rw [e0, if_neg z10, hB a (by omega), zbs, show (59 : Int32) = nI 59 from rfl]
  by_cases q : sg a = nI 59
  · rw [if_pos q, if_pos q, zl, show (1 : Int32) = nI 1 from rfl, nI_add]
  · rw [if_neg q, if_neg q]
theorem sX10_st_J189z {fuel : Nat} {n d a : Int32} {it : Nat → Int32} (so : Int32) (fi : Nat → Int32) (fs : Int32) : fX10_statement_J189 fuel n d it a (nI 0) so fi fs = some (a, nI 0, so, fi, fs) := by
  unfold fX10_statement_J189 fX10_statement_J218
  have e0 : (0 : Int32) = nI 0 := rfl
  rw [e0, if_pos z00]
theorem sX10_st_L139 {fuel n d : Nat} {sg rl it : Nat → Int32} (hR : ∀ a, a < 2 ^ 31 → fX10_oneOf_ruleLetters fuel (nI a) (nI n) (nI d) rl it = some (rlO (sg a) a)) (we so : Int32) :
    ∀ (m w c a : Nat) (fi : Nat → Int32), c + (m + 1) = 6 → m + 1 < w → a + m < 1000 →
      ∃ f2, fX10_statement_L139 fuel (nI n) (nI d) rl it w (rlO (sg a) a).1 (rlO (sg a) a).2 we so fi (nI c) = fX10_statement_J189 fuel (nI n) (nI d) it (nI (a + ltS sg a (m + 1))) we so f2 (nI (c + ltS sg a (m + 1))) ∧ (∀ x, x < c → f2 x = fi x) ∧ ∀ x, x < ltS sg a (m + 1) → ∃ y, letS (sg (a + x)) = some y ∧ f2 (c + x) = nI y := by
  intro m
  induction m with
  | zero =>
    intro w c a fi h1 h2 h3
    obtain ⟨w, rfl⟩ : ∃ k, w = k + 1 := ⟨w - 1, by omega⟩
    obtain ⟨w, rfl⟩ : ∃ k, w = k + 1 := ⟨w - 1, by omega⟩
    rw [ltS]
    cases q : letS (sg a) with
    | none =>
      refine ⟨fi, ?_, fun _ _ => rfl, fun x hx => by simp at hx⟩
      rw [show rlO (sg a) a = (zAw, nI a) by unfold rlO; rw [q]]
      rw [fX10_statement_L139]
      simp (disch := omega) only [zlit, zz, if_pos, if_neg, if_true, if_false, zgd', zl, zbs, zbz, encz]
      simp
    | some k =>
      have hk := (letS_some q).2
      refine ⟨upd fi c (nI k), ?_, fun x hx => by unfold upd; rw [if_neg (by omega)], fun x hx => ?_⟩
      · rw [show rlO (sg a) a = (nI k, nI (a + 1)) by unfold rlO; rw [q]]
        rw [fX10_statement_L139]
        have e5 : c = 5 := by omega
        subst e5
        show (if nI k = -1 then _ else _) = _
        rw [show (-1 : Int32) = zAw from rfl, if_neg (show ¬ nI k = zAw from nI_m1 (by omega))]
        simp (disch := omega) only [zlit, zz, if_pos, if_neg, if_true, if_false, zgd', zl, zbs, zbz, encz]
        rw [fX10_statement_L139, show (-1 : Int32) = zAw from rfl, if_pos rfl]
        simp [ltS]
      · simp [ltS] at hx
        subst hx
        exact ⟨k, q, by simp [upd]⟩
  | succ m ih =>
    intro w c a fi h1 h2 h3
    obtain ⟨w, rfl⟩ : ∃ k, w = k + 1 := ⟨w - 1, by omega⟩
    rw [ltS]
    cases q : letS (sg a) with
    | none =>
      refine ⟨fi, ?_, fun _ _ => rfl, fun x hx => by simp at hx⟩
      rw [show rlO (sg a) a = (zAw, nI a) by unfold rlO; rw [q]]
      rw [fX10_statement_L139]
      simp (disch := omega) only [zlit, zz, if_pos, if_neg, if_true, if_false, zgd', zl, zbs, zbz, encz]
      simp
    | some k =>
      have hk := (letS_some q).2
      obtain ⟨f2, e1, e2, e3⟩ := ih w (c + 1) (a + 1) (upd fi c (nI k)) (by omega) (by omega) (by omega)
      have hs : (some k).isSome = true := rfl
      rw [if_pos hs]
      refine ⟨f2, ?_, fun x hx => by rw [e2 x (by omega)]; unfold upd; rw [if_neg (by omega)], fun x hx => ?_⟩
      · rw [show rlO (sg a) a = (nI k, nI (a + 1)) by unfold rlO; rw [q]]
        rw [fX10_statement_L139]
        show (if nI k = -1 then _ else _) = _
        rw [show (-1 : Int32) = zAw from rfl, if_neg (show ¬ nI k = zAw from nI_m1 (by omega))]
        rw [zin_nI (by omega), zgd' (by omega), nI_clamp (by omega), zl, zl, show (1 : Int32) = nI 1 from rfl, nI_add, show (6 : Int32) = nI 6 from rfl, if_neg (fun h => by have := (nI_leI (by decide) (by omega)).mp h; omega)]
        dsimp only
        rw [hR (a + 1) (by omega), zbs, e1, show a + 1 + ltS sg (a + 1) (m + 1) = a + (ltS sg (a + 1) (m + 1) + 1) by omega, show c + 1 + ltS sg (a + 1) (m + 1) = c + (ltS sg (a + 1) (m + 1) + 1) by omega]
      · cases x with
        | zero => exact ⟨k, q, by rw [Nat.add_zero, e2 c (by omega)]; simp [upd]⟩
        | succ x =>
          obtain ⟨y, y1, y2⟩ := e3 x (by omega)
          refine ⟨y, by rw [show a + (x + 1) = a + 1 + x by omega]; exact y1, by rw [show c + (x + 1) = c + 1 + x by omega]; exact y2⟩
theorem sX10_st_L71z {fuel : Nat} {n d so : Int32} {rl it : Nat → Int32} {nf : Nat} {a v : Int32} (hn : nf ≤ 6) (hb : fX10_byteAt fuel a n d it = some v) :
    ∀ (m w j : Nat) (fi : Nat → Int32), j + m = nf → m < w → ∃ f2, fX10_statement_L71 fuel n d rl it w (nI j) a (nI 0) so fi (nI nf) = fX10_statement_J95 fuel n d rl it a (nI 0) so f2 (nI nf) := by
  intro m
  induction m with
  | zero =>
    intro w j fi h1 h2
    obtain ⟨w, rfl⟩ : ∃ k, w = k + 1 := ⟨w - 1, by omega⟩
    rw [fX10_statement_L71]
    simp (disch := omega) only [zlit, zz, if_pos, if_neg, if_true, if_false, zgd', zl, zbs, zbz, encz]
    exact ⟨_, rfl⟩
  | succ m ih =>
    intro w j fi h1 h2
    obtain ⟨w, rfl⟩ : ∃ k, w = k + 1 := ⟨w - 1, by omega⟩
    rw [fX10_statement_L71, if_neg (fun h => by have := (nI_leI (by omega) (by omega)).mp h; omega), sX10_figure0 hb, zbs]
    simp (disch := omega) only [zlit, zz, if_pos, if_neg, if_true, if_false, zgd', zl, zbs, zbz, encz]
    exact ih w (j + 1) _ (by omega) (by omega)
theorem sX10_st_L71 {fuel n d nf : Nat} {sg rl it : Nat → Int32} (hn : nf ≤ 6) (hB : ∀ a, a < 2 ^ 31 → fX10_byteAt fuel (nI a) (nI n) (nI d) it = some (sg a)) (so : Int32) :
    ∀ (m w j a : Nat) (fi : Nat → Int32), j + m = nf → m < w → a + m < 500 →
      ∃ f2, (∀ x, x < j → f2 x = fi x) ∧ (dgR sg a m = none → fX10_statement_L71 fuel (nI n) (nI d) rl it w (nI j) (nI a) (nI 1) so fi (nI nf) = fX10_statement_J95 fuel (nI n) (nI d) rl it (nI (a + m)) (nI 1) so f2 (nI nf) ∧ ∀ x, x < m → ∃ t, dig (sg (a + x)) = some t ∧ f2 (j + x) = nI t) ∧
        ∀ i, dgR sg a m = some i → ∃ f3, fX10_statement_L71 fuel (nI n) (nI d) rl it w (nI j) (nI a) (nI 1) so fi (nI nf) = fX10_statement_J95 fuel (nI n) (nI d) rl it (nI i) (nI 0) so f3 (nI nf) := by
  intro m
  induction m with
  | zero =>
    intro w j a fi h1 h2 h3
    obtain ⟨w, rfl⟩ : ∃ k, w = k + 1 := ⟨w - 1, by omega⟩
    refine ⟨fi, fun _ _ => rfl, fun _ => ⟨?_, fun x hx => absurd hx (Nat.not_lt_zero x)⟩, fun i h => by cases h⟩
    rw [fX10_statement_L71]
    simp (disch := omega) only [zlit, zz, if_pos, if_neg, if_true, if_false, zgd', zl, zbs, zbz, encz]
    rfl
  | succ m ih =>
    intro w j a fi h1 h2 h3
    obtain ⟨w, rfl⟩ : ∃ k, w = k + 1 := ⟨w - 1, by omega⟩
    have hfig := sX10_figure (hB a (by omega))
    rw [dgR]
    cases q : dig (sg a) with
    | none =>
      rw [q] at hfig
      refine ⟨fi, fun _ _ => rfl, fun h => by simp at h, fun i h => ?_⟩
      simp at h
      subst h
      obtain ⟨f2, e⟩ := sX10_st_L71z (so := so) (rl := rl) hn (hB a (by omega)) m w (j + 1) (upd fi j (nI 0)) (by omega) (by omega)
      refine ⟨f2, ?_⟩
      rw [← e, fX10_statement_L71, if_neg (fun h => by have := (nI_leI (by omega) (by omega)).mp h; omega), hfig, zbs]
      simp (disch := omega) only [zlit, zz, if_pos, if_neg, if_true, if_false, zgd', zl, zbs, zbz, encz]
    | some t =>
      rw [q] at hfig
      obtain ⟨f2, e1, e2, e3⟩ := ih w (j + 1) (a + 1) (upd fi j (nI t)) (by omega) (by omega) (by omega)
      have hstep : fX10_statement_L71 fuel (nI n) (nI d) rl it (w + 1) (nI j) (nI a) (nI 1) so fi (nI nf) = fX10_statement_L71 fuel (nI n) (nI d) rl it w (nI (j + 1)) (nI (a + 1)) (nI 1) so (upd fi j (nI t)) (nI nf) := by
        rw [fX10_statement_L71, if_neg (fun h => by have := (nI_leI (by omega) (by omega)).mp h; omega), hfig, zbs]
        simp (disch := omega) only [zlit, zz, if_pos, if_neg, if_true, if_false, zgd', zl, zbs, zbz, encz]
      rw [hstep]
      have hs : (some t).isSome = true := rfl
      simp only [hs, if_true]
      refine ⟨f2, fun x hx => by rw [e1 x (by omega)]; unfold upd; rw [if_neg (by omega)], fun h => ?_, e3⟩
      obtain ⟨g1, g2⟩ := e2 h
      refine ⟨by rw [g1, show a + 1 + m = a + (m + 1) by omega], fun x hx => ?_⟩
      cases x with
      | zero => exact ⟨t, q, by rw [Nat.add_zero, e1 j (by omega)]; simp [upd]⟩
      | succ x =>
        obtain ⟨y, y1, y2⟩ := g2 x (by omega)
        exact ⟨y, by rw [show a + (x + 1) = a + 1 + x by omega]; exact y1, by rw [show j + (x + 1) = j + 1 + x by omega]; exact y2⟩
/-- what the fields hold -/
def fldS (sg : Nat → Int32) (p k : Nat) (f : Nat → Int32) (c : Nat) : Prop :=
  (k = 0 → ∃ a b x y, dig (sg (p + 1)) = some a ∧ dig (sg (p + 2)) = some b ∧ dig (sg (p + 3)) = some x ∧ dig (sg (p + 4)) = some y ∧ f 0 = nI a ∧ f 1 = nI b ∧ f 2 = nI (10 * x + y)) ∧ (k = 1 → ∃ a b, dig (sg (p + 1)) = some a ∧ dig (sg (p + 2)) = some b ∧ f 0 = nI a ∧ f 1 = nI b) ∧ (2 ≤ k ∧ k ≤ 4 → ∃ a, dig (sg (p + 1)) = some a ∧ f 0 = nI a) ∧ (k = 5 → c = ltS sg (p + 1) 6 ∧ ∀ x, x < c → ∃ y, letS (sg (p + 1 + x)) = some y ∧ f x = nI y)
theorem sX10_statement {n d p : Nat} {sg : Nat → Int32} (fuel : Nat) (M_at : Int32) (M_well : Int32) (M_sort : Int32) (M_text : Int32) (M_row : Int32) (M_field : Nat → Int32) (M_fields : Int32) (M_begins : Nat → Int32) (M_ruleLetters : Nat → Int32) (M_items : Nat → Int32) {sz : Nat → Int32} {el : Nat → Nat → Int32} (hf : 100 < fuel) (hp : p ≤ 100) (ht : txS fuel n d sg sz el M_begins M_ruleLetters M_items) (h1 : M_at = nI p) (h2 : M_text = nI n) (h3 : M_row = nI d) :
    (∀ i, brS sg p = some i → ∃ s2 f2 c2, fX10_statement fuel M_at M_well M_sort M_text M_row M_field M_fields M_begins M_ruleLetters M_items = some (nI i, nI 0, s2, f2, c2)) ∧ (brS sg p = none → ∃ k f2 c, kdS (sg p) = some k ∧ fX10_statement fuel M_at M_well M_sort M_text M_row M_field M_fields M_begins M_ruleLetters M_items = some (nI (p + lenS sg p k), nI 1, nI k, f2, nI c) ∧ fldS sg p k f2 c) := by
  obtain ⟨t1, t2, t3, t4, t5, t6, t7, t8, t9⟩ := ht
  subst h1 h2 h3
  have e0 : (0 : Int32) = nI 0 := rfl
  have e1 : (1 : Int32) = nI 1 := rfl
  have e2 : (2 : Int32) = nI 2 := rfl
  have e3 : (3 : Int32) = nI 3 := rfl
  have e5 : (5 : Int32) = nI 5 := rfl
  have em : (-1 : Int32) = zAw := rfl
  unfold fX10_statement brS
  rw [t9 p (by omega), zbs]
  cases hk : kdS (sg p) with
  | none =>
    rw [show kbO (sg p) p = (zAw, nI p) by unfold kbO; rw [hk]]
    refine ⟨fun i hi => ?_, fun h => by cases h⟩
    cases hi
    dsimp only
    rw [em, if_pos rfl, e0, if_neg (show ¬ zAw = nI 0 by decide), e1, if_neg (show ¬ zAw = nI 1 by decide), e5, if_neg (show ¬ zAw = nI 5 by decide)]
    obtain ⟨f2, q⟩ := sX10_st_L71z (so := zAw) (rl := M_ruleLetters) (nf := 1) (by omega) (t7 p (by omega)) 1 fuel 0 M_field (by omega) (by omega)
    rw [q]
    unfold fX10_statement_J95
    rw [e0, if_neg (show ¬ zAw = nI 0 by decide)]
    unfold fX10_statement_J122
    rw [e5, if_neg (show ¬ zAw = nI 5 by decide), sX10_st_J189z]
    exact ⟨_, _, _, rfl⟩
  | some k =>
    rw [show kbO (sg p) p = (nI k, nI (p + 1)) by unfold kbO; rw [hk]]
    obtain ⟨hv, hk5⟩ := kdS_some hk
    have hlen := lenS_le sg p k
    have hkaw : ¬ nI k = zAw := nI_m1 (by omega)
    -- behind the figures
    have fin : ∀ (fs : Int32) (fi : Nat → Int32), k ≠ 5 → fX10_statement_J122 fuel (nI n) (nI d) M_ruleLetters M_items (nI (p + 1 + dgc k)) (nI 1) (nI k) fi fs = some (if sg (p + lenS sg p k - 1) = nI 59 then (nI (p + lenS sg p k), nI 1, nI k, fi, fs) else (nI (p + lenS sg p k - 1), nI 0, nI k, fi, fs)) := by
      intro fs fi h5
      have hl : lenS sg p k = 2 + dgc k := by unfold lenS; rw [if_neg h5]
      have hd4 := dgc_le k
      unfold fX10_statement_J122
      rw [e5, if_neg (fun h => h5 ((nI_eq (by omega) (by decide)).mp h)), sX10_st_J189 (by omega) t7, show p + 1 + dgc k = p + lenS sg p k - 1 by omega, show p + lenS sg p k - 1 + 1 = p + lenS sg p k by omega]
    have fin0 : ∀ (a fs : Int32) (fi : Nat → Int32), k ≠ 5 → fX10_statement_J122 fuel (nI n) (nI d) M_ruleLetters M_items a (nI 0) (nI k) fi fs = some (a, nI 0, nI k, fi, fs) := by
      intro a fs fi h5
      unfold fX10_statement_J122
      rw [e5, if_neg (fun h => h5 ((nI_eq (by omega) (by decide)).mp h)), sX10_st_J189z]
    dsimp only
    rw [em, if_neg hkaw]
    by_cases k0 : k = 0
    · subst k0
      rw [e0, if_pos rfl, e3]
      obtain ⟨f2, g1, g2, g3⟩ := sX10_st_L71 (nf := 3) (rl := M_ruleLetters) (by omega) t7 (nI 0) 3 fuel 0 (p + 1) M_field (by omega) (by omega) (by omega)
      have hadd := dgR_add sg 3 (p + 1)
      have hd0 : dgc 0 = 3 + 1 := rfl
      rw [hd0, hadd]
      cases hq : dgR sg (p + 1) 3 with
      | some i =>
        refine ⟨fun j hj => ?_, fun h => by cases h⟩
        cases hj
        have hil := dgR_lt hq
        obtain ⟨f3, g4⟩ := g3 i hq
        rw [e1, g4]
        unfold fX10_statement_J95
        rw [e0, if_pos z00, sX10_figure0 (t7 i (by omega)), zbs, zl, fin0 _ _ _ (by decide)]
        exact ⟨_, _, _, rfl⟩
      | none =>
        obtain ⟨g4, g5⟩ := g2 hq
        rw [e1, g4]
        unfold fX10_statement_J95
        have hfig := sX10_figure (t7 (p + 1 + 3) (by omega))
        rw [e0, if_pos z00, hfig, zbs]
        cases hy : dig (sg (p + 1 + 3)) with
        | none =>
          refine ⟨fun j hj => ?_, fun h => by simp at h⟩
          simp at hj
          subst hj
          dsimp only
          rw [zl, fin0 _ _ _ (by decide)]
          exact ⟨_, _, _, rfl⟩
        | some y =>
          obtain ⟨a, a1, a2⟩ := g5 0 (by omega)
          obtain ⟨b, b1, b2⟩ := g5 1 (by omega)
          obtain ⟨x, x1, x2⟩ := g5 2 (by omega)
          have hf2 : f2 2 = nI x := x2
          dsimp only
          rw [zl, hf2, show (10 : Int32) = nI 10 from rfl, pk_mul, nI_add, show p + 1 + 3 + 1 = p + 1 + dgc 0 from rfl, fin _ _ (by decide)]
          have hs : (some y).isSome = true := rfl
          simp only [hs, if_true]
          by_cases q59 : sg (p + lenS sg p 0 - 1) = nI 59
          · rw [if_pos q59, if_pos q59]
            refine ⟨fun j hj => (by cases hj), fun _ => ⟨0, _, 3, rfl, rfl, fun _ => ⟨a, b, x, y, a1, b1, x1, hy, ?_, ?_, ?_⟩, fun h => (by cases h), fun h => by omega, fun h => by cases h⟩⟩
            · simp [upd]; exact a2
            · simp [upd]; exact b2
            · simp [upd]
          · rw [if_neg q59, if_neg q59]
            exact ⟨fun j hj => by cases hj; exact ⟨_, _, _, rfl⟩, fun h => by cases h⟩
    · have hk0 : ¬ nI k = nI 0 := fun h => k0 ((nI_eq (by omega) (by decide)).mp h)
      rw [e0, if_neg hk0]
      -- the others with figures
      have mid : ∀ nf, nf = dgc k → k ≠ 5 → nf ≤ 2 → (∀ i, (match dgR sg (p + 1) (dgc k) with | some i => some i | none => if sg (p + lenS sg p k - 1) = nI 59 then none else some (p + lenS sg p k - 1)) = some i → ∃ s2 f2 c2, fX10_statement_L71 fuel (nI n) (nI d) M_ruleLetters M_items fuel (nI 0) (nI (p + 1)) (nI 1) (nI k) M_field (nI nf) = some (nI i, nI 0, s2, f2, c2)) ∧ ((match dgR sg (p + 1) (dgc k) with | some i => some i | none => if sg (p + lenS sg p k - 1) = nI 59 then none else some (p + lenS sg p k - 1)) = none → ∃ f2, fX10_statement_L71 fuel (nI n) (nI d) M_ruleLetters M_items fuel (nI 0) (nI (p + 1)) (nI 1) (nI k) M_field (nI nf) = some (nI (p + lenS sg p k), nI 1, nI k, f2, nI nf) ∧ ∀ x, x < nf → ∃ t, dig (sg (p + 1 + x)) = some t ∧ f2 x = nI t) := by
        intro nf hnf h5 hn2
        obtain ⟨f2, g1, g2, g3⟩ := sX10_st_L71 (nf := nf) (rl := M_ruleLetters) (by omega) t7 (nI k) nf fuel 0 (p + 1) M_field (by omega) (by omega) (by omega)
        rw [← hnf]
        cases hq : dgR sg (p + 1) nf with
        | some i =>
          refine ⟨fun j hj => ?_, fun h => by cases h⟩
          cases hj
          obtain ⟨f3, g4⟩ := g3 i hq
          rw [g4]
          unfold fX10_statement_J95
          rw [e0, if_neg hk0, fin0 _ _ _ h5]
          exact ⟨_, _, _, rfl⟩
        | none =>
          obtain ⟨g4, g5⟩ := g2 hq
          rw [g4]
          unfold fX10_statement_J95
          rw [e0, if_neg hk0, hnf, fin _ _ h5]
          dsimp only
          by_cases q59 : sg (p + lenS sg p k - 1) = nI 59
          · rw [if_pos q59, if_pos q59]
            refine ⟨fun j hj => (by cases hj), fun _ => ⟨f2, rfl, fun x hx => ?_⟩⟩
            obtain ⟨t, t1, t2⟩ := g5 x (by omega)
            exact ⟨t, t1, by rw [Nat.zero_add] at t2; exact t2⟩
          · rw [if_neg q59, if_neg q59]
            exact ⟨fun j hj => by cases hj; exact ⟨_, _, _, rfl⟩, fun h => by cases h⟩
      by_cases k1 : k = 1
      · subst k1
        rw [e1, if_pos rfl, e2]
        obtain ⟨m1, m2⟩ := mid 2 rfl (by decide) (by omega)
        refine ⟨m1, fun h => ?_⟩
        obtain ⟨f2, g1, g2⟩ := m2 h
        obtain ⟨a, a1, a2⟩ := g2 0 (by omega)
        obtain ⟨b, b1, b2⟩ := g2 1 (by omega)
        exact ⟨1, f2, 2, rfl, g1, fun h => (by cases h), fun _ => ⟨a, b, a1, b1, a2, b2⟩, fun h => by omega, fun h => by cases h⟩
      · have hk1 : ¬ nI k = nI 1 := fun h => k1 ((nI_eq (by omega) (by decide)).mp h)
        rw [e1, if_neg hk1]
        by_cases k5 : k = 5
        · subst k5
          rw [e5, if_pos rfl]
          have hd5 : dgc 5 = 0 := rfl
          have hlt6 := ltS_le sg 6 (p + 1)
          have hl5 : lenS sg p 5 = 2 + ltS sg (p + 1) 6 := by unfold lenS; rw [if_pos rfl]
          obtain ⟨w, rfl⟩ : ∃ w, fuel = w + 1 := ⟨fuel - 1, by omega⟩
          rw [hd5, dgR, fX10_statement_L71, if_pos ((nI_leI (a := 0) (b := 0) (by decide) (by decide)).mpr (Nat.le_refl _))]
          unfold fX10_statement_J95
          rw [e0, if_neg (show ¬ nI 5 = nI 0 by decide)]
          unfold fX10_statement_J122
          rw [e5, if_pos rfl, t8 (p + 1) (by omega), zbs]
          obtain ⟨f2, g1, g2, g3⟩ := sX10_st_L139 (fuel := w + 1) (sg := sg) t8 (nI 1) (nI 5) 5 (w + 1) 0 (p + 1) M_field (by omega) (by omega) (by omega)
          have hs6 : ltS sg (p + 1) (5 + 1) = ltS sg (p + 1) 6 := rfl
          rw [hs6] at g1 g3
          rw [g1, sX10_st_J189 (by omega) t7, show p + 1 + ltS sg (p + 1) 6 = p + lenS sg p 5 - 1 by omega, show p + lenS sg p 5 - 1 + 1 = p + lenS sg p 5 by omega]
          dsimp only
          by_cases q59 : sg (p + lenS sg p 5 - 1) = nI 59
          · rw [if_pos q59, if_pos q59]
            refine ⟨fun j hj => (by cases hj), fun _ => ⟨5, f2, 0 + ltS sg (p + 1) 6, rfl, rfl, fun h => (by cases h), fun h => (by cases h), fun h => by omega, fun _ => ⟨Nat.zero_add _, fun x hx => ?_⟩⟩⟩
            rw [Nat.zero_add] at hx
            obtain ⟨y, y1, y2⟩ := g3 x hx
            rw [Nat.zero_add] at y2
            exact ⟨y, y1, y2⟩
          · rw [if_neg q59, if_neg q59]
            exact ⟨fun j hj => by cases hj; exact ⟨_, _, _, rfl⟩, fun h => by cases h⟩
        · have hk5' : ¬ nI k = nI 5 := fun h => k5 ((nI_eq (by omega) (by decide)).mp h)
          rw [e5, if_neg hk5']
          have hd1 : 1 = dgc k := by
            rcases (show k = 2 ∨ k = 3 ∨ k = 4 by omega) with rfl | rfl | rfl <;> rfl
          obtain ⟨m1, m2⟩ := mid 1 hd1 k5 (by omega)
          refine ⟨m1, fun h => ?_⟩
          obtain ⟨f2, g1, g2⟩ := m2 h
          obtain ⟨a, a1, a2⟩ := g2 0 (by omega)
          exact ⟨k, f2, 1, rfl, g1, fun h => absurd h k0, fun h => absurd h k1, fun _ => ⟨a, a1, a2⟩, fun h => absurd h k5⟩
