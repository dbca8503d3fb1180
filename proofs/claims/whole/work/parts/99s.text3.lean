/-! The whole text: its form. -/
def tbS (sg : Nat → Int32) (n : Nat) : Nat → Nat → Nat → Option Nat × Nat
  | 0, _, c => (none, c)
  | m + 1, p, c => match brS sg p with
    | some i => (some i, c + 1)
    | none => if p + lenS sg p ((kdS (sg p)).getD 0) < n then tbS sg n m (p + lenS sg p ((kdS (sg p)).getD 0)) (c + 1) else (none, c + 1)
theorem brS_ok {sg : Nat → Int32} {p n : Nat} (h : brS sg p = none) (hn : ∀ a, n ≤ a → sg a = zAw) : ∃ k, kdS (sg p) = some k ∧ k ≤ 5 ∧ dgR sg (p + 1) (dgc k) = none ∧ sg (p + lenS sg p k - 1) = nI 59 ∧ p + lenS sg p k ≤ n := by
  unfold brS at h
  cases hk : kdS (sg p) with
  | none => rw [hk] at h; cases h
  | some k =>
    rw [hk] at h
    dsimp only at h
    cases hd : dgR sg (p + 1) (dgc k) with
    | some i => rw [hd] at h; cases h
    | none =>
      rw [hd] at h
      dsimp only at h
      split at h
      · rename_i q
        refine ⟨k, rfl, (kdS_some hk).2, hd, q, ?_⟩
        have hl := lenS_le sg p k
        by_cases qn : p + lenS sg p k ≤ n
        · exact qn
        · rw [hn (p + lenS sg p k - 1) (by omega)] at q
          exact absurd q (by decide)
      · cases h
theorem brS_lt {sg : Nat → Int32} {p i : Nat} (h : brS sg p = some i) : i ≤ p + 10 := by
  unfold brS at h
  cases hk : kdS (sg p) with
  | none => rw [hk] at h; cases h; omega
  | some k =>
    rw [hk] at h
    dsimp only at h
    have hl := lenS_le sg p k
    have hd4 := dgc_le k
    cases hd : dgR sg (p + 1) (dgc k) with
    | some j => rw [hd] at h; cases h; have := dgR_lt hd; omega
    | none =>
      rw [hd] at h
      dsimp only at h
      split at h
      · cases h
      · cases h; omega
theorem sX6_brokenAt_L4 {fuel n d : Nat} {sg sz : Nat → Int32} {el : Nat → Nat → Int32} {be rl it : Nat → Int32} (hf : 100 < fuel) (ht : txS fuel n d sg sz el be rl it) :
    ∀ (m w p v c : Nat), v ≤ p → p ≤ n → n < p + m → m < w → (v = 0 ∨ p < n) → fX6_brokenAt_L4 fuel sz el d w (nI p) (nI v) = some (enc (tbS sg n m p c).1) := by
  obtain ⟨t1, t2, t3, t4, t5, t6, t7, t8, t9⟩ := ht
  intro m
  induction m with
  | zero => intro w p v c h0 h1 h2; omega
  | succ m ih =>
    intro w p v c h0 h1 h2 h3 hv
    obtain ⟨w, rfl⟩ : ∃ k, w = k + 1 := ⟨w - 1, by omega⟩
    have e0 : (0 : Int32) = nI 0 := rfl
    have e1 : (1 : Int32) = nI 1 := rfl
    have e100 : (100 : Int32) = nI 100 := rfl
    have step : fX6_brokenAt_L4 fuel sz el d (w + 1) (nI p) (nI v) = fX6_brokenAt_J22 fuel sz el d (fX6_brokenAt_L4 fuel sz el d w) (nI p) (nI v) := by
      rw [fX6_brokenAt_L4, e0, e100, t3]
      by_cases q : v = 0
      · rw [if_pos ((nI_eq (by omega) (by omega)).mpr q)]
      · rw [if_neg (fun h => q ((nI_eq (by omega) (by omega)).mp h)), if_neg (fun h => by have := (nI_leI (by omega) (by omega)).mp h; omega), if_neg (fun h => by have := (nI_leI (by omega) (by omega)).mp h; omega)]
    rw [step]
    unfold fX6_brokenAt_J22
    rw [sX6_brokenIn (n := n) hf (by omega) t6, zbs, tbS]
    cases hb : brS sg p with
    | some i =>
      have := brS_lt hb
      rw [show (-4 : Int32) = zNo from rfl, if_neg (show ¬ enc (some i) = zNo from nI_m4 (by omega))]
    | none =>
      obtain ⟨k, k1, k2, k3, k4, k5⟩ := brS_ok hb t4
      have hl := lenS_le sg p k
      rw [show (-4 : Int32) = zNo from rfl, if_pos (show enc none = zNo from rfl), sX6_lengthOf (n := n) hf (by omega) t6 k1, zbs, zl, zl, nI_add, e1, nI_add, k1]
      dsimp only [Option.getD]
      by_cases q : p + lenS sg p k < n
      · rw [if_pos q]
        exact ih w _ (v + 1) (c + 1) (by omega) (by omega) (by omega) (by omega) (Or.inr q)
      · rw [if_neg q]
        obtain ⟨w, rfl⟩ : ∃ k, w = k + 1 := ⟨w - 1, by omega⟩
        rw [fX6_brokenAt_L4, e0, e100, t3, if_neg (fun h => by have := (nI_eq (by omega) (by omega)).mp h; omega)]
        by_cases q2 : 100 ≤ v + 1
        · rw [if_pos ((nI_leI (by omega) (by omega)).mpr q2)]
          rfl
        · rw [if_neg (fun h => q2 ((nI_leI (by omega) (by omega)).mp h)), if_pos ((nI_leI (by omega) (by omega)).mpr (by omega))]
          rfl
theorem tbS_lt {sg : Nat → Int32} {n : Nat} (hn : n ≤ 100) : ∀ (m p c i : Nat), p ≤ n → (tbS sg n m p c).1 = some i → i ≤ 200
  | 0, _, _, _, _, h => by cases h
  | m + 1, p, c, i, hp, h => by
    rw [tbS] at h
    cases hb : brS sg p with
    | some j =>
      rw [hb] at h
      cases h
      have := brS_lt hb
      omega
    | none =>
      rw [hb] at h
      dsimp only at h
      split at h
      · exact tbS_lt hn m _ _ i (by omega) h
      · cases h
theorem sX10_read_L7 {n d : Nat} {sg : Nat → Int32} (fuel : Nat) (M_text : Int32) (M_row : Int32) (M_begins : Nat → Int32) (M_ruleLetters : Nat → Int32) (M_items : Nat → Int32) {sz : Nat → Int32} {el : Nat → Nat → Int32} (hf : 100 < fuel) (ht : txS fuel n d sg sz el M_begins M_ruleLetters M_items) (e2 : M_text = nI n) (e3 : M_row = nI d) :
    ∀ (m w p c : Nat) (M_guests : Int32) (M_kind : Nat → Int32) (M_figure : Nat → Int32) (M_told : Nat → Int32) (M_heaps : Int32) (M_holds : Int32) (M_back : Int32) (M_mistakes : Int32) (M_hooks : Int32) (M_letters : Int32) (M_rule : Nat → Int32) (M_at : Int32) (M_well : Int32) (M_sort : Int32) (M_field : Nat → Int32) (M_fields : Int32) (M_was : Nat → Int32), p ≤ n → n < p + m → m < w → M_at = nI p →
      ∃ we s2 f2 c2 a2, fX10_read_L7 fuel M_text M_row M_begins M_ruleLetters M_items w (nI c) M_guests M_kind M_figure M_told M_heaps M_holds M_back M_mistakes M_hooks M_letters M_rule M_at M_well M_sort M_field M_fields M_was = fX10_read_J32 fuel M_text M_row M_begins M_ruleLetters M_items (nI (tbS sg n m p c).2) M_guests M_kind M_figure M_told M_heaps M_holds M_back M_mistakes M_hooks M_letters M_rule a2 we s2 f2 c2 M_was ∧ (∀ i, (tbS sg n m p c).1 = some i → we = nI 0 ∧ a2 = nI i) ∧ ((tbS sg n m p c).1 = none → we = nI 1) := by
  have ht' := ht
  obtain ⟨t1, t2, t3, t4, t5, t6, t7, t8, t9⟩ := ht
  intro m
  induction m with
  | zero => intro w p c M_guests M_kind M_figure M_told M_heaps M_holds M_back M_mistakes M_hooks M_letters M_rule M_at M_well M_sort M_field M_fields M_was h1 h2; omega
  | succ m ih =>
    intro w p c M_guests M_kind M_figure M_told M_heaps M_holds M_back M_mistakes M_hooks M_letters M_rule M_at M_well M_sort M_field M_fields M_was h1 h2 h3 h4
    obtain ⟨w, rfl⟩ : ∃ k, w = k + 1 := ⟨w - 1, by omega⟩
    obtain ⟨s1, s2⟩ := sX10_statement (p := p) fuel M_at M_well M_sort M_text M_row M_field M_fields M_begins M_ruleLetters M_items hf (by omega) ht' h4 e2 e3
    rw [fX10_read_L7, tbS]
    cases hb : brS sg p with
    | some i =>
      obtain ⟨x1, x2, x3, x4⟩ := s1 i hb
      rw [x4, zbs, zl, show (1 : Int32) = nI 1 from rfl, nI_add]
      dsimp only
      rw [show (0 : Int32) = nI 0 from rfl, if_pos z00]
      exact ⟨_, _, _, _, _, rfl, fun j hj => by cases hj; exact ⟨rfl, rfl⟩, fun h => by cases h⟩
    | none =>
      obtain ⟨k, f2, c2, k1, x4, -⟩ := s2 hb
      obtain ⟨k', q1, q2, q3, q4, q5⟩ := brS_ok hb t4
      rw [k1] at q1
      cases q1
      have hl := lenS_le sg p k
      rw [x4, zbs, zl, show (1 : Int32) = nI 1 from rfl, nI_add, k1]
      dsimp only [Option.getD]
      rw [show (0 : Int32) = nI 0 from rfl, if_neg z10, e2]
      by_cases q : p + lenS sg p k < n
      · rw [if_pos ((nI_ltI (by omega) (by omega)).mpr q), if_pos q]
        rw [← e2]
        exact ih w (p + lenS sg p k) (c + 1) _ _ _ _ _ _ _ _ _ _ _ _ _ _ _ _ _ (by omega) (by omega) (by omega) rfl
      · rw [if_neg (fun h => q ((nI_ltI (by omega) (by omega)).mp h)), if_neg q]
        exact ⟨_, _, _, _, _, rfl, fun j hj => (by cases hj), fun _ => rfl⟩
/-- how many signs ; -/
def cn59 (sg : Nat → Int32) : Nat → Nat → Nat
  | _, 0 => 0
  | i, m + 1 => (if sg i = nI 59 then 1 else 0) + cn59 sg (i + 1) m
theorem cn_add (sg : Nat → Int32) : ∀ (a i b : Nat), cn59 sg i (a + b) = cn59 sg i a + cn59 sg (i + a) b
  | 0, i, b => by simp [cn59]
  | a + 1, i, b => by
    rw [show a + 1 + b = (a + b) + 1 by omega, cn59, cn59, cn_add sg a (i + 1) b, show i + 1 + a = i + (a + 1) by omega]
    omega
theorem cn_zero {sg : Nat → Int32} : ∀ (a i : Nat), (∀ x, x < a → ¬ sg (i + x) = nI 59) → cn59 sg i a = 0
  | 0, _, _ => rfl
  | a + 1, i, h => by
    rw [cn59, if_neg (show ¬ sg i = nI 59 from h 0 (by omega)), cn_zero a (i + 1) (fun x hx => by rw [show i + 1 + x = i + (x + 1) by omega]; exact h (x + 1) (by omega))]
theorem cn_st {sg : Nat → Int32} {p k : Nat} (hk : kdS (sg p) = some k) (hd : dgR sg (p + 1) (dgc k) = none) (h59 : sg (p + lenS sg p k - 1) = nI 59) : cn59 sg p (lenS sg p k) = 1 := by
  have hl := lenS_le sg p k
  obtain ⟨hv, hk5⟩ := kdS_some hk
  have h0 : ¬ sg p = nI 59 := by
    rw [hv]
    rcases (show k = 0 ∨ k = 1 ∨ k = 2 ∨ k = 3 ∨ k = 4 ∨ k = 5 by omega) with rfl | rfl | rfl | rfl | rfl | rfl <;> decide
  have hmid : ∀ x, x < lenS sg p k - 2 → ¬ sg (p + 1 + x) = nI 59 := by
    intro x hx
    by_cases q : k = 5
    · have : lenS sg p k = 2 + ltS sg (p + 1) 6 := by unfold lenS; rw [if_pos q]
      obtain ⟨y, hy⟩ := ltS_let sg 6 (p + 1) x (by omega)
      obtain ⟨h1, h2⟩ := letS_some hy
      rw [h1]
      rcases (show y = 0 ∨ y = 1 ∨ y = 2 ∨ y = 3 ∨ y = 4 ∨ y = 5 by omega) with rfl | rfl | rfl | rfl | rfl | rfl <;> decide
    · have : lenS sg p k = 2 + dgc k := by unfold lenS; rw [if_neg q]
      obtain ⟨t, ht⟩ := dgR_none hd x (by omega)
      obtain ⟨h1, h2⟩ := dig_some ht
      rw [h1]
      intro e
      have := (nI_eq (by omega) (by decide)).mp e
      omega
  rw [show lenS sg p k = 1 + ((lenS sg p k - 2) + 1) by omega, cn_add, cn_add, cn_zero _ (p + 1) hmid, cn59, if_neg h0, cn59, cn59, if_pos (by rw [show p + 1 + (lenS sg p k - 2) = p + lenS sg p k - 1 by omega]; exact h59), cn59]
theorem tbS_cn {sg : Nat → Int32} {n : Nat} (hn : ∀ a, n ≤ a → sg a = zAw) : ∀ (m p c : Nat), p ≤ n → n < p + m → (tbS sg n m p c).1 = none → (tbS sg n m p c).2 = c + cn59 sg p (n - p)
  | 0, p, c, h1, h2, _ => by omega
  | m + 1, p, c, h1, h2, h => by
    rw [tbS] at h ⊢
    cases hb : brS sg p with
    | some i => rw [hb] at h; cases h
    | none =>
      rw [hb] at h
      dsimp only at h ⊢
      obtain ⟨k, k1, k2, k3, k4, k5⟩ := brS_ok hb hn
      have hl := lenS_le sg p k
      have hcn := cn_st k1 k3 k4
      rw [k1] at h ⊢
      dsimp only [Option.getD] at h ⊢
      have hsp : cn59 sg p (n - p) = 1 + cn59 sg (p + lenS sg p k) (n - (p + lenS sg p k)) := by
        rw [show n - p = lenS sg p k + (n - (p + lenS sg p k)) by omega, cn_add, hcn]
      by_cases q : p + lenS sg p k < n
      · rw [if_pos q] at h ⊢
        rw [tbS_cn hn m _ _ k5 (by omega) h, hsp]
        omega
      · rw [if_neg q]
        show c + 1 = _
        rw [hsp, show n - (p + lenS sg p k) = 0 by omega, cn59]
theorem sX6_statementsIn {fuel n d : Nat} {sg sz : Nat → Int32} {el : Nat → Nat → Int32} {be rl it : Nat → Int32} (hf : 100 < fuel) (ht : txS fuel n d sg sz el be rl it) : fX6_statementsIn fuel sz el d = some (nI (cn59 sg 0 n)) := by
  obtain ⟨t1, t2, t3, t4, t5, t6, t7, t8, t9⟩ := ht
  have key : ∀ (m w i c : Nat), i + m = n → m < w → fX6_statementsIn_L4 sz el d w (nI c) (nI i) = some (nI (c + cn59 sg i m)) := by
    intro m
    induction m with
    | zero =>
      intro w i c h1 h2
      obtain ⟨w, rfl⟩ : ∃ k, w = k + 1 := ⟨w - 1, by omega⟩
      rw [fX6_statementsIn_L4, t3, if_pos ((nI_leI (by omega) (by omega)).mpr (by omega))]
      rfl
    | succ m ih =>
      intro w i c h1 h2
      obtain ⟨w, rfl⟩ : ∃ k, w = k + 1 := ⟨w - 1, by omega⟩
      have hs := t5 i (by omega)
      rw [fX6_statementsIn_L4, t3, if_neg (fun h => by have := (nI_leI (by omega) (by omega)).mp h; omega), zin_nI (by omega), zgd' (by omega), nI_clamp (by omega), ← hs, show (59 : Int32) = nI 59 from rfl, cn59]
      unfold fX6_statementsIn_J26
      by_cases q : sg i = nI 59
      · rw [if_pos q, if_pos q, zl, zl, show (1 : Int32) = nI 1 from rfl, nI_add, nI_add, ih w (i + 1) (c + 1) (by omega) (by omega)]
        congr 2
        omega
      · rw [if_neg q, if_neg q, zl, show (1 : Int32) = nI 1 from rfl, nI_add, ih w (i + 1) c (by omega) (by omega)]
        congr 2
        omega
  unfold fX6_statementsIn
  have := key n fuel 0 0 (by omega) (by omega)
  rw [Nat.zero_add] at this
  exact this
