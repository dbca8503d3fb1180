/-! A statement comes: the class's comesTrue, the model's takes. -/
theorem sX6_digitAt {fuel d x t : Nat} {sg sz : Nat → Int32} {el : Nat → Nat → Int32} (hx : x < 2 ^ 31) (hC : ∀ a, a < 2 ^ 31 → fX7_signAt fuel sz el d (nI a) = some (sg a)) (h : dig (sg x) = some t) : fX6_digitAt fuel sz el d (nI x) = some (nI t) := by
  obtain ⟨h1, h2⟩ := dig_some h
  unfold fX6_digitAt
  rw [hC x hx, zbs, h1, show (48 : Int32) = nI 48 from rfl, nI_sub (by omega), show 48 + t - 48 = t by omega]
theorem sX6_settles {fuel w a l m : Nat} {se : Nat → Int32} (hw : w < 4) (ha : a ≤ 9) (hl : zLeast w = nI l) (hm : zMost w = nI m) (hl9 : l ≤ 9) (hm9 : m ≤ 9) : fX6_settles fuel se (nI w) (nI a) = some (if l ≤ a ∧ a ≤ m then (nI 1, upd se w (nI a)) else (nI 0, se)) := by
  unfold fX6_settles
  rw [allows_w hw, hl, hm]
  have e0 : (0 : Int32) = nI 0 := rfl
  have e1 : (1 : Int32) = nI 1 := rfl
  by_cases q1 : l ≤ a
  · rw [if_neg (fun h => by have := (nI_ltI (by omega) (by omega)).mp h; omega)]
    by_cases q2 : a ≤ m
    · rw [if_neg (fun h => by have := (nI_ltI (by omega) (by omega)).mp h; omega), if_pos ⟨q1, q2⟩, zbs, e0, e1, if_neg z10, zin_nI (by omega), zgd' hw, nI_clamp (by omega), zl]
    · rw [if_pos ((nI_ltI (by omega) (by omega)).mpr (by omega)), if_neg (fun h => q2 h.2), zbs, e0, if_pos z00]
  · rw [if_pos ((nI_ltI (by omega) (by omega)).mpr (by omega)), if_neg (fun h => q1 h.1), zbs, e0, if_pos z00]
/-- what both make of a statement -/
def stR2 (r : SR) (o : Int32 × Int32 × (Nat → Int32) × (Nat → Int32) × (Nat → Int32) × (Nat → Int32) × Int32 × (Nat → Int32) × Int32) (q : Int32 × Int32 × (Nat → Int32) × (Nat → Int32) × (Nat → Int32) × Int32 × Int32 × Int32 × Int32 × Int32 × Int32 × (Nat → Int32)) : Prop := (o.1 = nI 0 ∧ q.1 = nI 0) ∨ (o.1 = nI 1 ∧ q.1 = nI 1 ∧ ∃ r', okT r' ∧ cR r' o.2.1 o.2.2.1 o.2.2.2.1 o.2.2.2.2.1 o.2.2.2.2.2.1 o.2.2.2.2.2.2.1 o.2.2.2.2.2.2.2.1 o.2.2.2.2.2.2.2.2 ∧ mR r' q.2.1 q.2.2.1 q.2.2.2.1 q.2.2.2.2.1 q.2.2.2.2.2.1 q.2.2.2.2.2.2.1 q.2.2.2.2.2.2.2.1 q.2.2.2.2.2.2.2.2.1 q.2.2.2.2.2.2.2.2.2.1 q.2.2.2.2.2.2.2.2.2.2.1 q.2.2.2.2.2.2.2.2.2.2.2)
theorem sX10_takes_L242 {c : Nat} (M_field : Nat → Int32) (M_fields : Int32) (hc : c ≤ 6) (he : M_fields = nI c) : ∀ (m w i : Nat) (M_guests : Int32) (M_kind : Nat → Int32) (M_figure : Nat → Int32) (M_told : Nat → Int32) (M_heaps : Int32) (M_holds : Int32) (M_back : Int32) (M_mistakes : Int32) (M_hooks : Int32) (M_letters : Int32) (M_rule : Nat → Int32), i + m = c → m < w → ∃ r2, fX10_takes_L242 M_field M_fields w (nI i) M_guests M_kind M_figure M_told M_heaps M_holds M_back M_mistakes M_hooks M_letters M_rule = some (nI 1, M_guests, M_kind, M_figure, M_told, M_heaps, M_holds, M_back, M_mistakes, M_hooks, M_letters, r2) ∧ ∀ x, r2 x = if i ≤ x ∧ x < c then M_field x else M_rule x := by
  subst he
  intro m
  induction m with
  | zero =>
    intro w i M_guests M_kind M_figure M_told M_heaps M_holds M_back M_mistakes M_hooks M_letters M_rule h1 h2
    obtain ⟨w, rfl⟩ : ∃ k, w = k + 1 := ⟨w - 1, by omega⟩
    rw [fX10_takes_L242, if_pos ((nI_leI (by omega) (by omega)).mpr (by omega))]
    exact ⟨M_rule, rfl, fun x => by rw [if_neg (by omega)]⟩
  | succ m ih =>
    intro w i M_guests M_kind M_figure M_told M_heaps M_holds M_back M_mistakes M_hooks M_letters M_rule h1 h2
    obtain ⟨w, rfl⟩ : ∃ k, w = k + 1 := ⟨w - 1, by omega⟩
    rw [fX10_takes_L242]
    simp (disch := omega) only [zlit, zz, if_pos, if_neg, if_true, if_false, zgd', zl, zbs, zbz, encz]
    obtain ⟨r2, e1, e2⟩ := ih w (i + 1) M_guests M_kind M_figure M_told M_heaps M_holds M_back M_mistakes M_hooks M_letters (upd M_rule i (M_field i)) (by omega) (by omega)
    refine ⟨r2, e1, fun x => ?_⟩
    rw [e2 x]
    unfold upd
    by_cases q : x = i
    · subst q
      rw [if_neg (by omega), if_pos rfl, if_pos (by omega)]
    · by_cases q2 : i + 1 ≤ x ∧ x < c
      · rw [if_pos q2, if_pos (by omega)]
      · rw [if_neg q2, if_neg q, if_neg (by omega)]
theorem u_stmt {r : SR} {n p k c : Nat} {sg f2 : Nat → Int32} (fuel : Nat) (s_size : Nat → Int32) (s_el : Nat → Nat → Int32) (r_guests : Int32) (r_kinds : Nat → Int32) (r_figures : Nat → Int32) (r_minutes : Nat → Int32) (r_settings : Nat → Int32) (r_hooks : Int32) (r_letters : Nat → Int32) (r_letterCount : Int32) (si : Nat) (p1 : Int32) (M_guests : Int32) (M_kind : Nat → Int32) (M_figure : Nat → Int32) (M_told : Nat → Int32) (M_heaps : Int32) (M_holds : Int32) (M_back : Int32) (M_mistakes : Int32) (M_hooks : Int32) (M_letters : Int32) (M_rule : Nat → Int32) {be rl it : Nat → Int32} (hf : 100 < fuel) (hr : okT r) (hc : cR r r_guests r_kinds r_figures r_minutes r_settings r_hooks r_letters r_letterCount) (hm : mR r M_guests M_kind M_figure M_told M_heaps M_holds M_back M_mistakes M_hooks M_letters M_rule) (ht : txS fuel n si sg s_size s_el be rl it) (hp : p1 = nI p) (hp100 : p < 100) (hb : brS sg p = none) (hk : kdS (sg p) = some k) (hfl : fldS sg p k f2 c) :
    ∃ o q, fX6_comesTrue fuel s_size s_el r_guests r_kinds r_figures r_minutes r_settings r_hooks r_letters r_letterCount si p1 = some o ∧ fX10_takes fuel M_guests M_kind M_figure M_told M_heaps M_holds M_back M_mistakes M_hooks M_letters M_rule (nI k) f2 (nI c) = some q ∧ stR2 r o q := by
  have hr1 := hr.1
  have hN := hr1.1
  have ht' := ht
  obtain ⟨t1, t2, t3, t4, t5, t6, t7, t8, t9⟩ := ht
  obtain ⟨c1, c2, c3, c4, c5, c6, c7, c8, c9⟩ := hc
  have hc : cR r r_guests r_kinds r_figures r_minutes r_settings r_hooks r_letters r_letterCount := ⟨c1, c2, c3, c4, c5, c6, c7, c8, c9⟩
  obtain ⟨m1, m2, m3, m4, m5, m6, m7, m8, m9⟩ := hm
  have hm : mR r M_guests M_kind M_figure M_told M_heaps M_holds M_back M_mistakes M_hooks M_letters M_rule := ⟨m1, m2, m3, m4, m5, m6, m7, m8, m9⟩
  obtain ⟨hv, hk5⟩ := kdS_some hk
  subst hp
  have e0 : (0 : Int32) = nI 0 := rfl
  have e1 : (1 : Int32) = nI 1 := rfl
  have e2 : (2 : Int32) = nI 2 := rfl
  have e3 : (3 : Int32) = nI 3 := rfl
  have e4 : (4 : Int32) = nI 4 := rfl
  have e7 : (7 : Int32) = nI 7 := rfl
  have e10 : (10 : Int32) = nI 10 := rfl
  obtain ⟨F0, F1, F2, F5⟩ := hfl
  have hp1 : nI p + nI 1 = nI (p + 1) := nI_add p 1
  have hp2 : nI p + nI 2 = nI (p + 2) := nI_add p 2
  have hp3 : nI p + nI 3 = nI (p + 3) := nI_add p 3
  have hp4 : nI p + nI 4 = nI (p + 4) := nI_add p 4
  have hsg := t6 p (by omega)
  rw [hv] at hsg
  unfold fX6_comesTrue fX10_takes
  rcases (show k = 0 ∨ k = 1 ∨ k = 2 ∨ k = 3 ∨ k = 4 ∨ k = 5 by omega) with rfl | rfl | rfl | rfl | rfl | rfl
  · -- a guest
    obtain ⟨a, b, x, y, d1, d2, d3, d4, f0, f1, f2'⟩ := F0 rfl
    have a9 := (dig_some d1).2
    have b9 := (dig_some d2).2
    have x9 := (dig_some d3).2
    have y9 := (dig_some d4).2
    have D1 := sX6_digitAt (fuel := fuel) (sz := s_size) (el := s_el) (d := si) (x := p + 1) (by omega) t6 d1
    have D2 := sX6_digitAt (fuel := fuel) (sz := s_size) (el := s_el) (d := si) (x := p + 2) (by omega) t6 d2
    have D3 := sX6_digitAt (fuel := fuel) (sz := s_size) (el := s_el) (d := si) (x := p + 3) (by omega) t6 d3
    have D4 := sX6_digitAt (fuel := fuel) (sz := s_size) (el := s_el) (d := si) (x := p + 4) (by omega) t6 d4
    rw [show (nI p + 1 : Int32) = nI (p + 1) from hp1, D1, zbs, hsg, zbs]
    rw [if_neg (show ¬ zBeg 0 = 98 by decide), if_neg (show ¬ zBeg 0 = 99 by decide), if_neg (show ¬ zBeg 0 = 100 by decide), if_neg (show ¬ zBeg 0 = 101 by decide), if_neg (show ¬ zBeg 0 = 102 by decide), if_pos (show zBeg 0 = 103 from rfl), sX1_isKind, zbs]
    rw [e0, if_pos (show nI 0 = nI 0 from rfl), e7, f0, f1, f2']
    by_cases q7 : a ≤ 7
    · rw [decide_eq_true ⟨(nI_leI (by decide) (by omega)).mpr (Nat.zero_le _), (nI_leI (by omega) (by decide)).mpr q7⟩, if_neg (show ¬ zb01 true = nI 0 from z10), if_neg (fun h => by have := (nI_ltI (by decide) (by omega)).mp h; omega)]
      unfold fX6_isWelcome fX5_welcome fX10_guestIs
      rw [show (nI p + 3 : Int32) = nI (p + 3) from hp3, D3, zbs, show (nI p + 4 : Int32) = nI (p + 4) from hp4, D4, zbs, zl, show (nI p + 1 : Int32) = nI (p + 1) from hp1, D1, zbs, show (nI p + 2 : Int32) = nI (p + 2) from hp2, D2, zbs, e10, pk_mul, nI_add, c1, m1]
      by_cases q10 : rN r < 10
      · have hm2 : ¬ nI (rN r) = -2 := by
          intro h
          have h2 := congrArg Int32.toInt h
          rw [nI_toInt (by omega)] at h2
          have h3 : (-2 : Int32).toInt = -2 := rfl
          omega
        rw [if_pos ((nI_ltI (by omega) (by decide)).mpr q10), if_neg (fun h => by have := (nI_eq (by omega) (by decide)).mp h; omega), zin_nI (by omega), zgd' q10, zgd' q10, nI_clamp (by omega), zl, zl, zl, zl, zl, zl, zl, zl, e1, nI_add, nI_sub (by omega), Nat.add_sub_cancel, zbs]
        dsimp only
        rw [if_neg hm2, zbs, zbs]
        dsimp only
        rw [if_neg z10]
        exact ⟨_, _, rfl, rfl, Or.inr ⟨rfl, rfl, rCome r a b (10 * x + y), ok_come hr q10 q7 b9 (by omega), ⟨rfl, kfm_come q7 b9 (by omega) c2, c3, c4, c5, c6, c7, c8, c9⟩, ⟨rfl, kfm_come q7 b9 (by omega) m2, m3, m4, m5, m6, m7, m8, m9⟩⟩⟩
      · rw [if_neg (fun h => q10 ((nI_ltI (by omega) (by decide)).mp h)), if_pos (by rw [show rN r = 10 by omega]), zbs]
        dsimp only
        rw [if_pos rfl, zbs]
        dsimp only
        rw [e0, if_pos z00]
        exact ⟨_, _, rfl, rfl, Or.inl ⟨rfl, rfl⟩⟩
    · rw [decide_eq_false (fun h => q7 ((nI_leI (by omega) (by decide)).mp h.2)), if_pos (show zb01 false = nI 0 from rfl), if_pos ((nI_ltI (by decide) (by omega)).mpr (by omega))]
      exact ⟨_, _, rfl, rfl, Or.inl ⟨rfl, rfl⟩⟩
  · -- heaps
    obtain ⟨a, b, d1, d2, f0, f1⟩ := F1 rfl
    have a9 := (dig_some d1).2
    have b9 := (dig_some d2).2
    have D1 := sX6_digitAt (fuel := fuel) (sz := s_size) (el := s_el) (d := si) (x := p + 1) (by omega) t6 d1
    have D2 := sX6_digitAt (fuel := fuel) (sz := s_size) (el := s_el) (d := si) (x := p + 2) (by omega) t6 d2
    rw [show (nI p + 1 : Int32) = nI (p + 1) from hp1, D1, zbs, hsg, zbs]
    rw [if_neg (show ¬ zBeg 1 = 98 by decide), if_neg (show ¬ zBeg 1 = 99 by decide), if_neg (show ¬ zBeg 1 = 100 by decide), if_neg (show ¬ zBeg 1 = 101 by decide), if_neg (show ¬ zBeg 1 = 102 by decide), if_neg (show ¬ zBeg 1 = 103 by decide), if_pos (show zBeg 1 = 104 from rfl)]
    rw [e0, sX6_settles (w := 0) (l := 1) (m := 3) (by omega) a9 rfl rfl (by omega) (by omega), zbs, show (nI p + 2 : Int32) = nI (p + 2) from hp2, D2]
    rw [if_neg (show ¬ nI 1 = nI 0 from z10), e1, if_pos (show nI 1 = nI 1 from rfl), zl, zl, f0, f1, sX10_isIn, zbs, e3]
    by_cases qa : 1 ≤ a ∧ a ≤ 3
    · rw [if_pos qa, decide_eq_true ⟨(nI_leI (by decide) (by omega)).mpr qa.1, (nI_leI (by omega) (by decide)).mpr qa.2⟩, zbs, if_neg (show ¬ zb01 true = nI 0 from z10)]
      dsimp only
      rw [if_neg z10, sX6_settles (w := 1) (l := 1) (m := 9) (by omega) b9 rfl rfl (by omega) (by omega), zbs]
      by_cases qb : 1 ≤ b
      · rw [if_pos (show 1 ≤ b ∧ b ≤ 9 from ⟨qb, b9⟩), if_neg (show ¬ nI b ≤ nI 0 from fun h => by have := (nI_leI (by omega) (by decide)).mp h; omega)]
        dsimp only
        rw [if_neg z10]
        exact ⟨_, _, rfl, rfl, Or.inr ⟨rfl, rfl, rSet1 (rSet0 r a) b, ok_set1 (ok_set0 hr qa.1 qa.2) qb b9, ⟨c1, c2, rfl, rfl, c5, c6, c7, c8, c9⟩, ⟨m1, m2, rfl, rfl, m5, m6, m7, m8, m9⟩⟩⟩
      · rw [if_neg (show ¬ (1 ≤ b ∧ b ≤ 9) from fun h => qb h.1), if_pos (show nI b ≤ nI 0 from (nI_leI (by omega) (by decide)).mpr (by omega))]
        dsimp only
        rw [if_pos z00]
        exact ⟨_, _, rfl, rfl, Or.inl ⟨rfl, rfl⟩⟩
    · rw [if_neg qa, decide_eq_false (fun h => qa ⟨(nI_leI (by decide) (by omega)).mp h.1, (nI_leI (by omega) (by decide)).mp h.2⟩), zbs, if_pos (show zb01 false = nI 0 from rfl)]
      dsimp only
      rw [if_pos z00]
      exact ⟨_, _, rfl, rfl, Or.inl ⟨rfl, rfl⟩⟩
  · -- back
    obtain ⟨a, d1, f0⟩ := F2 ⟨by omega, by omega⟩
    have a9 := (dig_some d1).2
    have D1 := sX6_digitAt (fuel := fuel) (sz := s_size) (el := s_el) (d := si) (x := p + 1) (by omega) t6 d1
    rw [show (nI p + 1 : Int32) = nI (p + 1) from hp1, D1, zbs, hsg, zbs]
    rw [if_pos (show zBeg 2 = 98 from rfl), e2, sX6_settles (w := 2) (l := 0) (m := 2) (by omega) a9 rfl rfl (by omega) (by omega), zbs]
    rw [e0, e1, if_neg (show ¬ nI 2 = nI 0 by decide), if_neg (show ¬ nI 2 = nI 1 by decide), if_pos (show nI 2 = nI 2 from rfl), zl, f0, e3]
    by_cases qa : a ≤ 2
    · rw [if_pos ⟨Nat.zero_le _, qa⟩, if_neg (fun h => by have := (nI_leI (by decide) (by omega)).mp h; omega)]
      dsimp only
      rw [zgd' (Or.inr rfl)]
      exact ⟨_, _, rfl, rfl, Or.inr ⟨rfl, rfl, rSet2 r a, ok_set2 hr (Nat.zero_le _) qa, ⟨c1, c2, c3, c4, rfl, c6, c7, c8, c9⟩, ⟨m1, m2, m3, m4, rfl, m6, m7, m8, m9⟩⟩⟩
    · rw [if_neg (fun h => qa h.2), if_pos ((nI_leI (by decide) (by omega)).mpr (by omega))]
      dsimp only
      rw [zgd' (Or.inl rfl)]
      exact ⟨_, _, rfl, rfl, Or.inl ⟨rfl, rfl⟩⟩
  · -- mistakes
    obtain ⟨a, d1, f0⟩ := F2 ⟨by omega, by omega⟩
    have a9 := (dig_some d1).2
    have D1 := sX6_digitAt (fuel := fuel) (sz := s_size) (el := s_el) (d := si) (x := p + 1) (by omega) t6 d1
    rw [show (nI p + 1 : Int32) = nI (p + 1) from hp1, D1, zbs, hsg, zbs]
    rw [if_neg (show ¬ zBeg 3 = 98 by decide), if_neg (show ¬ zBeg 3 = 99 by decide), if_neg (show ¬ zBeg 3 = 100 by decide), if_neg (show ¬ zBeg 3 = 101 by decide), if_neg (show ¬ zBeg 3 = 102 by decide), if_neg (show ¬ zBeg 3 = 103 by decide), if_neg (show ¬ zBeg 3 = 104 by decide), if_neg (show ¬ zBeg 3 = 105 by decide), if_neg (show ¬ zBeg 3 = 106 by decide), if_neg (show ¬ zBeg 3 = 107 by decide), if_neg (show ¬ zBeg 3 = 108 by decide), if_pos (show zBeg 3 = 109 from rfl), e3, sX6_settles (w := 3) (l := 0) (m := 1) (by omega) a9 rfl rfl (by omega) (by omega), zbs]
    rw [e0, e1, e2, if_neg (show ¬ nI 3 = nI 0 by decide), if_neg (show ¬ nI 3 = nI 1 by decide), if_neg (show ¬ nI 3 = nI 2 by decide), if_pos (show nI 3 = nI 3 from rfl), zl, f0]
    by_cases qa : a ≤ 1
    · rw [if_pos ⟨Nat.zero_le _, qa⟩, if_neg (fun h => by have := (nI_leI (by decide) (by omega)).mp h; omega)]
      dsimp only
      rw [zgd' (Or.inr rfl)]
      exact ⟨_, _, rfl, rfl, Or.inr ⟨rfl, rfl, rSet3 r a, ok_set3 hr (Nat.zero_le _) qa, ⟨c1, c2, c3, c4, c5, rfl, c7, c8, c9⟩, ⟨m1, m2, m3, m4, m5, rfl, m7, m8, m9⟩⟩⟩
    · rw [if_neg (fun h => qa h.2), if_pos ((nI_leI (by decide) (by omega)).mpr (by omega))]
      dsimp only
      rw [zgd' (Or.inl rfl)]
      exact ⟨_, _, rfl, rfl, Or.inl ⟨rfl, rfl⟩⟩
  · -- a hook
    obtain ⟨a, d1, f0⟩ := F2 ⟨by omega, by omega⟩
    have a9 := (dig_some d1).2
    have D1 := sX6_digitAt (fuel := fuel) (sz := s_size) (el := s_el) (d := si) (x := p + 1) (by omega) t6 d1
    rw [show (nI p + 1 : Int32) = nI (p + 1) from hp1, D1, zbs, hsg, zbs]
    rw [if_neg (show ¬ zBeg 4 = 98 by decide), if_neg (show ¬ zBeg 4 = 99 by decide), if_neg (show ¬ zBeg 4 = 100 by decide), if_neg (show ¬ zBeg 4 = 101 by decide), if_neg (show ¬ zBeg 4 = 102 by decide), if_neg (show ¬ zBeg 4 = 103 by decide), if_neg (show ¬ zBeg 4 = 104 by decide), if_neg (show ¬ zBeg 4 = 105 by decide), if_neg (show ¬ zBeg 4 = 106 by decide), if_pos (show zBeg 4 = 107 from rfl)]
    rw [e0, e1, e2, e3, e4, if_neg (show ¬ nI 4 = nI 0 by decide), if_neg (show ¬ nI 4 = nI 1 by decide), if_neg (show ¬ nI 4 = nI 2 by decide), if_neg (show ¬ nI 4 = nI 3 by decide), if_pos (show nI 4 = nI 4 from rfl), f0]
    rcases gcase (fuel := fuel) hN (nI a) with ⟨g, hg, hga, a1, a2⟩ | ⟨a1, a2⟩
    · have hag : a = g := (nI_eq (by omega) (by omega)).mp hga
      subst hag
      rw [← c1] at a1
      rw [← m1] at a2
      rw [a1, a2, zbs, zbs, if_neg z10, if_neg z10, c7, m7]
      have hhk := okT_hk hr
      have hpw := pow_le hN
      have hlt := xor_lt hr hg
      have hx := zxor a (by omega) (rHk r) hhk
      have h3 := hr.2.2.2
      have hJ : ∃ v, fX5_toggleHook_J22 fuel (nI a) (nI (rHk r)) = some (v, nI (rHk r ^^^ 2 ^ a)) ∧ ¬ v = -2 := by
        unfold fX5_toggleHook_J22
        rw [hx, zl, sX5_hasHook (by omega) (by omega), zbs]
        cases hangS (rHk r ^^^ 2 ^ a) a with
        | false => exact ⟨0, rfl, by decide⟩
        | true => exact ⟨1, rfl, by decide⟩
      obtain ⟨v, v1, v2⟩ := hJ
      have hT : ∃ q, fX10_takes_J219 fuel f2 M_guests M_kind M_figure M_told M_heaps M_holds M_back M_mistakes (nI (rHk r)) M_letters M_rule = some q ∧ q.1 = nI 1 ∧ (okT (rHook r a) → mR (rHook r a) q.2.1 q.2.2.1 q.2.2.2.1 q.2.2.2.2.1 q.2.2.2.2.2.1 q.2.2.2.2.2.2.1 q.2.2.2.2.2.2.2.1 q.2.2.2.2.2.2.2.2.1 q.2.2.2.2.2.2.2.2.2.1 q.2.2.2.2.2.2.2.2.2.2.1 q.2.2.2.2.2.2.2.2.2.2.2) := by
        unfold fX10_takes_J219 fX10_turnHook
        rw [f0, hx, zl, zbs]
        exact ⟨_, rfl, rfl, fun _ => ⟨m1, m2, m3, m4, m5, m6, rfl, m8, m9⟩⟩
      obtain ⟨q, t1', t2', t3'⟩ := hT
      unfold fX5_toggleHook
      rw [sX5_hasHook (by omega) (by omega), sX10_hangs (by omega) (by omega), zbs, zbs, e0]
      have done : (hangS (rHk r) a = false → popS (rHk r) < 3) → ∃ o q', ((fX5_toggleHook_J22 fuel (nI a) (nI (rHk r))).bind fun o_26 => if o_26.1 = -2 then some (nI 0, r_guests, r_kinds, r_figures, r_minutes, r_settings, o_26.2, r_letters, r_letterCount) else some (nI 1, r_guests, r_kinds, r_figures, r_minutes, r_settings, o_26.2, r_letters, r_letterCount)) = some o ∧ fX10_takes_J219 fuel f2 M_guests M_kind M_figure M_told M_heaps M_holds M_back M_mistakes (nI (rHk r)) M_letters M_rule = some q' ∧ stR2 r o q' := by
        intro h
        rw [v1, zbs, if_neg v2, t1']
        exact ⟨_, q, rfl, rfl, Or.inr ⟨rfl, t2', rHook r a, ok_hook hr hg h, ⟨c1, c2, c3, c4, c5, c6, rfl, c8, c9⟩, t3' (ok_hook hr hg h)⟩⟩
      cases qh : hangS (rHk r) a with
      | true =>
        rw [if_neg (show ¬ zb01 true = nI 0 from z10), if_neg (show ¬ zb01 true = nI 0 from z10)]
        exact done (fun h => by rw [qh] at h; cases h)
      | false =>
        rw [if_pos (show zb01 false = nI 0 from rfl), if_pos (show zb01 false = nI 0 from rfl), sJ6_bitCount hhk, sX10_bits hf (by omega), zbs, zbs, e3]
        by_cases q3 : popS (rHk r) < 3
        · rw [if_pos ((nI_ltI (by omega) (by decide)).mpr q3), if_neg (fun h => by have := (nI_eq (by omega) (by decide)).mp h; omega)]
          exact done (fun _ => q3)
        · rw [if_neg (fun h => q3 ((nI_ltI (by omega) (by decide)).mp h)), if_pos (by rw [show popS (rHk r) = 3 by omega]), zbs, if_pos (show ((-2 : Int32), nI (rHk r)).1 = -nI 2 from rfl)]
          exact ⟨_, _, rfl, rfl, Or.inl ⟨rfl, rfl⟩⟩
    · rw [← c1] at a1
      rw [← m1] at a2
      rw [a1, a2, zbs, zbs, if_pos z00, if_pos z00]
      exact ⟨_, _, rfl, rfl, Or.inl ⟨rfl, rfl⟩⟩
  · -- the rule
    obtain ⟨hcl, F5'⟩ := F5 rfl
    have hl6 := ltS_le sg 6 (p + 1)
    have hDx : fX6_digitAt fuel s_size s_el si (nI (p + 1)) = some (sg (p + 1) - 48) := by unfold fX6_digitAt; rw [t6 (p + 1) (by omega), zbs]
    rw [show (nI p + 1 : Int32) = nI (p + 1) from hp1, hDx, zbs, hsg, zbs]
    rw [if_neg (show ¬ zBeg 5 = 98 by decide), if_neg (show ¬ zBeg 5 = 99 by decide), if_neg (show ¬ zBeg 5 = 100 by decide), if_neg (show ¬ zBeg 5 = 101 by decide), if_neg (show ¬ zBeg 5 = 102 by decide), if_neg (show ¬ zBeg 5 = 103 by decide), if_neg (show ¬ zBeg 5 = 104 by decide), if_neg (show ¬ zBeg 5 = 105 by decide), if_neg (show ¬ zBeg 5 = 106 by decide), if_neg (show ¬ zBeg 5 = 107 by decide), if_neg (show ¬ zBeg 5 = 108 by decide), if_neg (show ¬ zBeg 5 = 109 by decide)]
    rw [e0, e1, e2, e3, e4, if_neg (show ¬ nI 5 = nI 0 by decide), if_neg (show ¬ nI 5 = nI 1 by decide), if_neg (show ¬ nI 5 = nI 2 by decide), if_neg (show ¬ nI 5 = nI 3 by decide), if_neg (show ¬ nI 5 = nI 4 by decide)]
    unfold fX6_comesTrue_J166 fX5_takeLetters
    rw [sX6_lettersBehind (n := n) hf (by omega) t6, zbs, ← hcl, show (6 : Int32) = nI 6 from rfl, nI_zmin (by omega) (by decide), Nat.min_eq_left (by omega), zl, show (nI p + 1 : Int32) = nI (p + 1) from hp1, e0]
    obtain ⟨l2, y1, y2⟩ := sX5_takeLetters_L13 (fuel := fuel) (el := s_el) (fr := p + 1) t3 t2 (by omega) c (by omega) c fuel 0 r_letters (by omega) (by omega)
    obtain ⟨r2, z1, z2⟩ := sX10_takes_L242 (c := c) f2 (nI c) (by omega) rfl c fuel 0 M_guests M_kind M_figure M_told M_heaps M_holds M_back M_mistakes M_hooks (nI c) M_rule (by omega) (by omega)
    rw [y1, zbs, z1]
    have hlet : ∀ x, x < c → ∃ w, letS (sg (p + 1 + x)) = some w ∧ f2 x = nI w := F5'
    have hin : ∀ x, x < c → p + 1 + x < n := fun x hx => by
      obtain ⟨w, w1, -⟩ := hlet x hx
      by_cases q : p + 1 + x < n
      · exact q
      · rw [t4 (p + 1 + x) (by omega), letS_aw] at w1; cases w1
    refine ⟨_, _, rfl, rfl, Or.inr ⟨rfl, rfl, rRule r ((List.range c).map fun j => (letS (sg (p + 1 + j))).getD 0), ⟨ok_rule hr.1 (by simp; omega) (fun x hx => ?_), hr.2⟩, ⟨c1, c2, c3, c4, c5, c6, c7, fun j x hx => ?_, by show nI c = nI _; simp [rL, rRule]⟩, ⟨m1, m2, m3, m4, m5, m6, m7, by show nI c = nI _; simp [rL, rRule], fun j x hx => ?_⟩⟩⟩
    · obtain ⟨j, j1, j2⟩ := List.mem_map.mp hx
      obtain ⟨w, w1, -⟩ := hlet j (List.mem_range.mp j1)
      rw [w1] at j2
      have := (letS_some w1).2
      have e : w = x := j2
      omega
    · have hx' : ((List.range c).map fun j => (letS (sg (p + 1 + j))).getD 0)[j]? = some x := hx
      have hj : j < c := by have := (List.getElem?_eq_some_iff.mp hx').1; simpa using this
      rw [List.getElem?_map, List.getElem?_range hj] at hx'
      obtain ⟨w, w1, -⟩ := hlet j hj
      have e : w = x := by simpa [w1] using hx'
      subst e
      show l2 j = zLet w ∧ w ≤ 5
      have hi := hin j hj
      rw [y2 j, if_pos ⟨Nat.zero_le _, hj⟩, if_neg (by omega), ← t5 _ hi]
      exact letS_some w1
    · have hx' : ((List.range c).map fun j => (letS (sg (p + 1 + j))).getD 0)[j]? = some x := hx
      have hj : j < c := by have := (List.getElem?_eq_some_iff.mp hx').1; simpa using this
      rw [List.getElem?_map, List.getElem?_range hj] at hx'
      obtain ⟨w, w1, w2⟩ := hlet j hj
      have e : w = x := by simpa [w1] using hx'
      subst e
      show r2 j = nI w ∧ w ≤ 5
      rw [z2 j, if_pos ⟨Nat.zero_le _, hj⟩]
      exact ⟨w2, (letS_some w1).2⟩
