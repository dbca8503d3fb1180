/-! The calls: image, restore. -/
/-- a row holds a room -/
def mK (r : SR) (th : Nat → Int32) : Prop := mR r (th 0) (fun i => th (20 + i)) (fun i => th (30 + i)) (fun i => th (40 + i)) (th 1) (th 2) (th 3) (th 4) (th 5) (th 6) (fun i => th (8 + i))
theorem sX10_keepAll_then_L78 {ki fi to : Nat → Int32} : ∀ (m n i : Nat) (th : Nat → Int32), i + m = 10 → m < n → ∃ t2, fX10_keepAll_then_L78 ki fi to n (nI i) th = some t2 ∧ ∀ x, t2 x = if 20 + i ≤ x ∧ x < 30 then ki (x - 20) else if 30 + i ≤ x ∧ x < 40 then fi (x - 30) else if 40 + i ≤ x ∧ x < 50 then to (x - 40) else th x := by
  intro m
  induction m with
  | zero =>
    intro n i th h1 h2
    obtain ⟨n, rfl⟩ : ∃ k, n = k + 1 := ⟨n - 1, by omega⟩
    rw [fX10_keepAll_then_L78]
    refine ⟨th, ?_, fun x => ?_⟩
    · simp (disch := omega) only [zlit, zz, if_pos, if_neg, if_true, if_false, zgd', zl, zbs, zbz, encz]
    · rw [if_neg (by omega), if_neg (by omega), if_neg (by omega)]
  | succ m ih =>
    intro n i th h1 h2
    obtain ⟨n, rfl⟩ : ∃ k, n = k + 1 := ⟨n - 1, by omega⟩
    rw [fX10_keepAll_then_L78]
    obtain ⟨t2, f1, f2⟩ := ih n (i + 1) (upd (upd (upd th (20 + i) (ki i)) (30 + i) (fi i)) (40 + i) (to i)) (by omega) (by omega)
    have e20 : (20 : Int32) = nI 20 := rfl
    have e30 : (30 : Int32) = nI 30 := rfl
    have e40 : (40 : Int32) = nI 40 := rfl
    refine ⟨t2, ?_, fun x => ?_⟩
    · rw [← f1]
      simp (disch := omega) only [zlit, zz, if_pos, if_neg, if_true, if_false, zgd', zl, zbs, zbz, encz, e30, e40]
    · rw [f2 x]
      simp only [upd]
      repeat' split
      all_goals first | rfl | omega | (congr 1; omega)
theorem sX10_keepAll_then_L52 {fuel : Nat} {ki fi to ru : Nat → Int32} : ∀ (m n i : Nat) (th : Nat → Int32), i + m = 6 → m < n → ∃ t2, fX10_keepAll_then_L52 fuel ki fi to ru n (nI i) th = fX10_keepAll_then_J76 fuel ki fi to t2 ∧ ∀ x, t2 x = if 8 + i ≤ x ∧ x < 14 then ru (x - 8) else th x := by
  intro m
  induction m with
  | zero =>
    intro n i th h1 h2
    obtain ⟨n, rfl⟩ : ∃ k, n = k + 1 := ⟨n - 1, by omega⟩
    rw [fX10_keepAll_then_L52]
    refine ⟨th, ?_, fun x => ?_⟩
    · simp (disch := omega) only [zlit, zz, if_pos, if_neg, if_true, if_false, zgd', zl, zbs, zbz, encz]
    · rw [if_neg (by omega)]
  | succ m ih =>
    intro n i th h1 h2
    obtain ⟨n, rfl⟩ : ∃ k, n = k + 1 := ⟨n - 1, by omega⟩
    rw [fX10_keepAll_then_L52]
    obtain ⟨t2, f1, f2⟩ := ih n (i + 1) (upd th (8 + i) (ru i)) (by omega) (by omega)
    refine ⟨t2, ?_, fun x => ?_⟩
    · rw [← f1]
      simp (disch := omega) only [zlit, zz, if_pos, if_neg, if_true, if_false, zgd', zl, zbs, zbz, encz]
    · rw [f2 x]
      simp only [upd]
      repeat' split
      all_goals first | rfl | omega | (congr 1; omega)
theorem sX10_keepAll_then {r : SR} (fuel : Nat) (M_guests : Int32) (M_kind : Nat → Int32) (M_figure : Nat → Int32) (M_told : Nat → Int32) (M_heaps : Int32) (M_holds : Int32) (M_back : Int32) (M_mistakes : Int32) (M_hooks : Int32) (M_letters : Int32) (M_rule : Nat → Int32) (M_then : Nat → Int32) (hf : 100 < fuel) (hr : okR r) (hm : mR r M_guests M_kind M_figure M_told M_heaps M_holds M_back M_mistakes M_hooks M_letters M_rule) : ∃ t2, fX10_keepAll_then fuel M_guests M_kind M_figure M_told M_heaps M_holds M_back M_mistakes M_hooks M_letters M_rule M_then = some t2 ∧ mK r t2 := by
  have hN := hr.1
  have hL := hr.2.2.2.2.2.2.2.2.2.1
  obtain ⟨a1, a2, a3, a4, a5, a6, a7, a8, a9⟩ := hm
  unfold fX10_keepAll_then
  rw [zl, zl, zl, zl, zl, zl, zl]
  obtain ⟨t1, f1, f2⟩ := sX10_keepAll_then_L52 (fuel := fuel) (ki := M_kind) (fi := M_figure) (to := M_told) (ru := M_rule) 6 fuel 0 (upd (upd (upd (upd (upd (upd (upd M_then 0 M_guests) 1 M_heaps) 2 M_holds) 3 M_back) 4 M_mistakes) 5 M_hooks) 6 M_letters) (by omega) (by omega)
  have e0 : (0 : Int32) = nI 0 := rfl
  rw [e0, f1]
  unfold fX10_keepAll_then_J76
  obtain ⟨t2, g1, g2⟩ := sX10_keepAll_then_L78 (ki := M_kind) (fi := M_figure) (to := M_told) 10 fuel 0 t1 (by omega) (by omega)
  rw [e0, g1]
  have hlow : ∀ x, x < 8 → t2 x = upd (upd (upd (upd (upd (upd (upd M_then 0 M_guests) 1 M_heaps) 2 M_holds) 3 M_back) 4 M_mistakes) 5 M_hooks) 6 M_letters x := fun x hx => by
    rw [g2 x, if_neg (by omega), if_neg (by omega), if_neg (by omega), f2 x, if_neg (by omega)]
  refine ⟨t2, rfl, ?_, fun i hi => ?_, ?_, ?_, ?_, ?_, ?_, ?_, fun i x hx => ?_⟩
  · rw [hlow 0 (by omega)]; exact a1
  · show t2 (20 + i) = _ ∧ _ ∧ t2 (30 + i) = _ ∧ _ ∧ t2 (40 + i) = _ ∧ _
    rw [g2, g2, g2, if_pos (by omega), if_neg (by omega), if_pos (by omega), if_neg (by omega), if_neg (by omega), if_pos (by omega)]
    have := a2 i hi
    rw [show 20 + i - 20 = i by omega, show 30 + i - 30 = i by omega, show 40 + i - 40 = i by omega]
    exact this
  · rw [hlow 1 (by omega)]; exact a3
  · rw [hlow 2 (by omega)]; exact a4
  · rw [hlow 3 (by omega)]; exact a5
  · rw [hlow 4 (by omega)]; exact a6
  · rw [hlow 5 (by omega)]; exact a7
  · rw [hlow 6 (by omega)]; exact a8
  · have hlt := (List.getElem?_eq_some_iff.mp hx).1
    show t2 (8 + i) = _ ∧ _
    rw [g2, if_neg (by omega), if_neg (by omega), if_neg (by omega), f2, if_pos (by omega), show 8 + i - 8 = i by omega]
    exact a9 i x hx
theorem sX10_backTo_then_L78 {th : Nat → Int32} (gu hp ho ba mi hk lc : Int32) (ru : Nat → Int32) : ∀ (m n i : Nat) (ki fi to : Nat → Int32), i + m = 10 → m < n → ∃ o, fX10_backTo_then_L78 th n (nI i) gu ki fi to hp ho ba mi hk lc ru = some o ∧ o.1 = gu ∧ (∀ x, (o.2.1 x = if i ≤ x ∧ x < 10 then th (20 + x) else ki x) ∧ (o.2.2.1 x = if i ≤ x ∧ x < 10 then th (30 + x) else fi x) ∧ (o.2.2.2.1 x = if i ≤ x ∧ x < 10 then th (40 + x) else to x)) ∧ o.2.2.2.2 = (hp, ho, ba, mi, hk, lc, ru) := by
  intro m
  induction m with
  | zero =>
    intro n i ki fi to h1 h2
    obtain ⟨n, rfl⟩ : ∃ k, n = k + 1 := ⟨n - 1, by omega⟩
    rw [fX10_backTo_then_L78]
    refine ⟨(gu, ki, fi, to, hp, ho, ba, mi, hk, lc, ru), ?_, rfl, fun x => ?_, rfl⟩
    · simp (disch := omega) only [zlit, zz, if_pos, if_neg, if_true, if_false, zgd', zl, zbs, zbz, encz]
    · rw [if_neg (by omega), if_neg (by omega), if_neg (by omega)]; exact ⟨rfl, rfl, rfl⟩
  | succ m ih =>
    intro n i ki fi to h1 h2
    obtain ⟨n, rfl⟩ : ∃ k, n = k + 1 := ⟨n - 1, by omega⟩
    rw [fX10_backTo_then_L78]
    have e30 : (30 : Int32) = nI 30 := rfl
    have e40 : (40 : Int32) = nI 40 := rfl
    obtain ⟨o, f1, f2, f3, f4⟩ := ih n (i + 1) (upd ki i (th (20 + i))) (upd fi i (th (30 + i))) (upd to i (th (40 + i))) (by omega) (by omega)
    refine ⟨o, ?_, f2, fun x => ?_, f4⟩
    · rw [← f1]
      simp (disch := omega) only [zlit, zz, if_pos, if_neg, if_true, if_false, zgd', zl, zbs, zbz, encz, e30, e40]
    · obtain ⟨x1, x2, x3⟩ := f3 x
      rw [x1, x2, x3]
      simp only [upd]
      refine ⟨?_, ?_, ?_⟩
      all_goals
        repeat' split
        all_goals first | rfl | omega | (congr 1; omega)
theorem sX10_backTo_then_L52 {fuel : Nat} {th : Nat → Int32} (gu : Int32) (ki fi to : Nat → Int32) (hp ho ba mi hk lc : Int32) : ∀ (m n i : Nat) (ru : Nat → Int32), i + m = 6 → m < n → ∃ r2, fX10_backTo_then_L52 fuel th n (nI i) gu ki fi to hp ho ba mi hk lc ru = fX10_backTo_then_J76 fuel th gu ki fi to hp ho ba mi hk lc r2 ∧ ∀ x, r2 x = if i ≤ x ∧ x < 6 then th (8 + x) else ru x := by
  intro m
  induction m with
  | zero =>
    intro n i ru h1 h2
    obtain ⟨n, rfl⟩ : ∃ k, n = k + 1 := ⟨n - 1, by omega⟩
    rw [fX10_backTo_then_L52]
    refine ⟨ru, ?_, fun x => ?_⟩
    · simp (disch := omega) only [zlit, zz, if_pos, if_neg, if_true, if_false, zgd', zl, zbs, zbz, encz]
    · rw [if_neg (by omega)]
  | succ m ih =>
    intro n i ru h1 h2
    obtain ⟨n, rfl⟩ : ∃ k, n = k + 1 := ⟨n - 1, by omega⟩
    rw [fX10_backTo_then_L52]
    obtain ⟨r2, f1, f2⟩ := ih n (i + 1) (upd ru i (th (8 + i))) (by omega) (by omega)
    refine ⟨r2, ?_, fun x => ?_⟩
    · rw [← f1]
      simp (disch := omega) only [zlit, zz, if_pos, if_neg, if_true, if_false, zgd', zl, zbs, zbz, encz]
    · rw [f2 x]
      simp only [upd]
      repeat' split
      all_goals first | rfl | omega | (congr 1; omega)
theorem sX10_backTo_then {r : SR} (fuel : Nat) (M_guests : Int32) (M_kind : Nat → Int32) (M_figure : Nat → Int32) (M_told : Nat → Int32) (M_heaps : Int32) (M_holds : Int32) (M_back : Int32) (M_mistakes : Int32) (M_hooks : Int32) (M_letters : Int32) (M_rule : Nat → Int32) (M_then : Nat → Int32) (hf : 100 < fuel) (hr : okR r) (hm : mK r M_then) : ∃ o, fX10_backTo_then fuel M_guests M_kind M_figure M_told M_heaps M_holds M_back M_mistakes M_hooks M_letters M_rule M_then = some o ∧ mR r o.1 o.2.1 o.2.2.1 o.2.2.2.1 o.2.2.2.2.1 o.2.2.2.2.2.1 o.2.2.2.2.2.2.1 o.2.2.2.2.2.2.2.1 o.2.2.2.2.2.2.2.2.1 o.2.2.2.2.2.2.2.2.2.1 o.2.2.2.2.2.2.2.2.2.2 := by
  have hN := hr.1
  have hL := hr.2.2.2.2.2.2.2.2.2.1
  obtain ⟨a1, a2, a3, a4, a5, a6, a7, a8, a9⟩ := hm
  unfold fX10_backTo_then
  rw [zl, zl, zl, zl, zl, zl, zl]
  have e0 : (0 : Int32) = nI 0 := rfl
  obtain ⟨r2, f1, f2⟩ := sX10_backTo_then_L52 (fuel := fuel) (th := M_then) (M_then 0) M_kind M_figure M_told (M_then 1) (M_then 2) (M_then 3) (M_then 4) (M_then 5) (M_then 6) 6 fuel 0 M_rule (by omega) (by omega)
  rw [e0, f1]
  unfold fX10_backTo_then_J76
  obtain ⟨o, g1, g2, g3, g4⟩ := sX10_backTo_then_L78 (th := M_then) (M_then 0) (M_then 1) (M_then 2) (M_then 3) (M_then 4) (M_then 5) (M_then 6) r2 10 fuel 0 M_kind M_figure M_told (by omega) (by omega)
  rw [e0, g1]
  refine ⟨o, rfl, by rw [g2]; exact a1, fun i hi => ?_, by rw [g4]; exact a3, by rw [g4]; exact a4, by rw [g4]; exact a5, by rw [g4]; exact a6, by rw [g4]; exact a7, by rw [g4]; exact a8, fun i x hx => ?_⟩
  · obtain ⟨x1, x2, x3⟩ := g3 i
    rw [x1, x2, x3, if_pos (by omega), if_pos (by omega), if_pos (by omega)]
    exact a2 i hi
  · have hlt := (List.getElem?_eq_some_iff.mp hx).1
    rw [g4]
    show r2 i = _ ∧ _
    rw [f2, if_pos (by omega)]
    exact a9 i x hx
/-- the picture, as both hold it -/
def cP (x_hasPicture p_guests : Int32) (p_kinds p_figures p_minutes p_settings : Nat → Int32) (p_hooks : Int32) (p_letters : Nat → Int32) (p_letterCount : Int32) (M_then : Nat → Int32) (M_kept : Int32) : Prop :=
  (x_hasPicture = nI 0 ∧ M_kept = nI 0) ∨ (x_hasPicture = nI 1 ∧ M_kept = nI 1 ∧ ∃ r, okT r ∧ cR r p_guests p_kinds p_figures p_minutes p_settings p_hooks p_letters p_letterCount ∧ mK r M_then)
theorem u_image {r : SR} (fuel : Nat) (x_hasPicture : Int32) (d_guests : Int32) (d_kinds : Nat → Int32) (d_figures : Nat → Int32) (d_minutes : Nat → Int32) (d_settings : Nat → Int32) (d_hooks : Int32) (d_letters : Nat → Int32) (d_letterCount : Int32) (p_guests : Int32) (p_kinds : Nat → Int32) (p_figures : Nat → Int32) (p_minutes : Nat → Int32) (p_settings : Nat → Int32) (p_hooks : Int32) (p_letters : Nat → Int32) (p_letterCount : Int32) (M_guests : Int32) (M_kind : Nat → Int32) (M_figure : Nat → Int32) (M_told : Nat → Int32) (M_heaps : Int32) (M_holds : Int32) (M_back : Int32) (M_mistakes : Int32) (M_hooks : Int32) (M_letters : Int32) (M_rule : Nat → Int32) (M_then : Nat → Int32) (M_kept : Int32) (hf : 100 < fuel) (hr : okT r) (hc : cR r d_guests d_kinds d_figures d_minutes d_settings d_hooks d_letters d_letterCount) (hm : mR r M_guests M_kind M_figure M_told M_heaps M_holds M_back M_mistakes M_hooks M_letters M_rule) : ∃ o p, fX9_image fuel x_hasPicture d_guests d_kinds d_figures d_minutes d_settings d_hooks d_letters d_letterCount p_guests p_kinds p_figures p_minutes p_settings p_hooks p_letters p_letterCount = some o ∧ fX10_image fuel M_guests M_kind M_figure M_told M_heaps M_holds M_back M_mistakes M_hooks M_letters M_rule M_then M_kept = some p ∧ o.1 = p.1 ∧ cP o.2.1 o.2.2.1 o.2.2.2.1 o.2.2.2.2.1 o.2.2.2.2.2.1 o.2.2.2.2.2.2.1 o.2.2.2.2.2.2.2.1 o.2.2.2.2.2.2.2.2.1 o.2.2.2.2.2.2.2.2.2 p.2.1 p.2.2 := by
  unfold fX9_image fX10_image
  obtain ⟨c, c1, c2⟩ := sX5_copyFrom hr.1 hc fuel p_guests p_kinds p_figures p_minutes p_settings p_hooks p_letters p_letterCount
  obtain ⟨t, t1, t2⟩ := sX10_keepAll_then fuel M_guests M_kind M_figure M_told M_heaps M_holds M_back M_mistakes M_hooks M_letters M_rule M_then hf hr.1 hm
  rw [c1, t1, zbs, zbs]
  exact ⟨_, _, rfl, rfl, by rw [hc.1, hm.1], Or.inr ⟨rfl, rfl, r, hr, c2, t2⟩⟩
theorem u_restore {r : SR} (fuel : Nat) (x_hasPicture : Int32) (d_guests : Int32) (d_kinds : Nat → Int32) (d_figures : Nat → Int32) (d_minutes : Nat → Int32) (d_settings : Nat → Int32) (d_hooks : Int32) (d_letters : Nat → Int32) (d_letterCount : Int32) (p_guests : Int32) (p_kinds : Nat → Int32) (p_figures : Nat → Int32) (p_minutes : Nat → Int32) (p_settings : Nat → Int32) (p_hooks : Int32) (p_letters : Nat → Int32) (p_letterCount : Int32) (M_guests : Int32) (M_kind : Nat → Int32) (M_figure : Nat → Int32) (M_told : Nat → Int32) (M_heaps : Int32) (M_holds : Int32) (M_back : Int32) (M_mistakes : Int32) (M_hooks : Int32) (M_letters : Int32) (M_rule : Nat → Int32) (M_then : Nat → Int32) (M_kept : Int32) (hf : 100 < fuel) (hr : okT r) (hc : cR r d_guests d_kinds d_figures d_minutes d_settings d_hooks d_letters d_letterCount) (hm : mR r M_guests M_kind M_figure M_told M_heaps M_holds M_back M_mistakes M_hooks M_letters M_rule) (hp : cP x_hasPicture p_guests p_kinds p_figures p_minutes p_settings p_hooks p_letters p_letterCount M_then M_kept) : ∃ o p r', fX9_restore fuel x_hasPicture d_guests d_kinds d_figures d_minutes d_settings d_hooks d_letters d_letterCount p_guests p_kinds p_figures p_minutes p_settings p_hooks p_letters p_letterCount = some o ∧ fX10_restore fuel M_guests M_kind M_figure M_told M_heaps M_holds M_back M_mistakes M_hooks M_letters M_rule M_then M_kept = some p ∧ o.1 = p.1 ∧ okT r' ∧ cR r' o.2.1 o.2.2.1 o.2.2.2.1 o.2.2.2.2.1 o.2.2.2.2.2.1 o.2.2.2.2.2.2.1 o.2.2.2.2.2.2.2.1 o.2.2.2.2.2.2.2.2 ∧ mR r' p.2.1 p.2.2.1 p.2.2.2.1 p.2.2.2.2.1 p.2.2.2.2.2.1 p.2.2.2.2.2.2.1 p.2.2.2.2.2.2.2.1 p.2.2.2.2.2.2.2.2.1 p.2.2.2.2.2.2.2.2.2.1 p.2.2.2.2.2.2.2.2.2.2.1 p.2.2.2.2.2.2.2.2.2.2.2 := by
  unfold fX9_restore fX10_restore
  have e0 : (0 : Int32) = nI 0 := rfl
  rw [e0]
  rcases hp with ⟨h1, h2⟩ | ⟨h1, h2, r2, k1, k2, k3⟩
  · rw [if_pos h1, if_pos h2]
    exact ⟨_, _, r, rfl, rfl, rfl, hr, hc, hm⟩
  · rw [if_neg (by rw [h1]; exact z10), if_neg (by rw [h2]; exact z10)]
    obtain ⟨c, c1, c2⟩ := sX5_copyFrom k1.1 k2 fuel d_guests d_kinds d_figures d_minutes d_settings d_hooks d_letters d_letterCount
    obtain ⟨t, t1, t2⟩ := sX10_backTo_then (r := r2) fuel M_guests M_kind M_figure M_told M_heaps M_holds M_back M_mistakes M_hooks M_letters M_rule M_then hf k1.1 k3
    rw [c1, t1, zbs, zbs]
    exact ⟨_, _, r2, rfl, rfl, by rw [c2.1, t2.1], k1, c2, t2⟩
