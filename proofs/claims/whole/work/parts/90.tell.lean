/-! The calls that tell: goes, hook, leaves; count. -/
/-- a room as it is told -/
def okT (r : SR) : Prop := okR r ∧ (∀ i, i < rN r → rM r i < 100) ∧ rHk r < 2 ^ rN r ∧ popS (rHk r) ≤ 3
theorem okT_hk {r : SR} (h : okT r) : rHk r < 1024 := Nat.lt_of_lt_of_le h.2.2.1 (pow_le h.1.1)
def rGoes (r : SR) (g v : Nat) : SR := (rN r, rK r, rF r, va_up (rM r) g v, rHp r, rHo r, rBa r, rMi r, rHk r, rL r)
theorem ok_goes {r : SR} {g v : Nat} (h : okT r) (hv : v < 100) : okT (rGoes r g v) := by
  obtain ⟨⟨a1, a2, a3⟩, b, c⟩ := h
  refine ⟨⟨a1, fun i hi => ⟨(a2 i hi).1, (a2 i hi).2.1, ?_⟩, a3⟩, fun i hi => ?_, c⟩
  · show va_up (rM r) g v i < 200
    unfold va_up
    split
    · omega
    · exact (a2 i hi).2.2
  · show va_up (rM r) g v i < 100
    unfold va_up
    split
    · omega
    · exact b i hi
theorem kfm_goes {N g v : Nat} {K F M : Nat → Nat} {ki fi mi : Nat → Int32} (hv : v < 200) (h : kfm N K F M ki fi mi) : kfm N K F (va_up M g v) ki fi (upd mi g (nI v)) := by
  intro i hi
  obtain ⟨a, b, c, d, e, f⟩ := h i hi
  refine ⟨a, b, c, d, ?_, ?_⟩
  · unfold upd va_up
    split
    · rfl
    · exact e
  · unfold va_up
    split
    · exact hv
    · exact f
theorem u_goes {r : SR} (fuel : Nat) (d_guests : Int32) (d_minutes : Nat → Int32) (p1 : Int32) (p2 : Int32) (M_guests : Int32) (M_told : Nat → Int32) (d_kinds : Nat → Int32) (d_figures : Nat → Int32) (d_settings : Nat → Int32) (d_hooks : Int32) (d_letters : Nat → Int32) (d_letterCount : Int32) (M_kind : Nat → Int32) (M_figure : Nat → Int32) (M_heaps : Int32) (M_holds : Int32) (M_back : Int32) (M_mistakes : Int32) (M_hooks : Int32) (M_letters : Int32) (M_rule : Nat → Int32) (hr : okT r) (hc : cR r d_guests d_kinds d_figures d_minutes d_settings d_hooks d_letters d_letterCount) (hm : mR r M_guests M_kind M_figure M_told M_heaps M_holds M_back M_mistakes M_hooks M_letters M_rule) : ∃ o p r', fX9_goes fuel d_guests d_minutes p1 p2 = some o ∧ fX10_goes fuel M_guests M_told p1 p2 = some p ∧ o.1 = p.1 ∧ okT r' ∧ cR r' d_guests d_kinds d_figures o.2 d_settings d_hooks d_letters d_letterCount ∧ mR r' M_guests M_kind M_figure p.2 M_heaps M_holds M_back M_mistakes M_hooks M_letters M_rule := by
  have hN := hr.1.1
  unfold fX9_goes fX10_goes
  have e0 : (0 : Int32) = nI 0 := rfl
  have e9 : (99 : Int32) = nI 99 := rfl
  rw [e0, e9]
  rcases gcase (fuel := fuel) hN p1 with ⟨g, hg, rfl, a1, a2⟩ | ⟨a1, a2⟩
  · rw [← hc.1] at a1
    rw [← hm.1] at a2
    rw [a1, a2, zbs, zbs, if_neg z10, if_neg z10, sX9_isMinute, sX10_isIn, zbs, zbs]
    rcases bcase (p := p2) (m := 99) (by decide) with ⟨k, hk, rfl, hd⟩ | hd
    · rw [hd]
      have ht : ¬ zb01 true = nI 0 := z10
      rw [if_neg ht, if_neg ht]
      obtain ⟨x1, x2, x3, x4, x5, x6⟩ := hc.2.1 g hg
      obtain ⟨y1, y2, y3, y4, y5, y6⟩ := hm.2.1 g hg
      simp (disch := omega) only [zlit, zz, if_pos, if_neg, if_true, if_false, zgd', zl, zbs, zbz, encz, x5, y5]
      exact ⟨_, _, rGoes r g k, rfl, rfl, rfl, ok_goes hr (by omega), ⟨hc.1, kfm_goes (by omega) hc.2.1, hc.2.2⟩, ⟨hm.1, kfm_goes (by omega) hm.2.1, hm.2.2⟩⟩
    · rw [hd]
      have ht : zb01 false = nI 0 := rfl
      rw [if_pos ht, if_pos ht]
      exact ⟨_, _, r, rfl, rfl, rfl, hr, hc, hm⟩
  · rw [← hc.1] at a1
    rw [← hm.1] at a2
    rw [a1, a2, zbs, zbs, if_pos z00, if_pos z00]
    exact ⟨_, _, r, rfl, rfl, rfl, hr, hc, hm⟩
theorem u_count {r : SR} (fuel : Nat) (d_guests : Int32) (d_kinds : Nat → Int32) (d_figures : Nat → Int32) (d_settings : Nat → Int32) (d_hooks : Int32) (d_letterCount : Int32) (p1 : Int32) (M_guests : Int32) (M_kind : Nat → Int32) (M_figure : Nat → Int32) (M_heaps : Int32) (M_holds : Int32) (M_back : Int32) (M_mistakes : Int32) (M_hooks : Int32) (M_letters : Int32) (d_minutes : Nat → Int32) (d_letters : Nat → Int32) (M_told : Nat → Int32) (M_rule : Nat → Int32) (hf : 100 < fuel) (hr : okR r) (hc : cR r d_guests d_kinds d_figures d_minutes d_settings d_hooks d_letters d_letterCount) (hm : mR r M_guests M_kind M_figure M_told M_heaps M_holds M_back M_mistakes M_hooks M_letters M_rule) : ∃ o p, fX9_count fuel d_guests d_kinds d_figures d_settings d_hooks d_letterCount p1 = some o ∧ fX10_count fuel M_guests M_kind M_figure M_heaps M_holds M_back M_mistakes M_hooks M_letters p1 = some p ∧ o = p := by
  have hN := hr.1
  obtain ⟨c1, c2, c3, c4, c5, c6, c7, c8, c9⟩ := hc
  obtain ⟨m1, m2, m3, m4, m5, m6, m7, m8, m9⟩ := hm
  unfold fX9_count fX10_count
  by_cases q0 : p1 = 0
  · rw [if_pos q0, if_pos q0]; exact ⟨_, _, rfl, rfl, by rw [c1, m1]⟩
  rw [if_neg q0, if_neg q0]
  by_cases q1 : p1 = 1
  · rw [if_pos q1, if_pos q1]; exact ⟨_, _, rfl, rfl, by rw [c3, m3]⟩
  rw [if_neg q1, if_neg q1]
  by_cases q2 : p1 = 2
  · rw [if_pos q2, if_pos q2]; exact ⟨_, _, rfl, rfl, by rw [c4, m4]⟩
  rw [if_neg q2, if_neg q2]
  by_cases q3 : p1 = 3
  · rw [if_pos q3, if_pos q3]; exact ⟨_, _, rfl, rfl, by rw [c5, m5]⟩
  rw [if_neg q3, if_neg q3]
  by_cases q4 : p1 = 4
  · rw [if_pos q4, if_pos q4]; exact ⟨_, _, rfl, rfl, by rw [c6, m6]⟩
  rw [if_neg q4, if_neg q4]
  by_cases q5 : p1 = 5
  · rw [if_pos q5, if_pos q5]; exact ⟨_, _, rfl, rfl, by rw [c7, m7]⟩
  rw [if_neg q5, if_neg q5]
  by_cases q6 : p1 = 6
  · rw [if_pos q6, if_pos q6]; exact ⟨_, _, rfl, rfl, by rw [c9, m8]⟩
  rw [if_neg q6, if_neg q6]
  by_cases q7 : p1 = 7
  · rw [if_pos q7, if_pos q7]
    have key : ∀ (m n i : Nat) (v : Int32), i + m = rN r → m < n → fX5_allWeights_L4 fuel (nI (rN r)) d_kinds d_figures n v (nI i) = some (zfold (fun k v => v + nI (wtF (rK r) (rF r) k)) m i v) := by
      intro m
      induction m with
      | zero =>
        intro n i v h1 h2
        obtain ⟨n, rfl⟩ : ∃ k, n = k + 1 := ⟨n - 1, by omega⟩
        rw [fX5_allWeights_L4]
        simp (disch := omega) only [zlit, zz, if_pos, if_neg, if_true, if_false, zgd', zl, zbs, zbz, encz]
        rfl
      | succ m ih =>
        intro n i v h1 h2
        obtain ⟨n, rfl⟩ : ∃ k, n = k + 1 := ⟨n - 1, by omega⟩
        rw [fX5_allWeights_L4]
        simp (disch := omega) only [zlit, zz, if_pos, if_neg, if_true, if_false, zgd', zl, zbs, zbz, encz, sX5_weightOf hN c2 (show i < rN r by omega)]
        rw [ih n (i + 1) _ (by omega) (by omega), zfold]
    have key2 : ∀ (m n i : Nat) (v : Int32), i + m = rN r → m < n → fX10_count_L87 fuel (nI (rN r)) M_kind M_figure n v (nI i) = some (zfold (fun k v => v + nI (wtF (rK r) (rF r) k)) m i v) := by
      intro m
      induction m with
      | zero =>
        intro n i v h1 h2
        obtain ⟨n, rfl⟩ : ∃ k, n = k + 1 := ⟨n - 1, by omega⟩
        rw [fX10_count_L87]
        simp (disch := omega) only [zlit, zz, if_pos, if_neg, if_true, if_false, zgd', zl, zbs, zbz, encz]
        rfl
      | succ m ih =>
        intro n i v h1 h2
        obtain ⟨n, rfl⟩ : ∃ k, n = k + 1 := ⟨n - 1, by omega⟩
        rw [fX10_count_L87]
        simp (disch := omega) only [zlit, zz, if_pos, if_neg, if_true, if_false, zgd', zl, zbs, zbz, encz, sX10_liftOf hN m2 (show i < rN r by omega)]
        rw [ih n (i + 1) _ (by omega) (by omega), zfold]
    unfold fX5_allWeights
    have e0 : (0 : Int32) = nI 0 := rfl
    rw [e0, c1, m1, key (rN r) fuel 0 (nI 0) (by omega) (by omega), key2 (rN r) fuel 0 (nI 0) (by omega) (by omega), zbs]
    exact ⟨_, _, rfl, rfl, rfl⟩
  rw [if_neg q7, if_neg q7]
  exact ⟨_, _, rfl, rfl, rfl⟩
theorem zxor : ∀ g, g < 10 → ∀ v, v < 1024 → nI v ^^^ ((1 : Int32) <<< (nI g &&& 31)) = nI (v ^^^ 2 ^ g) := by decide +kernel
theorem pop_xor : ∀ g, g < 10 → ∀ v, v < 1024 → (hangS v g = false → popS (v ^^^ 2 ^ g) = popS v + 1) ∧ (hangS v g = true → popS (v ^^^ 2 ^ g) ≤ popS v) := by decide +kernel
def rHook (r : SR) (g : Nat) : SR := rHooks r (rHk r ^^^ 2 ^ g)
theorem xor_lt {r : SR} {g : Nat} (hr : okT r) (hg : g < rN r) : rHk r ^^^ 2 ^ g < 2 ^ rN r := Nat.xor_lt_two_pow hr.2.2.1 (Nat.pow_lt_pow_right (by decide) hg)
theorem ok_hook {r : SR} {g : Nat} (hr : okT r) (hg : g < rN r) (h : hangS (rHk r) g = false → popS (rHk r) < 3) : okT (rHook r g) := by
  have hN := hr.1.1
  have hlt := xor_lt hr hg
  have hpw := pow_le hN
  have hp := pop_xor g (by omega) (rHk r) (okT_hk hr)
  refine ⟨ok_hooks hr.1 (by omega), hr.2.1, hlt, ?_⟩
  show popS (rHk r ^^^ 2 ^ g) ≤ 3
  have h3 := hr.2.2.2
  cases q : hangS (rHk r) g with
  | false => have := hp.1 q; have := h q; omega
  | true => have := hp.2 q; omega
theorem u_hook {r : SR} (fuel : Nat) (d_guests : Int32) (d_hooks : Int32) (p1 : Int32) (M_guests : Int32) (M_hooks : Int32) (d_kinds : Nat → Int32) (d_figures : Nat → Int32) (d_minutes : Nat → Int32) (d_settings : Nat → Int32) (d_letters : Nat → Int32) (d_letterCount : Int32) (M_kind : Nat → Int32) (M_figure : Nat → Int32) (M_told : Nat → Int32) (M_heaps : Int32) (M_holds : Int32) (M_back : Int32) (M_mistakes : Int32) (M_letters : Int32) (M_rule : Nat → Int32) (hf : 100 < fuel) (hr : okT r) (hc : cR r d_guests d_kinds d_figures d_minutes d_settings d_hooks d_letters d_letterCount) (hm : mR r M_guests M_kind M_figure M_told M_heaps M_holds M_back M_mistakes M_hooks M_letters M_rule) : ∃ o p r', fX9_hook fuel d_guests d_hooks p1 = some o ∧ fX10_hook fuel M_guests M_hooks p1 = some p ∧ o.1 = p.1 ∧ okT r' ∧ cR r' d_guests d_kinds d_figures d_minutes d_settings o.2 d_letters d_letterCount ∧ mR r' M_guests M_kind M_figure M_told M_heaps M_holds M_back M_mistakes p.2 M_letters M_rule := by
  have hN := hr.1.1
  have hhk := okT_hk hr
  have hpw := pow_le hN
  unfold fX9_hook fX10_hook
  have e0 : (0 : Int32) = nI 0 := rfl
  rw [e0]
  rcases gcase (fuel := fuel) hN p1 with ⟨g, hg, rfl, a1, a2⟩ | ⟨a1, a2⟩
  · rw [← hc.1] at a1
    rw [← hm.1] at a2
    obtain ⟨c1, c2, c3, c4, c5, c6, c7, c8, c9⟩ := hc
    obtain ⟨m1, m2, m3, m4, m5, m6, m7, m8, m9⟩ := hm
    subst c7 m7
    rw [a1, a2, zbs, zbs, if_neg z10, if_neg z10]
    unfold fX5_toggleHook
    have hlt := xor_lt hr hg
    have hx := zxor g (by omega) (rHk r) hhk
    have hzb := zbit (hk := rHk r ^^^ 2 ^ g) (g := g) (by omega) (by omega)
    -- it is turned
    have tur : (hangS (rHk r) g = false → popS (rHk r) < 3) → ∃ o p r', ((fX5_toggleHook_J22 fuel (nI g) (nI (rHk r))).bind fun o_3 => some (o_3.1, o_3.2)) = some o ∧ fX10_hook_J34 fuel (nI g) (nI (rHk r)) = some p ∧ o.1 = p.1 ∧ okT r' ∧ cR r' d_guests d_kinds d_figures d_minutes d_settings o.2 d_letters d_letterCount ∧ mR r' M_guests M_kind M_figure M_told M_heaps M_holds M_back M_mistakes p.2 M_letters M_rule := by
      intro h3
      unfold fX5_toggleHook_J22 fX10_hook_J34 fX10_turnHook
      rw [hx, zl, zl, hzb, zbs, sX5_hasHook (by omega) (by omega), zbs]
      have hmod : (rHk r ^^^ 2 ^ g) / 2 ^ g % 2 < 2 := Nat.mod_lt _ (by decide)
      cases q : hangS (rHk r ^^^ 2 ^ g) g with
      | false =>
        have h0 : (rHk r ^^^ 2 ^ g) / 2 ^ g % 2 = 0 := by
          have : ¬ (rHk r ^^^ 2 ^ g) / 2 ^ g % 2 = 1 := by simpa [hangS] using q
          omega
        simp (disch := omega) only [zlit, zz, if_pos, if_neg, if_true, if_false, zgd', zl, zbs, zbz, encz, h0]
        exact ⟨_, _, rHook r g, rfl, rfl, rfl, ok_hook hr hg h3, ⟨c1, c2, c3, c4, c5, c6, rfl, c8, c9⟩, ⟨m1, m2, m3, m4, m5, m6, rfl, m8, m9⟩⟩
      | true =>
        have h0 : (rHk r ^^^ 2 ^ g) / 2 ^ g % 2 = 1 := by simpa [hangS] using q
        simp (disch := omega) only [zlit, zz, if_pos, if_neg, if_true, if_false, zgd', zl, zbs, zbz, encz, h0]
        exact ⟨_, _, rHook r g, rfl, rfl, rfl, ok_hook hr hg h3, ⟨c1, c2, c3, c4, c5, c6, rfl, c8, c9⟩, ⟨m1, m2, m3, m4, m5, m6, rfl, m8, m9⟩⟩
    rw [sX5_hasHook (by omega) (by omega), sX10_hangs (by omega) (by omega), zbs, zbs]
    have h3 := hr.2.2.2
    cases q : hangS (rHk r) g with
    | true =>
      simp (disch := omega) only [zlit, zz, if_pos, if_neg, if_true, if_false, zgd', zl, zbs, zbz, encz]
      exact tur (fun h => by rw [q] at h; cases h)
    | false =>
      by_cases q3 : popS (rHk r) < 3
      · simp (disch := omega) only [zlit, zz, if_pos, if_neg, if_true, if_false, zgd', zl, zbs, zbz, encz, sJ6_bitCount hhk, sX10_bits]
        exact tur (fun _ => q3)
      · have e3 : popS (rHk r) = 3 := by omega
        simp (disch := omega) only [zlit, zz, if_pos, if_neg, if_true, if_false, zgd', zl, zbs, zbz, encz, sJ6_bitCount hhk, sX10_bits, e3]
        exact ⟨_, _, r, rfl, rfl, rfl, hr, ⟨c1, c2, c3, c4, c5, c6, rfl, c8, c9⟩, ⟨m1, m2, m3, m4, m5, m6, rfl, m8, m9⟩⟩
  · rw [← hc.1] at a1
    rw [← hm.1] at a2
    rw [a1, a2, zbs, zbs, if_pos z00, if_pos z00]
    exact ⟨_, _, r, rfl, rfl, rfl, hr, hc, hm⟩
