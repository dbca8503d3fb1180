/-! The call: set, whole. -/
def rSet0 (r : SR) (v : Nat) : SR := (rN r, rK r, rF r, rM r, v, rHo r, rBa r, rMi r, rHk r, rL r)
def rSet1 (r : SR) (v : Nat) : SR := (rN r, rK r, rF r, rM r, rHp r, v, rBa r, rMi r, rHk r, rL r)
def rSet2 (r : SR) (v : Nat) : SR := (rN r, rK r, rF r, rM r, rHp r, rHo r, v, rMi r, rHk r, rL r)
def rSet3 (r : SR) (v : Nat) : SR := (rN r, rK r, rF r, rM r, rHp r, rHo r, rBa r, v, rHk r, rL r)
theorem ok_set0 {r : SR} {v : Nat} (h : okT r) (h1 : 1 ≤ v) (h2 : v ≤ 3) : okT (rSet0 r v) := ⟨⟨h.1.1, h.1.2.1, h1, h2, h.1.2.2.2.2⟩, h.2⟩
theorem ok_set1 {r : SR} {v : Nat} (h : okT r) (h1 : 1 ≤ v) (h2 : v ≤ 9) : okT (rSet1 r v) := ⟨⟨h.1.1, h.1.2.1, h.1.2.2.1, h.1.2.2.2.1, h1, Nat.lt_succ_of_le h2, h.1.2.2.2.2.2.2⟩, h.2⟩
theorem ok_set2 {r : SR} {v : Nat} (h : okT r) (h1 : 0 ≤ v) (h2 : v ≤ 2) : okT (rSet2 r v) := ⟨⟨h.1.1, h.1.2.1, h.1.2.2.1, h.1.2.2.2.1, h.1.2.2.2.2.1, h.1.2.2.2.2.2.1, h2, h.1.2.2.2.2.2.2.2⟩, h.2⟩
theorem ok_set3 {r : SR} {v : Nat} (h : okT r) (h1 : 0 ≤ v) (h2 : v ≤ 1) : okT (rSet3 r v) := ⟨⟨h.1.1, h.1.2.1, h.1.2.2.1, h.1.2.2.2.1, h.1.2.2.2.2.1, h.1.2.2.2.2.2.1, h.1.2.2.2.2.2.2.1, h2, h.1.2.2.2.2.2.2.2.2⟩, h.2⟩
theorem u_set {r : SR} (fuel : Nat) (d_settings : Nat → Int32) (p1 : Int32) (p2 : Int32) (M_guests : Int32) (M_kind : Nat → Int32) (M_figure : Nat → Int32) (M_heaps : Int32) (M_holds : Int32) (M_back : Int32) (M_mistakes : Int32) (M_hooks : Int32) (M_letters : Int32) (d_guests : Int32) (d_kinds : Nat → Int32) (d_figures : Nat → Int32) (d_minutes : Nat → Int32) (d_hooks : Int32) (d_letters : Nat → Int32) (d_letterCount : Int32) (M_told : Nat → Int32) (M_rule : Nat → Int32) (hr : okT r) (hc : cR r d_guests d_kinds d_figures d_minutes d_settings d_hooks d_letters d_letterCount) (hm : mR r M_guests M_kind M_figure M_told M_heaps M_holds M_back M_mistakes M_hooks M_letters M_rule) : ∃ o p r', fX9_set fuel d_settings p1 p2 = some o ∧ fX10_set fuel M_guests M_kind M_figure M_heaps M_holds M_back M_mistakes M_hooks M_letters p1 p2 = some p ∧ o.1 = p.1 ∧ okT r' ∧ cR r' d_guests d_kinds d_figures d_minutes o.2 d_hooks d_letters d_letterCount ∧ mR r' M_guests M_kind M_figure M_told p.2.1 p.2.2.1 p.2.2.2.1 p.2.2.2.2 M_hooks M_letters M_rule := by
  have e0 : (0 : Int32) = nI 0 := rfl
  have hr1 := hr.1
  obtain ⟨r1, r2, r3, r4, r5, r6, r7, r8, r9, r10, r11⟩ := hr1
  obtain ⟨c1, c2, c3, c4, c5, c6, c7, c8, c9⟩ := hc
  obtain ⟨m1, m2, m3, m4, m5, m6, m7, m8, m9⟩ := hm
  have hc : cR r d_guests d_kinds d_figures d_minutes d_settings d_hooks d_letters d_letterCount := ⟨c1, c2, c3, c4, c5, c6, c7, c8, c9⟩
  have hm : mR r M_guests M_kind M_figure M_told M_heaps M_holds M_back M_mistakes M_hooks M_letters M_rule := ⟨m1, m2, m3, m4, m5, m6, m7, m8, m9⟩
  unfold fX9_set
  rw [e0]
  by_cases q0 : p1 = nI 0
  · rw [sX10_set_0 fuel M_guests M_kind M_figure M_heaps M_holds M_back M_mistakes M_hooks M_letters p1 p2 q0 (by rw [m3]; exact nI_m1 (by omega)), q0, allows_w (by omega), show zLeast 0 = nI 1 from rfl, show zMost 0 = nI 3 from rfl]
    rcases set_rng (p := p2) (a := 1) (b := 3) (by decide) (by decide) with ⟨x1, x2⟩ | ⟨x1, x2, v, v1, v2, rfl⟩
    · rw [x1, x2, zbs, if_pos z00, if_pos (show zb01 false = nI 0 from rfl)]
      exact ⟨_, _, r, rfl, rfl, rfl, hr, hc, hm⟩
    · rw [x1, x2, zbs, if_neg z10, if_neg (show ¬ zb01 true = nI 0 from z10)]
      have hz : zin (nI 0) 4 = true := by decide
      have hcl : (nI 0).toNatClampNeg = 0 := nI_clamp (by decide)
      rw [hz, zgt, hcl, zl, zl]
      exact ⟨_, _, rSet0 r v, rfl, rfl, by show d_settings 0 = M_heaps; rw [c3, m3], ok_set0 hr v1 v2, ⟨c1, c2, rfl, c4, c5, c6, c7, c8, c9⟩, ⟨m1, m2, rfl, m4, m5, m6, m7, m8, m9⟩⟩
  by_cases q1 : p1 = nI 1
  · rw [sX10_set_1 fuel M_guests M_kind M_figure M_heaps M_holds M_back M_mistakes M_hooks M_letters p1 p2 q1 (by rw [m4]; exact nI_m1 (by omega)), q1, allows_w (by omega), show zLeast 1 = nI 1 from rfl, show zMost 1 = nI 9 from rfl]
    rcases set_rng (p := p2) (a := 1) (b := 9) (by decide) (by decide) with ⟨x1, x2⟩ | ⟨x1, x2, v, v1, v2, rfl⟩
    · rw [x1, x2, zbs, if_pos z00, if_pos (show zb01 false = nI 0 from rfl)]
      exact ⟨_, _, r, rfl, rfl, rfl, hr, hc, hm⟩
    · rw [x1, x2, zbs, if_neg z10, if_neg (show ¬ zb01 true = nI 0 from z10)]
      have hz : zin (nI 1) 4 = true := by decide
      have hcl : (nI 1).toNatClampNeg = 1 := nI_clamp (by decide)
      rw [hz, zgt, hcl, zl, zl]
      exact ⟨_, _, rSet1 r v, rfl, rfl, by show d_settings 1 = M_holds; rw [c4, m4], ok_set1 hr v1 v2, ⟨c1, c2, c3, rfl, c5, c6, c7, c8, c9⟩, ⟨m1, m2, m3, rfl, m5, m6, m7, m8, m9⟩⟩
  by_cases q2 : p1 = nI 2
  · rw [sX10_set_2 fuel M_guests M_kind M_figure M_heaps M_holds M_back M_mistakes M_hooks M_letters p1 p2 q2 (by rw [m5]; exact nI_m1 (by omega)), q2, allows_w (by omega), show zLeast 2 = nI 0 from rfl, show zMost 2 = nI 2 from rfl]
    rcases set_rng (p := p2) (a := 0) (b := 2) (by decide) (by decide) with ⟨x1, x2⟩ | ⟨x1, x2, v, v1, v2, rfl⟩
    · rw [x1, x2, zbs, if_pos z00, if_pos (show zb01 false = nI 0 from rfl)]
      exact ⟨_, _, r, rfl, rfl, rfl, hr, hc, hm⟩
    · rw [x1, x2, zbs, if_neg z10, if_neg (show ¬ zb01 true = nI 0 from z10)]
      have hz : zin (nI 2) 4 = true := by decide
      have hcl : (nI 2).toNatClampNeg = 2 := nI_clamp (by decide)
      rw [hz, zgt, hcl, zl, zl]
      exact ⟨_, _, rSet2 r v, rfl, rfl, by show d_settings 2 = M_back; rw [c5, m5], ok_set2 hr v1 v2, ⟨c1, c2, c3, c4, rfl, c6, c7, c8, c9⟩, ⟨m1, m2, m3, m4, rfl, m6, m7, m8, m9⟩⟩
  by_cases q3 : p1 = nI 3
  · rw [sX10_set_3 fuel M_guests M_kind M_figure M_heaps M_holds M_back M_mistakes M_hooks M_letters p1 p2 q3 (by rw [m6]; exact nI_m1 (by omega)), q3, allows_w (by omega), show zLeast 3 = nI 0 from rfl, show zMost 3 = nI 1 from rfl]
    rcases set_rng (p := p2) (a := 0) (b := 1) (by decide) (by decide) with ⟨x1, x2⟩ | ⟨x1, x2, v, v1, v2, rfl⟩
    · rw [x1, x2, zbs, if_pos z00, if_pos (show zb01 false = nI 0 from rfl)]
      exact ⟨_, _, r, rfl, rfl, rfl, hr, hc, hm⟩
    · rw [x1, x2, zbs, if_neg z10, if_neg (show ¬ zb01 true = nI 0 from z10)]
      have hz : zin (nI 3) 4 = true := by decide
      have hcl : (nI 3).toNatClampNeg = 3 := nI_clamp (by decide)
      rw [hz, zgt, hcl, zl, zl]
      exact ⟨_, _, rSet3 r v, rfl, rfl, by show d_settings 3 = M_mistakes; rw [c6, m6], ok_set3 hr v1 v2, ⟨c1, c2, c3, c4, c5, rfl, c7, c8, c9⟩, ⟨m1, m2, m3, m4, m5, rfl, m7, m8, m9⟩⟩
  have hno : decide (nI 0 ≤ p1 ∧ p1 ≤ nI 3) = false := set_no (fun h => by
    rcases h with h | h | h | h
    · exact q0 h
    · exact q1 h
    · exact q2 h
    · exact q3 h)
  rw [sX10_set_no fuel M_guests M_kind M_figure M_heaps M_holds M_back M_mistakes M_hooks M_letters p1 p2 hno]
  have hal : fX5_allows fuel p1 p2 = some (nI 0) := by
    unfold fX5_allows
    have e4 : (4 : Int32) = nI 4 := rfl
    rw [e0, e4]
    rcases icase p1 with h | ⟨k, hk, rfl⟩
    · rw [if_pos h]
    · rw [if_neg (show ¬ nI k < nI 0 by rw [nI_ltI hk (by decide)]; omega), if_pos]
      rw [nI_leI (by decide) hk]
      by_cases q : 4 ≤ k
      · exact q
      · exfalso
        rcases (show k = 0 ∨ k = 1 ∨ k = 2 ∨ k = 3 by omega) with rfl | rfl | rfl | rfl
        · exact q0 rfl
        · exact q1 rfl
        · exact q2 rfl
        · exact q3 rfl
  rw [hal, zbs, if_pos z00]
  exact ⟨_, _, r, rfl, rfl, rfl, hr, hc, hm⟩
