/-! The call: set. -/
theorem set_no {p : Int32} (h : p = nI 0 ∨ p = nI 1 ∨ p = nI 2 ∨ p = nI 3 → False) : decide (nI 0 ≤ p ∧ p ≤ nI 3) = false := by
  rcases bcase (p := p) (m := 3) (by decide) with ⟨k, hk, rfl, hd⟩ | hd
  · exfalso
    rcases (show k = 0 ∨ k = 1 ∨ k = 2 ∨ k = 3 by omega) with rfl | rfl | rfl | rfl
    · exact h (Or.inl rfl)
    · exact h (Or.inr (Or.inl rfl))
    · exact h (Or.inr (Or.inr (Or.inl rfl)))
    · exact h (Or.inr (Or.inr (Or.inr rfl)))
  · exact hd
theorem sX10_set_no (fuel : Nat) (M_guests : Int32) (M_kind : Nat → Int32) (M_figure : Nat → Int32) (M_heaps : Int32) (M_holds : Int32) (M_back : Int32) (M_mistakes : Int32) (M_hooks : Int32) (M_letters : Int32) (p1 : Int32) (p2 : Int32) (h : decide (nI 0 ≤ p1 ∧ p1 ≤ nI 3) = false) : fX10_set fuel M_guests M_kind M_figure M_heaps M_holds M_back M_mistakes M_hooks M_letters p1 p2 = some (-1, M_heaps, M_holds, M_back, M_mistakes) := by
  unfold fX10_set
  have e0 : (0 : Int32) = nI 0 := rfl
  have e3 : (3 : Int32) = nI 3 := rfl
  rw [e0, e3, sX10_isIn, h, zbs, if_pos (show zb01 false = nI 0 from rfl)]
  simp only [if_true, ite_self]
theorem sX10_set_0 (fuel : Nat) (M_guests : Int32) (M_kind : Nat → Int32) (M_figure : Nat → Int32) (M_heaps : Int32) (M_holds : Int32) (M_back : Int32) (M_mistakes : Int32) (M_hooks : Int32) (M_letters : Int32) (p1 : Int32) (p2 : Int32) (h : p1 = nI 0) (hh : ¬ M_heaps = zAw) : fX10_set fuel M_guests M_kind M_figure M_heaps M_holds M_back M_mistakes M_hooks M_letters p1 p2 = if zb01 (decide (nI 1 ≤ p2 ∧ p2 ≤ nI 3)) = nI 0 then some (zAw, M_heaps, M_holds, M_back, M_mistakes) else some (M_heaps, p2, M_holds, M_back, M_mistakes) := by
  subst h
  unfold fX10_set fX10_count
  have hd : decide (nI 0 ≤ nI 0 ∧ nI 0 ≤ nI 3) = true := by decide
  have e0 : (0 : Int32) = nI 0 := rfl
  have e1 : (1 : Int32) = nI 1 := rfl
  have e2 : (2 : Int32) = nI 2 := rfl
  have e3 : (3 : Int32) = nI 3 := rfl
  have e4 : (4 : Int32) = nI 4 := rfl
  have e9 : (9 : Int32) = nI 9 := rfl
  have em : (-1 : Int32) = zAw := rfl
  have ea : nI 0 + nI 1 = nI 1 := rfl
  have hh' : (M_heaps = zAw) = False := eq_false hh
  have q0 : (nI 0 = nI 0) = True := eq_self _
  have q1 : (nI 0 = nI 1) = False := eq_false (by decide)
  have q2 : (nI 0 = nI 2) = False := eq_false (by decide)
  have q3 : (nI 0 = nI 3) = False := eq_false (by decide)
  have c0 : (nI 1 = nI 0) = False := eq_false (by decide)
  have c1 : (nI 1 = nI 1) = True := eq_self _
  have g2 : (nI 2 ≤ nI 0) = False := eq_false (by decide)
  rw [em]
  simp only [e0, e1, e2, e3, e4, e9, ea, q0, q1, q2, q3, c0, c1, g2, if_true, if_false, zbs, hh']
  rw [sX10_isIn, hd, zbs, if_neg (show ¬ zb01 true = nI 0 from z10), sX10_isIn, zbs]
theorem sX10_set_1 (fuel : Nat) (M_guests : Int32) (M_kind : Nat → Int32) (M_figure : Nat → Int32) (M_heaps : Int32) (M_holds : Int32) (M_back : Int32) (M_mistakes : Int32) (M_hooks : Int32) (M_letters : Int32) (p1 : Int32) (p2 : Int32) (h : p1 = nI 1) (hh : ¬ M_holds = zAw) : fX10_set fuel M_guests M_kind M_figure M_heaps M_holds M_back M_mistakes M_hooks M_letters p1 p2 = if zb01 (decide (nI 1 ≤ p2 ∧ p2 ≤ nI 9)) = nI 0 then some (zAw, M_heaps, M_holds, M_back, M_mistakes) else some (M_holds, M_heaps, p2, M_back, M_mistakes) := by
  subst h
  unfold fX10_set fX10_count
  have hd : decide (nI 0 ≤ nI 1 ∧ nI 1 ≤ nI 3) = true := by decide
  have e0 : (0 : Int32) = nI 0 := rfl
  have e1 : (1 : Int32) = nI 1 := rfl
  have e2 : (2 : Int32) = nI 2 := rfl
  have e3 : (3 : Int32) = nI 3 := rfl
  have e4 : (4 : Int32) = nI 4 := rfl
  have e9 : (9 : Int32) = nI 9 := rfl
  have em : (-1 : Int32) = zAw := rfl
  have ea : nI 1 + nI 1 = nI 2 := rfl
  have hh' : (M_holds = zAw) = False := eq_false hh
  have q0 : (nI 1 = nI 0) = False := eq_false (by decide)
  have q1 : (nI 1 = nI 1) = True := eq_self _
  have q2 : (nI 1 = nI 2) = False := eq_false (by decide)
  have q3 : (nI 1 = nI 3) = False := eq_false (by decide)
  have c0 : (nI 2 = nI 0) = False := eq_false (by decide)
  have c1 : (nI 2 = nI 1) = False := eq_false (by decide)
  have c2 : (nI 2 = nI 2) = True := eq_self _
  have g2 : (nI 2 ≤ nI 1) = False := eq_false (by decide)
  rw [em]
  simp only [e0, e1, e2, e3, e4, e9, ea, q0, q1, q2, q3, c0, c1, c2, g2, if_true, if_false, zbs, hh']
  rw [sX10_isIn, hd, zbs, if_neg (show ¬ zb01 true = nI 0 from z10), sX10_isIn, zbs]
theorem sX10_set_2 (fuel : Nat) (M_guests : Int32) (M_kind : Nat → Int32) (M_figure : Nat → Int32) (M_heaps : Int32) (M_holds : Int32) (M_back : Int32) (M_mistakes : Int32) (M_hooks : Int32) (M_letters : Int32) (p1 : Int32) (p2 : Int32) (h : p1 = nI 2) (hh : ¬ M_back = zAw) : fX10_set fuel M_guests M_kind M_figure M_heaps M_holds M_back M_mistakes M_hooks M_letters p1 p2 = if zb01 (decide (nI 0 ≤ p2 ∧ p2 ≤ nI 2)) = nI 0 then some (zAw, M_heaps, M_holds, M_back, M_mistakes) else some (M_back, M_heaps, M_holds, p2, M_mistakes) := by
  subst h
  unfold fX10_set fX10_count
  have hd : decide (nI 0 ≤ nI 2 ∧ nI 2 ≤ nI 3) = true := by decide
  have e0 : (0 : Int32) = nI 0 := rfl
  have e1 : (1 : Int32) = nI 1 := rfl
  have e2 : (2 : Int32) = nI 2 := rfl
  have e3 : (3 : Int32) = nI 3 := rfl
  have e4 : (4 : Int32) = nI 4 := rfl
  have e9 : (9 : Int32) = nI 9 := rfl
  have em : (-1 : Int32) = zAw := rfl
  have ea : nI 2 + nI 1 = nI 3 := rfl
  have hh' : (M_back = zAw) = False := eq_false hh
  have q0 : (nI 2 = nI 0) = False := eq_false (by decide)
  have q1 : (nI 2 = nI 1) = False := eq_false (by decide)
  have q2 : (nI 2 = nI 2) = True := eq_self _
  have q3 : (nI 2 = nI 3) = False := eq_false (by decide)
  have c0 : (nI 3 = nI 0) = False := eq_false (by decide)
  have c1 : (nI 3 = nI 1) = False := eq_false (by decide)
  have c2 : (nI 3 = nI 2) = False := eq_false (by decide)
  have c3 : (nI 3 = nI 3) = True := eq_self _
  have g2 : (nI 2 ≤ nI 2) = True := eq_true (by decide)
  rw [em]
  simp only [e0, e1, e2, e3, e4, e9, ea, q0, q1, q2, q3, c0, c1, c2, c3, g2, if_true, if_false, zbs, hh']
  rw [sX10_isIn, hd, zbs, if_neg (show ¬ zb01 true = nI 0 from z10), sX10_isIn, zbs]
theorem sX10_set_3 (fuel : Nat) (M_guests : Int32) (M_kind : Nat → Int32) (M_figure : Nat → Int32) (M_heaps : Int32) (M_holds : Int32) (M_back : Int32) (M_mistakes : Int32) (M_hooks : Int32) (M_letters : Int32) (p1 : Int32) (p2 : Int32) (h : p1 = nI 3) (hh : ¬ M_mistakes = zAw) : fX10_set fuel M_guests M_kind M_figure M_heaps M_holds M_back M_mistakes M_hooks M_letters p1 p2 = if zb01 (decide (nI 0 ≤ p2 ∧ p2 ≤ nI 1)) = nI 0 then some (zAw, M_heaps, M_holds, M_back, M_mistakes) else some (M_mistakes, M_heaps, M_holds, M_back, p2) := by
  subst h
  unfold fX10_set fX10_count
  have hd : decide (nI 0 ≤ nI 3 ∧ nI 3 ≤ nI 3) = true := by decide
  have e0 : (0 : Int32) = nI 0 := rfl
  have e1 : (1 : Int32) = nI 1 := rfl
  have e2 : (2 : Int32) = nI 2 := rfl
  have e3 : (3 : Int32) = nI 3 := rfl
  have e4 : (4 : Int32) = nI 4 := rfl
  have e9 : (9 : Int32) = nI 9 := rfl
  have em : (-1 : Int32) = zAw := rfl
  have ea : nI 3 + nI 1 = nI 4 := rfl
  have hh' : (M_mistakes = zAw) = False := eq_false hh
  have q0 : (nI 3 = nI 0) = False := eq_false (by decide)
  have q1 : (nI 3 = nI 1) = False := eq_false (by decide)
  have q2 : (nI 3 = nI 2) = False := eq_false (by decide)
  have q3 : (nI 3 = nI 3) = True := eq_self _
  have c0 : (nI 4 = nI 0) = False := eq_false (by decide)
  have c1 : (nI 4 = nI 1) = False := eq_false (by decide)
  have c2 : (nI 4 = nI 2) = False := eq_false (by decide)
  have c3 : (nI 4 = nI 3) = False := eq_false (by decide)
  have c4 : (nI 4 = nI 4) = True := eq_self _
  have g2 : (nI 2 ≤ nI 3) = True := eq_true (by decide)
  rw [em]
  simp only [e0, e1, e2, e3, e4, e9, ea, q0, q1, q2, q3, c0, c1, c2, c3, c4, g2, if_true, if_false, zbs, hh']
  rw [sX10_isIn, hd, zbs, if_neg (show ¬ zb01 true = nI 0 from z10), sX10_isIn, zbs]
theorem allows_w {fuel w : Nat} (hw : w < 4) (p : Int32) : fX5_allows fuel (nI w) p = if p < zLeast w then some 0 else if zMost w < p then some 0 else some 1 := by
  unfold fX5_allows
  have hc : (nI w).toNatClampNeg = w := nI_clamp (by omega)
  have hz : zin (nI w) 4 = true := by rw [zin_nI (by omega)]; exact decide_eq_true hw
  have e0 : (0 : Int32) = nI 0 := rfl
  have e4 : (4 : Int32) = nI 4 := rfl
  rw [hc, hz, zgt, e0, e4, if_neg (show ¬ nI w < nI 0 by rw [nI_ltI (by omega) (by decide)]; omega), if_neg (show ¬ nI 4 ≤ nI w by rw [nI_leI (by decide) (by omega)]; omega)]
theorem set_rng {p : Int32} {a b : Nat} (ha : a < 2 ^ 31) (hb : b < 2 ^ 31) : ((if p < nI a then some (0 : Int32) else if nI b < p then some 0 else some 1) = some (nI 0) ∧ decide (nI a ≤ p ∧ p ≤ nI b) = false) ∨ ((if p < nI a then some (0 : Int32) else if nI b < p then some 0 else some 1) = some (nI 1) ∧ decide (nI a ≤ p ∧ p ≤ nI b) = true ∧ ∃ v, a ≤ v ∧ v ≤ b ∧ p = nI v) := by
  rcases icase p with h | ⟨v, hv, rfl⟩
  · left
    refine ⟨by rw [if_pos (by rw [(zneg h).2.2.1 a ha]; trivial)]; rfl, decide_eq_false (fun q => by rw [(zneg h).1 a ha] at q; exact q.1)⟩
  · by_cases q1 : v < a
    · left
      exact ⟨by rw [if_pos ((nI_ltI hv ha).mpr q1)]; rfl, decide_eq_false (fun q => by have := (nI_leI ha hv).mp q.1; omega)⟩
    · rw [if_neg (fun q => q1 ((nI_ltI hv ha).mp q))]
      by_cases q2 : b < v
      · left
        exact ⟨by rw [if_pos ((nI_ltI hb hv).mpr q2)]; rfl, decide_eq_false (fun q => by have := (nI_leI hv hb).mp q.2; omega)⟩
      · right
        exact ⟨by rw [if_neg (fun q => q2 ((nI_ltI hb hv).mp q))]; rfl, decide_eq_true ⟨(nI_leI ha hv).mpr (by omega), (nI_leI hv hb).mpr (by omega)⟩, v, by omega, by omega, rfl⟩
