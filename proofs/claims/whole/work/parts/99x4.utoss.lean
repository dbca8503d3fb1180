theorem u_toss (fuel : Nat) {s_holds s_kind s_figure s_sort s_size : Nat → Int32} {s_el : Nat → Nat → Int32} {M_held M_kindOn M_figureOn M_sorts M_size M_items : Nat → Int32} (p1 : Int32) (hs : cSH s_holds s_kind s_figure s_sort s_size s_el M_held M_kindOn M_figureOn M_sorts M_size M_items) : ∃ o, fX9_toss fuel s_holds s_kind s_figure p1 = some o ∧ fX10_toss fuel M_held M_kindOn M_figureOn p1 = some o := by
  have e0 : (0 : Int32) = nI 0 := rfl
  have e1 : (1 : Int32) = nI 1 := rfl
  unfold fX9_toss fX10_toss
  rw [e0, e1]
  rcases shcase (fuel := fuel) p1 with ⟨d, hd, rfl, a1, a2⟩ | ⟨a1, a2⟩
  · have hz : zin (nI d) 8 = true := by rw [zin_nI (by omega)]; exact decide_eq_true hd
    have hcl : (nI d).toNatClampNeg = d := nI_clamp (by omega)
    obtain ⟨h, h2, h3, h4, h5, h6⟩ := hs d hd
    rw [a2, sX9_refusalOf hd h3 h2 (by omega) a1, zbs, zbs, if_neg z10, hz, zgt, zgt, hcl, h4]
    rcases (show h = 0 ∨ h = 1 ∨ h = 2 by omega) with rfl | rfl | rfl
    · exact ⟨_, rfl, rfl⟩
    · obtain ⟨k, f, k1, k2, k3, k4, k5, k6⟩ := h5 rfl
      unfold fX10_costOn fX10_toss_J94
      rw [hz, zgt, zgt, hcl, k3, k4, k5, k6, zl, zl]
      unfold fX1_isBlack fX1_price
      rcases (show f = 0 ∨ ¬ f = 0 by omega) with rfl | hf
      · rcases (show k = 0 ∨ k = 1 ∨ k = 2 ∨ k = 3 ∨ k = 4 ∨ k = 5 ∨ k = 6 ∨ k = 7 by omega) with rfl | rfl | rfl | rfl | rfl | rfl | rfl | rfl <;> exact ⟨_, rfl, rfl⟩
      · have hf0 : ¬ nI f = nI 0 := fun q => hf ((nI_eq (by omega) (by decide)).mp q)
        rcases (show k = 0 ∨ k = 1 ∨ k = 2 ∨ k = 3 ∨ k = 4 ∨ k = 5 ∨ k = 6 ∨ k = 7 by omega) with rfl | rfl | rfl | rfl | rfl | rfl | rfl | rfl
        all_goals simp (decide := true) only [if_pos, if_neg, if_true, if_false, zbs, zl, hf0, or_false, false_or, or_self]
        all_goals exact ⟨_, rfl, rfl⟩
    · exact ⟨_, rfl, rfl⟩
  · unfold fX9_refusalOf
    rw [a1, a2, zbs, zbs, e0, if_pos z00, if_pos z00, zbs, if_neg (show ¬ (-1 : Int32) = nI 0 by decide)]
    exact ⟨_, rfl, rfl⟩
theorem u_element (fuel : Nat) {s_holds s_kind s_figure s_sort s_size : Nat → Int32} {s_el : Nat → Nat → Int32} {M_held M_kindOn M_figureOn M_sorts M_size M_items : Nat → Int32} (M_thrown p1 p2 : Int32) (hs : cSH s_holds s_kind s_figure s_sort s_size s_el M_held M_kindOn M_figureOn M_sorts M_size M_items) : ∃ o q, fX9_element fuel s_holds s_size s_el p1 p2 = some o ∧ fX10_element fuel M_held M_size M_items M_thrown p1 p2 = some q ∧ o.1 = q.2 ∧ (o.1 = 0 → o.2 = q.1) := by
  have e0 : (0 : Int32) = nI 0 := rfl
  have e1 : (1 : Int32) = nI 1 := rfl
  have e2 : (2 : Int32) = nI 2 := rfl
  have e100 : (100 : Int32) = nI 100 := rfl
  unfold fX9_element fX10_element
  rw [e0, e1, e2, e100]
  rcases shcase (fuel := fuel) p1 with ⟨d, hd, rfl, a1, a2⟩ | ⟨a1, a2⟩
  · have hz : zin (nI d) 8 = true := by rw [zin_nI (by omega)]; exact decide_eq_true hd
    have hcl : (nI d).toNatClampNeg = d := nI_clamp (by omega)
    obtain ⟨h, h2, h3, h4, h5, h6⟩ := hs d hd
    rw [a1, a2, zbs, zbs, if_neg z10, if_neg z10, sX9_refusalOf hd h3 h2 (by omega) a1, zbs, hz, zgt, zgt, hcl, h4]
    rcases (show h = 0 ∨ h = 1 ∨ h = 2 by omega) with rfl | rfl | rfl
    · exact ⟨_, _, rfl, rfl, rfl, fun h => absurd h (by decide)⟩
    · exact ⟨_, _, rfl, rfl, rfl, fun h => absurd h (by decide)⟩
    · obtain ⟨s, n, k1, k2, k3, k4, k5, k6, k7⟩ := h6 rfl
      have e9 : nI n - nI 1 = ixm n := rfl
      rw [if_neg (show ¬ 2 = 0 by omega), if_pos rfl, if_pos z00, if_pos (show nI 2 = nI 2 from rfl), k6, e9, sX10_isIn, zbs]
      have hdd : decide (nI 0 ≤ p2 ∧ p2 ≤ ixm n) = decide (nI 0 ≤ p2 ∧ p2 < nI n) := decide_eq_decide.mpr (by rw [ixm_ge' (by omega)])
      rw [hdd]
      unfold fX7_hasPlace
      rw [e0, e1, k5]
      rcases icase p2 with hp | ⟨i, hi, rfl⟩
      · have : decide (nI 0 ≤ p2 ∧ p2 < nI n) = false := decide_eq_false (fun q => by rw [(zneg hp).1 0 (by decide)] at q; exact q.1)
        rw [if_pos hp, this, zbs, if_pos z00, if_pos (show zb01 false = nI 0 from rfl)]
        exact ⟨_, _, rfl, rfl, rfl, fun h => absurd h (by decide)⟩
      · rw [if_neg (show ¬ nI i < nI 0 by rw [nI_ltI hi (by decide)]; omega)]
        by_cases q : n ≤ i
        · have : decide (nI 0 ≤ nI i ∧ nI i < nI n) = false := decide_eq_false (fun h => by have := (nI_ltI hi (by omega)).mp h.2; omega)
          rw [if_pos ((nI_leI (by omega) hi).mpr q), this, zbs, if_pos z00, if_pos (show zb01 false = nI 0 from rfl)]
          exact ⟨_, _, rfl, rfl, rfl, fun h => absurd h (by decide)⟩
        · have : decide (nI 0 ≤ nI i ∧ nI i < nI n) = true := decide_eq_true ⟨(nI_leI (by decide) hi).mpr (Nat.zero_le _), (nI_ltI hi (by omega)).mpr (by omega)⟩
          rw [if_neg (fun h => q ((nI_leI (by omega) hi).mp h)), this, zbs, if_neg z10, if_neg (show ¬ zb01 true = nI 0 from z10), if_pos z00]
          have hz1 : zin (nI i) 100 = true := by rw [zin_nI hi]; exact decide_eq_true (by omega)
          have hz2 : zin (nI 100 * nI d + nI i) 800 = true := by rw [pk_mul, nI_add, zin_nI (by omega)]; exact decide_eq_true (by omega)
          have hc1 : (nI i).toNatClampNeg = i := nI_clamp hi
          have hc2 : (nI 100 * nI d + nI i).toNatClampNeg = 100 * d + i := by rw [pk_mul, nI_add, nI_clamp (by omega)]
          rw [hz1, hz2, hc1, hc2, zgt, zgt, k7 i (by omega)]
          exact ⟨_, _, rfl, rfl, rfl, fun _ => rfl⟩
  · rw [a1, a2, zbs, zbs, if_pos z00, if_pos z00]
    exact ⟨_, _, rfl, rfl, rfl, fun h => absurd h (by decide)⟩
