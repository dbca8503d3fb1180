/-! The shelves: put, row, copy, comes. -/
theorem sub_toI {a b : Nat} (ha : a < 2 ^ 31) (hb : b < 2 ^ 31) : (nI a - nI b).toInt = (a : Int) - b := by
  rw [Int32.toInt_sub, nI_toInt ha, nI_toInt hb]
  rw [Int.bmod_def]
  split <;> omega
theorem sub_lt' {s i n : Nat} (hs : s < 2 ^ 31) (hi : i < 2 ^ 31) (hn : n < 2 ^ 31) : (nI s - nI i < nI n) = (s < n + i) := by
  rw [Int32.lt_iff_toInt_lt, sub_toI hs hi, nI_toInt hn]
  exact propext ⟨fun h => by omega, fun h => by omega⟩
theorem le_sub' {s i n : Nat} (hs : s < 2 ^ 31) (hi : i < 2 ^ 31) (hn : n < 2 ^ 31) : (nI n ≤ nI s - nI i) = (n + i ≤ s) := by
  rw [Int32.le_iff_toInt_le, sub_toI hs hi, nI_toInt hn]
  exact propext ⟨fun h => by omega, fun h => by omega⟩
/-- a number is written, in one row -/
theorem sh_put {d i : Nat} {v : Int32} (s_holds s_kind s_figure s_sort s_size : Nat → Int32) (s_el : Nat → Nat → Int32) (M_held M_kindOn M_figureOn M_sorts M_size M_items : Nat → Int32) (hi : i < 100) (hs : cSH s_holds s_kind s_figure s_sort s_size s_el M_held M_kindOn M_figureOn M_sorts M_size M_items) : cSH s_holds s_kind s_figure s_sort s_size (va_up s_el d (upd (s_el d) i v)) M_held M_kindOn M_figureOn M_sorts M_size (upd M_items (100 * d + i) v) := by
  intro x hx
  obtain ⟨h, h2, h3, h4, h5, h6⟩ := hs x hx
  refine ⟨h, h2, h3, h4, h5, fun h1 => ?_⟩
  obtain ⟨s, n, k1, k2, k3, k4, k5, k6, k7⟩ := h6 h1
  refine ⟨s, n, k1, k2, k3, k4, k5, k6, fun j hj => ?_⟩
  unfold va_up upd
  by_cases q : x = d
  · subst q
    simp only [if_true]
    by_cases q2 : j = i
    · rw [if_pos q2, if_pos (by omega)]
    · rw [if_neg q2, if_neg (by omega)]; exact k7 j hj
  · rw [if_neg q, if_neg (by omega)]; exact k7 j hj
theorem u_put (fuel : Nat) (s_holds : Nat → Int32) (s_sort : Nat → Int32) (s_size : Nat → Int32) (s_el : Nat → Nat → Int32) (p1 : Int32) (p2 : Int32) (p3 : Int32) (M_held : Nat → Int32) (M_sorts : Nat → Int32) (M_size : Nat → Int32) (M_items : Nat → Int32) (s_kind : Nat → Int32) (s_figure : Nat → Int32) (M_kindOn : Nat → Int32) (M_figureOn : Nat → Int32) (hs : cSH s_holds s_kind s_figure s_sort s_size s_el M_held M_kindOn M_figureOn M_sorts M_size M_items) : ∃ o p, fX9_put fuel s_holds s_sort s_size s_el p1 p2 p3 = some o ∧ fX10_put fuel M_held M_sorts M_size M_items p1 p2 p3 = some p ∧ o.1 = p.1 ∧ cSH s_holds s_kind s_figure s_sort s_size o.2 M_held M_kindOn M_figureOn M_sorts M_size p.2 := by
  have e0 : (0 : Int32) = nI 0 := rfl
  have e1 : (1 : Int32) = nI 1 := rfl
  have e2 : (2 : Int32) = nI 2 := rfl
  have e100 : (100 : Int32) = nI 100 := rfl
  unfold fX9_put fX10_put
  rw [e0, e1, e2, e100]
  rcases shcase (fuel := fuel) p1 with ⟨d, hd, rfl, a1, a2⟩ | ⟨a1, a2⟩
  · have hz : zin (nI d) 8 = true := by rw [zin_nI (by omega)]; exact decide_eq_true hd
    have hcl : (nI d).toNatClampNeg = d := nI_clamp (by omega)
    obtain ⟨h, h2, h3, h4, h5, h6⟩ := hs d hd
    rw [a2, sX9_refusalOf hd h3 h2 (by omega) a1, zbs, zbs, if_neg z10, hz, zgt, zgt, hcl, h4]
    rcases (show h = 0 ∨ h = 1 ∨ h = 2 by omega) with rfl | rfl | rfl
    · exact ⟨_, _, rfl, rfl, rfl, hs⟩
    · exact ⟨_, _, rfl, rfl, rfl, hs⟩
    · obtain ⟨s, n, k1, k2, k3, k4, k5, k6, k7⟩ := h6 rfl
      have e9 : nI n - nI 1 = ixm n := rfl
      rw [if_neg (show ¬ 2 = 0 by omega), if_pos rfl, if_pos z00, if_pos (show nI 2 = nI 2 from rfl), k6, e9, sX10_isIn, zbs]
      have hdd : decide (nI 0 ≤ p2 ∧ p2 ≤ ixm n) = decide (nI 0 ≤ p2 ∧ p2 < nI n) := decide_eq_decide.mpr (by rw [ixm_ge' (by omega)])
      rw [hdd]
      unfold fX7_hasPlace
      rw [e0, e1, k5]
      rcases icase p2 with hp | ⟨i, hi, rfl⟩
      · have : decide (nI 0 ≤ p2 ∧ p2 < nI n) = false := decide_eq_false (fun q => by rw [(zneg hp).1 0 (by decide)] at q; exact q.1)
        rw [if_pos hp, this, zbs, if_pos z00, if_pos (show zb01 false = nI 0 from rfl)]
        exact ⟨_, _, rfl, rfl, rfl, hs⟩
      · rw [if_neg (show ¬ nI i < nI 0 by rw [nI_ltI hi (by decide)]; omega)]
        by_cases q : n ≤ i
        · have : decide (nI 0 ≤ nI i ∧ nI i < nI n) = false := decide_eq_false (fun h => by have := (nI_ltI hi (by omega)).mp h.2; omega)
          rw [if_pos ((nI_leI (by omega) hi).mpr q), this, zbs, if_pos z00, if_pos (show zb01 false = nI 0 from rfl)]
          exact ⟨_, _, rfl, rfl, rfl, hs⟩
        · have : decide (nI 0 ≤ nI i ∧ nI i < nI n) = true := decide_eq_true ⟨(nI_leI (by decide) hi).mpr (Nat.zero_le _), (nI_ltI hi (by omega)).mpr (by omega)⟩
          rw [if_neg (fun h => q ((nI_leI (by omega) hi).mp h)), this, zbs, if_neg z10, if_neg (show ¬ zb01 true = nI 0 from z10)]
          unfold fX7_cutToSort
          rw [k3, k4, e0, e1]
          have hz1 : zin (nI i) 100 = true := by rw [zin_nI hi]; exact decide_eq_true (by omega)
          have hz2 : zin (nI 100 * nI d + nI i) 800 = true := by rw [pk_mul, nI_add, zin_nI (by omega)]; exact decide_eq_true (by omega)
          have hc1 : (nI i).toNatClampNeg = i := nI_clamp hi
          have hc2 : (nI 100 * nI d + nI i).toNatClampNeg = 100 * d + i := by rw [pk_mul, nI_add, nI_clamp (by omega)]
          rw [hz1, hz2, hc1, hc2]
          rcases (show s = 0 ∨ s = 1 ∨ s = 2 by omega) with rfl | rfl | rfl
          · exact ⟨_, _, rfl, rfl, rfl, sh_put _ _ _ _ _ _ _ _ _ _ _ _ (by omega) hs⟩
          · exact ⟨_, _, rfl, rfl, rfl, sh_put _ _ _ _ _ _ _ _ _ _ _ _ (by omega) hs⟩
          · exact ⟨_, _, rfl, rfl, rfl, sh_put _ _ _ _ _ _ _ _ _ _ _ _ (by omega) hs⟩
  · unfold fX9_refusalOf
    rw [a1, a2, zbs, zbs, e0, if_pos z00, if_pos z00, zbs, if_neg (show ¬ (-1 : Int32) = nI 0 by decide)]
    exact ⟨_, _, rfl, rfl, rfl, hs⟩
theorem sX7_becomeRow_L17 {d : Nat} {ho so sz : Nat → Int32} : ∀ (m n i : Nat) (el : Nat → Nat → Int32), i + m = 100 → m < n → ∃ e2, fX7_becomeRow_L17 d n (nI i) ho so sz el = some (ho, so, sz, e2) ∧ (∀ x, x ≠ d → e2 x = el x) ∧ ∀ j, e2 d j = if i ≤ j ∧ j < 100 then nI 0 else el d j := by
  intro m
  induction m with
  | zero =>
    intro n i el h1 h2
    obtain ⟨n, rfl⟩ : ∃ k, n = k + 1 := ⟨n - 1, by omega⟩
    rw [fX7_becomeRow_L17]
    refine ⟨el, ?_, fun _ _ => rfl, fun j => ?_⟩
    · simp (disch := omega) only [zlit, zz, if_pos, if_neg, if_true, if_false, zgd', zl, zbs, zbz, encz]
    · rw [if_neg (by omega)]
  | succ m ih =>
    intro n i el h1 h2
    obtain ⟨n, rfl⟩ : ∃ k, n = k + 1 := ⟨n - 1, by omega⟩
    rw [fX7_becomeRow_L17]
    obtain ⟨e2, f1, f2, f3⟩ := ih n (i + 1) (va_up el d (upd (el d) i (nI 0))) (by omega) (by omega)
    refine ⟨e2, ?_, fun x hx => ?_, fun j => ?_⟩
    · rw [← f1]
      simp (disch := omega) only [zlit, zz, if_pos, if_neg, if_true, if_false, zgd', zl, zbs, zbz, encz]
    · rw [f2 x hx]; simp [va_up, hx]
    · rw [f3 j]
      simp only [va_up, upd, if_true]
      repeat' split
      all_goals first | rfl | omega
theorem sX10_row_L55 {d : Nat} {ho so sz : Nat → Int32} (hd : d < 8) : ∀ (m n i : Nat) (it : Nat → Int32), i + m = 100 → m < n → ∃ e2, fX10_row_L55 (nI d) n (nI i) ho so sz it = some (nI 0, ho, so, sz, e2) ∧ ∀ j, e2 j = if 100 * d + i ≤ j ∧ j < 100 * d + 100 then nI 0 else it j := by
  intro m
  induction m with
  | zero =>
    intro n i it h1 h2
    obtain ⟨n, rfl⟩ : ∃ k, n = k + 1 := ⟨n - 1, by omega⟩
    rw [fX10_row_L55]
    refine ⟨it, ?_, fun j => ?_⟩
    · simp (disch := omega) only [zlit, zz, if_pos, if_neg, if_true, if_false, zgd', zl, zbs, zbz, encz]
    · rw [if_neg (by omega)]
  | succ m ih =>
    intro n i it h1 h2
    obtain ⟨n, rfl⟩ : ∃ k, n = k + 1 := ⟨n - 1, by omega⟩
    rw [fX10_row_L55]
    obtain ⟨e2, f1, f3⟩ := ih n (i + 1) (upd it (100 * d + i) (nI 0)) (by omega) (by omega)
    refine ⟨e2, ?_, fun j => ?_⟩
    · rw [← f1]
      simp (disch := omega) only [zlit, zz, if_pos, if_neg, if_true, if_false, zgd', zl, zbs, zbz, encz]
    · rw [f3 j]
      simp only [upd]
      repeat' split
      all_goals first | rfl | omega
theorem u_row (fuel : Nat) (s_holds : Nat → Int32) (s_sort : Nat → Int32) (s_size : Nat → Int32) (s_el : Nat → Nat → Int32) (p1 : Int32) (p2 : Int32) (p3 : Int32) (M_held : Nat → Int32) (M_sorts : Nat → Int32) (M_size : Nat → Int32) (M_items : Nat → Int32) (s_kind : Nat → Int32) (s_figure : Nat → Int32) (M_kindOn : Nat → Int32) (M_figureOn : Nat → Int32) (hf : 1000 < fuel) (hs : cSH s_holds s_kind s_figure s_sort s_size s_el M_held M_kindOn M_figureOn M_sorts M_size M_items) : ∃ o p, fX9_row fuel s_holds s_sort s_size s_el p1 p2 p3 = some o ∧ fX10_row fuel M_held M_sorts M_size M_items p1 p2 p3 = some p ∧ o.1 = p.1 ∧ cSH o.2.1 s_kind s_figure o.2.2.1 o.2.2.2.1 o.2.2.2.2 p.2.1 M_kindOn M_figureOn p.2.2.1 p.2.2.2.1 p.2.2.2.2 := by
  have e0 : (0 : Int32) = nI 0 := rfl
  have e2 : (2 : Int32) = nI 2 := rfl
  have e100 : (100 : Int32) = nI 100 := rfl
  unfold fX9_row fX10_row
  rw [e0, e2, e100]
  rcases shcase (fuel := fuel) p1 with ⟨d, hd, rfl, a1, a2⟩ | ⟨a1, a2⟩
  · have hz : zin (nI d) 8 = true := by rw [zin_nI (by omega)]; exact decide_eq_true hd
    have hcl : (nI d).toNatClampNeg = d := nI_clamp (by omega)
    rw [a1, a2, zbs, zbs, if_neg z10, if_neg z10, sX10_isIn, zbs]
    rcases icase p2 with hp | ⟨s, hs2, rfl⟩
    · have : decide (nI 0 ≤ p2 ∧ p2 ≤ nI 2) = false := decide_eq_false (fun q => by rw [(zneg hp).1 0 (by decide)] at q; exact q.1)
      rw [if_pos hp, this, if_pos (show zb01 false = nI 0 from rfl)]
      exact ⟨_, _, rfl, rfl, rfl, hs⟩
    · rw [if_neg (show ¬ nI s < nI 0 by rw [nI_ltI hs2 (by decide)]; omega)]
      by_cases qs : s ≤ 2
      · have : decide (nI 0 ≤ nI s ∧ nI s ≤ nI 2) = true := decide_eq_true ⟨(nI_leI (by decide) hs2).mpr (Nat.zero_le _), (nI_leI hs2 (by decide)).mpr qs⟩
        rw [if_neg (show ¬ nI 2 < nI s by rw [nI_ltI (by decide) hs2]; omega), this, if_neg (show ¬ zb01 true = nI 0 from z10)]
        by_cases q1 : p3 ≤ nI 100
        · rw [if_pos q1, if_pos q1]
          by_cases q3 : nI 0 ≤ p3
          · rw [if_pos q3, if_pos q3, hz, zgt, zgt, hcl]
            rcases icase p3 with hp | ⟨n, hn, rfl⟩
            · exact absurd q3 (by rw [(zneg hp).1 0 (by decide)]; exact id)
            · have hn100 := (nI_leI hn (by decide)).mp q1
              unfold fX7_becomeRow
              rw [zl, zl, zl, zl, zl, zl, e0, e2]
              obtain ⟨el2, f1, f2, f3⟩ := sX7_becomeRow_L17 (d := d) (ho := va_up s_holds d (nI 2)) (so := va_up s_sort d (nI s)) (sz := va_up s_size d (nI n)) 100 fuel 0 s_el (by omega) (by omega)
              obtain ⟨it2, g1, g2⟩ := sX10_row_L55 (d := d) (ho := upd M_held d (nI 2)) (so := upd M_sorts d (nI s)) (sz := upd M_size d (nI n)) hd 100 fuel 0 M_items (by omega) (by omega)
              rw [f1, g1, zbs]
              refine ⟨_, _, rfl, rfl, rfl, fun x hx => ?_⟩
              by_cases q : x = d
              · subst q
                refine ⟨2, by omega, by simp [va_up], by simp [upd], fun h => by omega, fun _ => ⟨s, n, qs, hn100, by simp [va_up], by simp [upd], by simp [va_up], by simp [upd], fun j hj => ?_⟩⟩
                show el2 x j = it2 (100 * x + j)
                rw [f3 j, g2, if_pos (by omega), if_pos (by omega)]
              · obtain ⟨h, h2, h3, h4, h5, h6⟩ := hs x hx
                refine ⟨h, h2, by simp [va_up, q, h3], by simp [upd, q, h4], h5, fun h1 => ?_⟩
                obtain ⟨s', n', k1, k2, k3, k4, k5, k6, k7⟩ := h6 h1
                refine ⟨s', n', k1, k2, by simp [va_up, q, k3], by simp [upd, q, k4], by simp [va_up, q, k5], by simp [upd, q, k6], fun j hj => ?_⟩
                show el2 x j = it2 (100 * x + j)
                rw [f2 x q, g2, if_neg (by omega)]
                exact k7 j hj
          · rw [if_neg q3, if_neg q3]
            exact ⟨_, _, rfl, rfl, rfl, hs⟩
        · rw [if_neg q1, if_neg q1]
          exact ⟨_, _, rfl, rfl, rfl, hs⟩
      · have : decide (nI 0 ≤ nI s ∧ nI s ≤ nI 2) = false := decide_eq_false (fun h => qs ((nI_leI hs2 (by decide)).mp h.2))
        rw [if_pos (show nI 2 < nI s by rw [nI_ltI (by decide) hs2]; omega), this, if_pos (show zb01 false = nI 0 from rfl)]
        exact ⟨_, _, rfl, rfl, rfl, hs⟩
  · rw [a1, a2, zbs, zbs, if_pos z00, if_pos z00]
    exact ⟨_, _, rfl, rfl, rfl, hs⟩
