/-! The shelves: keep, cost, put, comes. -/
/-- one shelf, as both hold it -/
def sh1 (d : Nat) (s_holds s_kind s_figure s_sort s_size : Nat → Int32) (s_el : Nat → Nat → Int32) (M_held M_kindOn M_figureOn M_sorts M_size M_items : Nat → Int32) : Prop :=
  ∃ h, h ≤ 2 ∧ s_holds d = nI h ∧ M_held d = nI h ∧ (h = 1 → ∃ k f, k ≤ 7 ∧ f ≤ 9 ∧ s_kind d = nI k ∧ M_kindOn d = nI k ∧ s_figure d = nI f ∧ M_figureOn d = nI f) ∧ (h = 2 → ∃ s n, s ≤ 2 ∧ n ≤ 100 ∧ s_sort d = nI s ∧ M_sorts d = nI s ∧ s_size d = nI n ∧ M_size d = nI n ∧ ∀ i, i < 100 → s_el d i = M_items (100 * d + i))
def cSH (s_holds s_kind s_figure s_sort s_size : Nat → Int32) (s_el : Nat → Nat → Int32) (M_held M_kindOn M_figureOn M_sorts M_size M_items : Nat → Int32) : Prop := ∀ d, d < 8 → sh1 d s_holds s_kind s_figure s_sort s_size s_el M_held M_kindOn M_figureOn M_sorts M_size M_items
theorem shcase {fuel : Nat} (p : Int32) : (∃ d, d < 8 ∧ p = nI d ∧ fX9_isShelf fuel p = some (nI 1) ∧ fX10_isShelf fuel p = some (nI 1)) ∨ (fX9_isShelf fuel p = some (nI 0) ∧ fX10_isShelf fuel p = some (nI 0)) := by
  have e0 : (0 : Int32) = nI 0 := rfl
  have e7 : (7 : Int32) = nI 7 := rfl
  unfold fX9_isShelf fX10_isShelf
  rw [sX10_isIn, e0, e7, zbs]
  rcases icase p with h | ⟨k, hk, rfl⟩
  · right
    have hd : decide (nI 0 ≤ p ∧ p ≤ nI 7) = false := decide_eq_false (fun q => by rw [(zneg h).1 0 (by decide)] at q; exact q.1)
    rw [if_pos h, hd]
    exact ⟨rfl, rfl⟩
  · by_cases q : k < 8
    · left
      have hd : decide (nI 0 ≤ nI k ∧ nI k ≤ nI 7) = true := decide_eq_true ⟨(nI_leI (by decide) hk).mpr (Nat.zero_le _), (nI_leI hk (by decide)).mpr (by omega)⟩
      refine ⟨k, q, rfl, ?_, ?_⟩
      · simp (disch := omega) only [zlit, zz, if_pos, if_neg, if_true, if_false, zgd', zl, zbs, zbz, encz]
      · rw [hd]; rfl
    · right
      have hd : decide (nI 0 ≤ nI k ∧ nI k ≤ nI 7) = false := decide_eq_false (fun h => by have := (nI_leI hk (by decide)).mp h.2; omega)
      refine ⟨?_, ?_⟩
      · simp (disch := omega) only [zlit, zz, if_pos, if_neg, if_true, if_false, zgd', zl, zbs, zbz, encz]
      · rw [hd]; rfl
theorem sX9_refusalOf {fuel d h w : Nat} {s_holds : Nat → Int32} (hd : d < 8) (hh : s_holds d = nI h) (h2 : h ≤ 2) (hw : w ≤ 2) (hsh : fX9_isShelf fuel (nI d) = some (nI 1)) : fX9_refusalOf fuel s_holds (nI d) (nI w) = some (if h = 0 then -11 else if h = w then nI 0 else -12) := by
  unfold fX9_refusalOf
  have e0 : (0 : Int32) = nI 0 := rfl
  rw [hsh, zbs, e0, if_neg z10]
  have hz : zin (nI d) 8 = true := by rw [zin_nI (by omega)]; exact decide_eq_true hd
  have hcl : (nI d).toNatClampNeg = d := nI_clamp (by omega)
  rw [hz, zgt, hcl, hh]
  by_cases q : h = 0
  · subst q; rfl
  · rw [if_neg (by rw [nI_eq (by omega) (by decide)]; exact q), if_neg q]
    by_cases q2 : h = w
    · rw [if_pos (by rw [q2]), if_pos q2]
    · rw [if_neg (by rw [nI_eq (by omega) (by omega)]; exact q2), if_neg q2]
theorem m11 : ¬ (-11 : Int32) = nI 0 := by decide
theorem m12 : ¬ (-12 : Int32) = nI 0 := by decide
theorem sX1_isKind {fuel : Nat} (p : Int32) : fX1_isKind fuel p = some (zb01 (decide (nI 0 ≤ p ∧ p ≤ nI 7))) := by
  unfold fX1_isKind
  rcases icase p with h | ⟨k, hk, rfl⟩
  · have : decide (nI 0 ≤ p ∧ p ≤ nI 7) = false := decide_eq_false (fun q => by rw [(zneg h).1 0 (by decide)] at q; exact q.1)
    rw [this]
    simp (disch := omega) only [zlit, zz, if_pos, if_neg, if_true, if_false, zgd', zl, zbs, zbz, encz, zneg h]
  · by_cases q : k ≤ 7
    · have : decide (nI 0 ≤ nI k ∧ nI k ≤ nI 7) = true := decide_eq_true ⟨(nI_leI (by decide) hk).mpr (Nat.zero_le _), (nI_leI hk (by decide)).mpr q⟩
      rw [this]
      simp (disch := omega) only [zlit, zz, if_pos, if_neg, if_true, if_false, zgd', zl, zbs, zbz, encz]
    · have : decide (nI 0 ≤ nI k ∧ nI k ≤ nI 7) = false := decide_eq_false (fun h => q ((nI_leI hk (by decide)).mp h.2))
      rw [this]
      simp (disch := omega) only [zlit, zz, if_pos, if_neg, if_true, if_false, zgd', zl, zbs, zbz, encz]
theorem u_keep (fuel : Nat) (s_holds : Nat → Int32) (s_kind : Nat → Int32) (s_figure : Nat → Int32) (s_size : Nat → Int32) (p1 : Int32) (p2 : Int32) (p3 : Int32) (p4 : Int32) (M_held : Nat → Int32) (M_kindOn : Nat → Int32) (M_figureOn : Nat → Int32) (s_sort : Nat → Int32) (s_el : Nat → Nat → Int32) (M_sorts : Nat → Int32) (M_size : Nat → Int32) (M_items : Nat → Int32) (hs : cSH s_holds s_kind s_figure s_sort s_size s_el M_held M_kindOn M_figureOn M_sorts M_size M_items) : ∃ o p, fX9_keep fuel s_holds s_kind s_figure s_size p1 p2 p3 p4 = some o ∧ fX10_keep fuel M_held M_kindOn M_figureOn p1 p2 p3 p4 = some p ∧ o.1 = p.1 ∧ cSH o.2.1 o.2.2.1 o.2.2.2.1 s_sort o.2.2.2.2 s_el p.2.1 p.2.2.1 p.2.2.2 M_sorts M_size M_items := by
  have e0 : (0 : Int32) = nI 0 := rfl
  have e1 : (1 : Int32) = nI 1 := rfl
  have e7 : (7 : Int32) = nI 7 := rfl
  have e9 : (9 : Int32) = nI 9 := rfl
  unfold fX9_keep fX10_keep
  rw [e0, e1, e7, e9]
  rcases shcase (fuel := fuel) p1 with ⟨d, hd, rfl, a1, a2⟩ | ⟨a1, a2⟩
  · rw [a1, a2, zbs, zbs, if_neg z10, if_neg z10]
    have hz : zin (nI d) 8 = true := by rw [zin_nI (by omega)]; exact decide_eq_true hd
    have hcl : (nI d).toNatClampNeg = d := nI_clamp (by omega)
    rcases fs_case (fuel := fuel) p2 with ⟨h01, b1, b2⟩ | ⟨b1, b2⟩
    · rw [b1, b2, zbs, zbs, if_neg z10, if_neg z10]
      rcases h01 with rfl | rfl
      · rw [if_pos z00, if_neg (show ¬ nI 0 = nI 1 by decide), hz, zgt, hcl]
        unfold fX7_becomeEmpty fX10_keep_J44
        rw [hz, zgt, hcl, zl, zl, zl, zl, zl, zbs]
        refine ⟨_, _, rfl, rfl, rfl, fun x hx => ?_⟩
        by_cases q : x = d
        · subst q
          exact ⟨0, by omega, by simp [va_up, e0], by simp [upd], fun h => by omega, fun h => by omega⟩
        · obtain ⟨h, h2, h3, h4, h5, h6⟩ := hs x hx
          refine ⟨h, h2, by simp [va_up, q, h3], by simp [upd, q, h4], fun h1 => ?_, fun h1 => ?_⟩
          · obtain ⟨k, f, k1, k2, k3, k4, k5, k6⟩ := h5 h1
            exact ⟨k, f, k1, k2, k3, by simp [upd, q, k4], k5, by simp [upd, q, k6]⟩
          · obtain ⟨s, n, k1, k2, k3, k4, k5, k6, k7⟩ := h6 h1
            exact ⟨s, n, k1, k2, k3, k4, by simp [va_up, q, k5], k6, k7⟩
      · rw [if_neg z10, if_pos (show nI 1 = nI 1 from rfl), sX1_isKind, sX10_isIn, zbs, zbs]
        rcases bcase (p := p3) (m := 7) (by decide) with ⟨k, hk, rfl, hdk⟩ | hdk
        · rw [hdk]
          have ht : ¬ zb01 true = nI 0 := z10
          rw [if_neg ht, if_neg ht, sX10_isIn, zbs]
          rcases icase p4 with h | ⟨f, hf, rfl⟩
          · have : decide (nI 0 ≤ p4 ∧ p4 ≤ nI 9) = false := decide_eq_false (fun q => by rw [(zneg h).1 0 (by decide)] at q; exact q.1)
            rw [if_pos h, this, if_pos (show zb01 false = nI 0 from rfl)]
            exact ⟨_, _, rfl, rfl, rfl, hs⟩
          · rw [if_neg (by rw [nI_ltI hf (by decide)]; omega)]
            by_cases q9 : f ≤ 9
            · have : decide (nI 0 ≤ nI f ∧ nI f ≤ nI 9) = true := decide_eq_true ⟨(nI_leI (by decide) hf).mpr (Nat.zero_le _), (nI_leI hf (by decide)).mpr q9⟩
              rw [if_pos ((nI_leI hf (by decide)).mpr q9), this, if_neg ht, hz, zgt, hcl]
              unfold fX7_becomeCoat fX10_keep_J44
              rw [hz, zgt, hcl, zl, zl, zl, zl, zl, zl, zl, zbs]
              refine ⟨_, _, rfl, rfl, rfl, fun x hx => ?_⟩
              by_cases q : x = d
              · subst q
                refine ⟨1, by omega, by simp [va_up, e1], by simp [upd], fun _ => ⟨k, f, hk, q9, by simp [va_up], by simp [upd], by simp [va_up], by simp [upd]⟩, fun h => by omega⟩
              · obtain ⟨h, h2, h3, h4, h5, h6⟩ := hs x hx
                refine ⟨h, h2, by simp [va_up, q, h3], by simp [upd, q, h4], fun h1 => ?_, fun h1 => ?_⟩
                · obtain ⟨k, f, k1, k2, k3, k4, k5, k6⟩ := h5 h1
                  exact ⟨k, f, k1, k2, by simp [va_up, q, k3], by simp [upd, q, k4], by simp [va_up, q, k5], by simp [upd, q, k6]⟩
                · obtain ⟨s, n, k1, k2, k3, k4, k5, k6, k7⟩ := h6 h1
                  exact ⟨s, n, k1, k2, k3, k4, by simp [va_up, q, k5], k6, k7⟩
            · have : decide (nI 0 ≤ nI f ∧ nI f ≤ nI 9) = false := decide_eq_false (fun h => q9 ((nI_leI hf (by decide)).mp h.2))
              rw [if_neg (fun h => q9 ((nI_leI hf (by decide)).mp h)), this, if_pos (show zb01 false = nI 0 from rfl)]
              exact ⟨_, _, rfl, rfl, rfl, hs⟩
        · rw [hdk]
          have ht : zb01 false = nI 0 := rfl
          rw [if_pos ht, if_pos ht]
          exact ⟨_, _, rfl, rfl, rfl, hs⟩
    · rw [b1, b2, zbs, zbs, if_pos z00, if_pos z00]
      exact ⟨_, _, rfl, rfl, rfl, hs⟩
  · rw [a1, a2, zbs, zbs, if_pos z00, if_pos z00]
    exact ⟨_, _, rfl, rfl, rfl, hs⟩
theorem u_cost (fuel : Nat) (s_holds : Nat → Int32) (s_kind : Nat → Int32) (s_figure : Nat → Int32) (p1 : Int32) (M_held : Nat → Int32) (M_kindOn : Nat → Int32) (M_figureOn : Nat → Int32) (s_sort : Nat → Int32) (s_size : Nat → Int32) (s_el : Nat → Nat → Int32) (M_sorts : Nat → Int32) (M_size : Nat → Int32) (M_items : Nat → Int32) (hs : cSH s_holds s_kind s_figure s_sort s_size s_el M_held M_kindOn M_figureOn M_sorts M_size M_items) : ∃ o p, fX9_cost fuel s_holds s_kind s_figure p1 = some o ∧ fX10_cost fuel M_held M_kindOn M_figureOn p1 = some p ∧ o = p := by
  have e0 : (0 : Int32) = nI 0 := rfl
  have e1 : (1 : Int32) = nI 1 := rfl
  unfold fX9_cost fX10_cost
  rw [e0, e1]
  rcases shcase (fuel := fuel) p1 with ⟨d, hd, rfl, a1, a2⟩ | ⟨a1, a2⟩
  · have hz : zin (nI d) 8 = true := by rw [zin_nI (by omega)]; exact decide_eq_true hd
    have hcl : (nI d).toNatClampNeg = d := nI_clamp (by omega)
    obtain ⟨h, h2, h3, h4, h5, h6⟩ := hs d hd
    rw [a2, sX9_refusalOf hd h3 h2 (by omega) a1, zbs, zbs, if_neg z10, hz, zgt, zgt, hcl, h4]
    rcases (show h = 0 ∨ h = 1 ∨ h = 2 by omega) with rfl | rfl | rfl
    · exact ⟨_, _, rfl, rfl, rfl⟩
    · obtain ⟨k, f, k1, k2, k3, k4, k5, k6⟩ := h5 rfl
      unfold fX10_costOn
      rw [hz, zgt, hcl, k3, k4, k5, k6, zl, zl]
      have hpr : ∃ v, fX1_price fuel (nI k) (nI f) = some v ∧ (if nI k = 1 then some 24 else if nI k = 2 then some (4 + nI f) else if nI k = 3 then some 7 else if nI k = 4 then some (2 * (4 + nI f)) else if nI k = 5 then some 2 else if nI k = 6 then some (7 + nI f) else if nI k = 7 then some 3 else some 4) = some v := by
        unfold fX1_price
        rw [zl]
        repeat' split
        all_goals exact ⟨_, rfl, rfl⟩
      obtain ⟨v, v1, v2⟩ := hpr
      refine ⟨v, v, ?_, ?_, rfl⟩
      · show (fX1_price fuel (nI k) (nI f)).bind _ = _
        rw [v1]; rfl
      · show (if nI k = 1 then _ else _ : Option Int32).bind _ = _
        rw [v2]; rfl
    · exact ⟨_, _, rfl, rfl, rfl⟩
  · unfold fX9_refusalOf
    rw [a1, a2, zbs, zbs, e0, if_pos z00, if_pos z00, zbs, if_neg (show ¬ (-1 : Int32) = nI 0 by decide)]
    exact ⟨_, _, rfl, rfl, rfl⟩
