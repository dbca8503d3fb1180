/-! The class: all are laid, from the beginning; the model: the same. -/
theorem sX0_clear_L15 (fuel : Nat) (hf : 100 < fuel) (heaps : Int32) (sps : Nat → Int32) : ∀ (m n i : Nat) (hts : Nat → Int32), i + m = 3 → m < n → fX0_clear_L15 fuel n (nI i) heaps hts sps = some (heaps, (fun j => if i ≤ j ∧ j < 3 then nI 0 else hts j), fun j => if 0 ≤ j ∧ j < 10 then zAw else sps j) := by
  intro m
  induction m with
  | zero =>
    intro n i hts h1 h2
    obtain ⟨n, rfl⟩ : ∃ k, n = k + 1 := ⟨n - 1, by omega⟩
    rw [fX0_clear_L15]
    simp (disch := omega) only [zlit, zz, if_pos, fX0_clear_J33]
    rw [sX0_clear_L35 heaps hts 10 fuel 0 sps (by omega) (by omega)]
    congr 3
    funext j
    rw [if_neg (by omega)]
  | succ m ih =>
    intro n i hts h1 h2
    obtain ⟨n, rfl⟩ : ∃ k, n = k + 1 := ⟨n - 1, by omega⟩
    rw [fX0_clear_L15]
    simp (disch := omega) only [zlit, zz, if_neg, zgd', zl]
    rw [ih n (i + 1) _ (by omega) (by omega)]
    congr 3
    funext j
    unfold upd
    repeat' split
    all_goals first | rfl | omega
theorem sX0_clear {fuel hp : Nat} (hf : 100 < fuel) (h1 : 0 < hp) (h2 : hp ≤ 3) (heaps : Int32) (hts sps : Nat → Int32) : fX0_clear fuel heaps hts sps (nI hp) = some (nI hp, (fun j => if 0 ≤ j ∧ j < 3 then nI 0 else hts j), fun j => if 0 ≤ j ∧ j < 10 then zAw else sps j) := by
  unfold fX0_clear
  have e1 : zmin (nI hp) 3 = nI hp := by
    unfold zmin
    rw [show (3 : Int32) = nI 3 from rfl, if_neg (by rw [nI_ltI (by omega) (by omega)]; omega)]
  have e2 : zmax 1 (nI hp) = nI hp := by
    unfold zmax
    rw [show (1 : Int32) = nI 1 from rfl]
    by_cases q : hp = 1
    · subst q; rfl
    · rw [if_pos (by rw [nI_ltI (by omega) (by omega)]; omega)]
  rw [e1, zl, e2, zl]
  exact sX0_clear_L15 fuel hf _ _ 3 fuel 0 _ (by omega) (by omega)
theorem sX2_layAll {fuel ho hp hk : Nat} {N : Nat} (hN : N ≤ 10) {mn : Nat → Nat} {go co le se : Nat → Int32} {L cs : List Nat} (hf : 100 < fuel) (hhp : hp ≤ 3) (h0 : 0 < hp) (hho : ho < 100) (hho0 : 0 < ho) (hM : cM go mn N) (hL : L.length ≤ 6) (hle : ∀ i x, L[i]? = some x → le i = zLet x ∧ x ≤ 5) (hhk : hk < 2 ^ 31) (hco : arr co cs) (hcs : cs.length ≤ 10) (hcs2 : ∀ x ∈ cs, x < N) (hs0 : se 0 = nI hp) (hs1 : se 1 = nI ho)
    (yho yla bh : Int32) (pi : Nat → Nat → Int32) (hts sps : Nat → Int32) :
    ∃ o, fX2_layAll fuel go co yho yla bh pi hts sps (nI cs.length) se (nI hk) le (nI L.length) = some o ∧ (let S' := layS hp ho L (hangS hk) mn cs; o.1 = nI ho ∧ o.2.1 = enc S'.2.1 ∧ o.2.2.1 = nI hp ∧ cB S'.1 o.2.2.2.1 o.2.2.2.2.1 ∧ okH N S'.1 ∧ (∀ h, (S'.1 h).length ≤ cs.length) ∧ ∀ x ∈ cs, o.2.2.2.2.2 x = encW (S'.2.2 x)) := by
  unfold fX2_layAll
  rw [hs0, hs1, sX0_clear hf h0 hhp, zbs, zl]
  exact sX2_layAll_L31 (L := L) hN hf hhp h0 hho hho0 hM hL hle hhk hco hcs hcs2 cs.length fuel 0 (fun _ => [], none, fun _ => 10) pi _ _ (by omega) (by omega)
    (fun h h3 => ⟨by simp [h3], arr_nil⟩) (fun h => ⟨by simp, fun x hx => by simp at hx⟩) (fun h => by simp) (fun t ht => by cases ht) (fun x hx => by simp at hx)
/-! The model. -/
theorem sX10_hasRoom {fuel ho n h : Nat} {hi : Nat → Int32} (h1 : ho < 100) (h2 : n < 100) (h3 : hi h = nI n) (h4 : h < 3) : fX10_hasRoom fuel (nI ho) hi (nI h) = some (zb01 (decide (n < ho))) := sX2_hasRoom (fuel := fuel) h1 h2 h3 h4
theorem sX10_topGoes {fuel h c : Nat} {H : HP} {mn : Nat → Nat} {mi pl hi : Nat → Int32} {N : Nat} (hN : N ≤ 10) (hB : mB H pl hi) (hk : okH N H) (hM : cM mi mn N) (h4 : h < 3) (hq : (H h).getLast? = some c) : fX10_topGoes fuel mi pl hi (nI h) = some (nI (mn c)) := by
  have hne : 0 < (H h).length := by
    cases hH : H h with
    | nil => rw [hH] at hq; simp at hq
    | cons a t => simp
  obtain ⟨e1, e2⟩ := hB h h4
  have hl := (hk h).1
  have hc : c < N := (hk h).2 c (List.mem_of_getLast? hq)
  rw [List.getLast?_eq_getElem?] at hq
  have e3 := e2 _ _ hq
  rw [show 10 * h + ((H h).length - 1) = 10 * h + (H h).length - 1 by omega] at e3
  unfold fX10_topGoes
  simp (disch := omega) only [zlit, zz, zgd', e1, zl, e3, (hM c hc).1]
theorem sX10_isBetter {fuel h mg a : Nat} {H : HP} {mn : Nat → Nat} {mi pl hi : Nat → Int32} {than : Option Nat} {N : Nat} (hN : N ≤ 10) (hB : mB H pl hi) (hk : okH N H) (hM : cM mi mn N) (h4 : h < 3) (hmg : mg < 1000) (ha : a ≤ 5) (ht : ∀ t, than = some t → t < 3 ∧ (a = 3 ∨ a = 4 → H t ≠ [])) : fX10_isBetter fuel mi pl hi (nI a) (nI h) (enc than) (nI mg) = some (zb01 (btI a (lnS H) (tmS mn H) mg h than)) := by
  obtain ⟨e1, -⟩ := hB h h4
  have hl := (hk h).1
  have tl : ∀ t, H t ≠ [] → ∃ c, (H t).getLast? = some c ∧ c < N ∧ tmS mn H t = some (mn c) := by
    intro t h
    refine ⟨(H t).getLast h, List.getLast?_eq_some_getLast h, (hk t).2 _ (List.getLast_mem h), ?_⟩
    simp [tmS, List.getLast?_eq_some_getLast h]
  unfold fX10_isBetter
  rcases (show a = 0 ∨ a = 1 ∨ a = 2 ∨ a = 3 ∨ a = 4 ∨ a = 5 by omega) with rfl | rfl | rfl | rfl | rfl | rfl
  · cases than <;> simp (disch := omega) only [zlit, zz, if_pos, if_neg, if_true, if_false, zgd', zl, zbs, zbz, encz, enc, if_true, if_false, btI, zbz]
    have := (ht _ rfl).1
    simp (disch := omega) only [zlit, zz, if_pos, if_neg, if_true, if_false, zgd', zl, zbs, zbz, encz]
  · cases than with
    | none => simp (disch := omega) only [zlit, zz, if_pos, if_neg, if_true, if_false, zgd', zl, zbs, zbz, encz, enc, if_true, btI, zbz]
    | some t =>
      have ht1 := (ht t rfl).1
      have := (hk t).1
      by_cases q : (H h).length < (H t).length
      · simp (disch := omega) only [zlit, zz, if_pos, if_neg, if_true, if_false, zgd', zl, zbs, zbz, encz, enc, if_false, btI, zbz, zgd', e1, (hB t ht1).1, lnS, q, decide_true]
      · simp (disch := omega) only [zlit, zz, if_pos, if_neg, if_true, if_false, zgd', zl, zbs, zbz, encz, enc, if_false, btI, zbz, zgd', e1, (hB t ht1).1, lnS, q, decide_false]
  · cases than with
    | none =>
      by_cases q : (H h).length = 0
      · simp (disch := omega) only [zlit, zz, if_pos, if_neg, if_true, if_false, zgd', zl, zbs, zbz, encz, enc, if_true, btI, zbz, zgd', e1, lnS, q, decide_true]
      · simp (disch := omega) only [zlit, zz, if_pos, if_neg, if_true, if_false, zgd', zl, zbs, zbz, encz, enc, if_true, btI, zbz, zgd', e1, lnS, q, decide_false, if_false]
    | some t =>
      have ht1 := (ht t rfl).1
      simp (disch := omega) only [zlit, zz, if_pos, if_neg, if_true, if_false, zgd', zl, zbs, zbz, encz, enc, if_false, btI, zbz]
  · by_cases q : H h = []
    · have e9 : tmS mn H h = none := by simp [tmS, q]
      simp (disch := omega) only [zlit, zz, if_pos, if_neg, if_true, if_false, zgd', zl, zbs, zbz, encz, btI, zbz, zgd', e1, q, List.length_nil, e9]
    · obtain ⟨c, c1, c2, c3⟩ := tl h q
      have hp := List.length_pos_iff.mpr q
      cases than with
      | none => simp (disch := omega) only [zlit, zz, if_pos, if_neg, if_true, if_false, zgd', zl, zbs, zbz, encz, enc, if_true, btI, zbz, zgd', e1, c3]
      | some t =>
        obtain ⟨ht1, ht2⟩ := ht t rfl
        obtain ⟨d, d1, d2, d3⟩ := tl t (ht2 (Or.inl rfl))
        have m1 := (hM c c2).2
        have m2 := (hM d d2).2
        simp (disch := omega) only [zlit, zz, if_pos, if_neg, if_true, if_false, zgd', zl, zbs, zbz, encz, enc, if_false, btI, zbz, zgd', e1, c3, d3, sX10_topGoes hN hB hk hM h4 c1, sX10_topGoes hN hB hk hM ht1 d1, zbs]
        by_cases r : mn d < mn c
        · rw [if_neg (by omega), decide_eq_true r]; rfl
        · rw [if_pos (by omega), decide_eq_false r]; rfl
  · by_cases q : H h = []
    · have e9 : tmS mn H h = none := by simp [tmS, q]
      simp (disch := omega) only [zlit, zz, if_pos, if_neg, if_true, if_false, zgd', zl, zbs, zbz, encz, btI, zbz, zgd', e1, q, List.length_nil, e9]
    · obtain ⟨c, c1, c2, c3⟩ := tl h q
      have hp := List.length_pos_iff.mpr q
      have m1 := (hM c c2).2
      by_cases w : mg < mn c
      · cases than with
        | none => simp (disch := omega) only [zlit, zz, if_pos, if_neg, if_true, if_false, zgd', zl, zbs, zbz, encz, enc, if_true, btI, zbz, zgd', e1, c3, sX10_topGoes hN hB hk hM h4 c1, zbs, w, decide_true, Bool.and_self]
        | some t =>
          obtain ⟨ht1, ht2⟩ := ht t rfl
          obtain ⟨d, d1, d2, d3⟩ := tl t (ht2 (Or.inr rfl))
          have m2 := (hM d d2).2
          simp (disch := omega) only [zlit, zz, if_pos, if_neg, if_true, if_false, zgd', zl, zbs, zbz, encz, enc, if_false, btI, zbz, zgd', e1, c3, d3, sX10_topGoes hN hB hk hM h4 c1, sX10_topGoes hN hB hk hM ht1 d1, zbs, w, decide_true, Bool.true_and]
          by_cases r : mn c < mn d
          · rw [if_neg (by omega), decide_eq_true r]; rfl
          · rw [if_pos (by omega), decide_eq_false r]; rfl
      · simp (disch := omega) only [zlit, zz, if_pos, if_neg, if_true, if_false, zgd', zl, zbs, zbz, encz, btI, zbz, zgd', e1, c3, sX10_topGoes hN hB hk hM h4 c1, zbs, w, decide_false, Bool.false_and]
  · cases than <;> simp (disch := omega) only [zlit, zz, if_pos, if_neg, if_true, if_false, zgd', zl, zbs, zbz, encz, enc, if_true, if_false, btI, zbz]
    have := (ht _ rfl).1
    simp (disch := omega) only [zlit, zz, if_pos, if_neg, if_true, if_false, zgd', zl, zbs, zbz, encz]
