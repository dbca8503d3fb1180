/-! The model: one digs. -/
theorem sX10_isBlack {fuel N x : Nat} {K F M : Nat → Nat} {ki fi to : Nat → Int32} (hN : N ≤ 10) (h : kfm N K F M ki fi to) (hx : x < N) : fX10_isBlack fuel ki (nI x) = some (zb01 (blS (K x))) := by
  obtain ⟨a, b, -⟩ := h x hx
  unfold fX10_isBlack blS
  simp (disch := omega) only [zlit, zz, if_pos, if_neg, if_true, if_false, zgd', zl, zbs, zbz, encz, a]
  by_cases q : K x = 3
  · simp [q, zb01]
  · by_cases q2 : K x = 6
    · simp [q2, zb01]
    · simp [q, q2, zb01]
theorem sX10_liftOf {fuel N x : Nat} {K F M : Nat → Nat} {ki fi to : Nat → Int32} (hN : N ≤ 10) (h : kfm N K F M ki fi to) (hx : x < N) : fX10_liftOf fuel ki fi (nI x) = some (nI (wtF K F x)) := by
  obtain ⟨a, b, c, d, -⟩ := h x hx
  unfold fX10_liftOf
  simp (disch := omega) only [zlit, zz, if_pos, if_neg, if_true, if_false, zgd', zl, zbs, zbz, encz, a, c, sX10_lift b d]
  rfl
def firstIx (p : Nat → Bool) : List Nat → Option Nat
  | [] => none
  | x :: xs => if p x = true then some 0 else (firstIx p xs).map (· + 1)
theorem firstIx_last {g : Nat} : ∀ {l : List Nat}, l.Nodup → firstIx (fun x => decide (x = g)) l = lastIx (fun x => decide (x = g)) l
  | [], _ => rfl
  | x :: xs, h => by
    rw [List.nodup_cons] at h
    rw [firstIx, lastIx, firstIx_last h.2]
    by_cases q : x = g
    · have : lastIx (fun x => decide (x = g)) xs = none := lastIx_none.mpr (fun y hy => by simp; intro e; exact h.1 (by rw [q, ← e]; exact hy))
      rw [this]
      simp [q]
    · simp only [q, decide_false, Bool.false_eq_true, if_false]
      cases lastIx (fun x => decide (x = g)) xs <;> rfl
theorem sX10_placeOf_L2 {g h : Nat} {l : List Nat} {pl hi : Nat → Int32} (h3 : h < 3) (hg : g < 10) (hl : l.length ≤ 10) (hlN : ∀ x ∈ l, x < 10) (hB : hi h = nI l.length ∧ ∀ i x, l[i]? = some x → pl (10 * h + i) = nI x) :
    ∀ (m n i : Nat), i + m = l.length → m < n → fX10_placeOf_L2 pl hi (nI g) (nI h) n (nI i) = some (enc ((firstIx (fun x => decide (x = g)) (l.drop i)).map (· + i))) := by
  intro m
  induction m with
  | zero =>
    intro n i h1 h2
    obtain ⟨n, rfl⟩ : ∃ k, n = k + 1 := ⟨n - 1, by omega⟩
    rw [fX10_placeOf_L2, List.drop_eq_nil_of_le (by omega)]
    simp (disch := omega) only [zlit, zz, if_pos, if_neg, if_true, if_false, zgd', zl, zbs, zbz, encz, hB.1]
    rfl
  | succ m ih =>
    intro n i h1 h2
    obtain ⟨n, rfl⟩ : ∃ k, n = k + 1 := ⟨n - 1, by omega⟩
    have hi' : i < l.length := by omega
    have hc := hB.2 i l[i] (List.getElem?_eq_getElem hi')
    have hcN := hlN l[i] (List.getElem_mem hi')
    rw [fX10_placeOf_L2, List.drop_eq_getElem_cons hi', firstIx]
    generalize l[i] = c at hc hcN ⊢
    by_cases q : c = g
    · simp (disch := omega) only [zlit, zz, if_pos, if_neg, if_true, if_false, zgd', zl, zbs, zbz, encz, hB.1, hc, q]
      simp [encz]
    · simp (disch := omega) only [zlit, zz, if_pos, if_neg, if_true, if_false, zgd', zl, zbs, zbz, encz, hB.1, hc]
      rw [ih n (i + 1) (by omega) (by omega)]
      simp only [q, decide_false, Bool.false_eq_true, if_false, Option.map_map]
      congr 2
      cases firstIx (fun x => decide (x = g)) (l.drop (i + 1)) with
      | none => rfl
      | some t => simp; omega
theorem sX10_placeOf {fuel N g h : Nat} {H : HP} {pl hi : Nat → Int32} (hf : 100 < fuel) (hN : N ≤ 10) (h3 : h < 3) (hg : g < N) (hk : okH N H) (hB : mB H pl hi) (hnd : (H h).Nodup) : fX10_placeOf fuel pl hi (nI g) (nI h) = some (enc (lastIx (fun x => decide (x = g)) (H h))) := by
  unfold fX10_placeOf
  rw [← firstIx_last hnd]
  have := sX10_placeOf_L2 (g := g) h3 (by omega) (hk h).1 (fun x hx => by have := (hk h).2 x hx; omega) (hB h h3) (H h).length fuel 0 (by omega) (by have := (hk h).1; omega)
  rw [List.drop_zero] at this
  rw [show (0 : Int32) = nI 0 from rfl, this]
  cases firstIx (fun x => decide (x = g)) (H h) <;> rfl
theorem sX10_topBlack_L9 {fuel N h : Nat} {bl : Nat → Bool} {ki : Nat → Int32} {l : List Nat} {pl : Nat → Int32} (hbl : ∀ x, x < N → fX10_isBlack fuel ki (nI x) = some (zb01 (bl x))) (h3 : h < 3) (hl : l.length ≤ 10) (hlN : ∀ x ∈ l, x < N) (hB : ∀ i x, l[i]? = some x → pl (10 * h + i) = nI x) :
    ∀ (k n : Nat), k ≤ l.length → k < n → fX10_topBlack_L9 fuel ki pl (nI h) n (ixm k) = some (ixm (match lastIx bl (l.take k) with | none => 0 | some i => i + 1)) := by
  intro k
  induction k with
  | zero =>
    intro n h1 h2
    obtain ⟨n, rfl⟩ : ∃ k, n = k + 1 := ⟨n - 1, by omega⟩
    rw [fX10_topBlack_L9, ixm_0, List.take_zero]
    simp (disch := omega) only [zlit, zz, if_pos, if_neg, if_true, if_false, zgd', zl, zbs, zbz, encz]
    rfl
  | succ k ih =>
    intro n h1 h2
    obtain ⟨n, rfl⟩ : ∃ k, n = k + 1 := ⟨n - 1, by omega⟩
    have hk : k < l.length := by omega
    have hc := hB k l[k] (List.getElem?_eq_getElem hk)
    have hcN := hlN l[k] (List.getElem_mem hk)
    rw [fX10_topBlack_L9, ixm_s, List.take_succ_eq_append_getElem hk, lastIx_snoc]
    generalize l[k] = c at hc hcN ⊢
    simp (disch := omega) only [zlit, zz, if_pos, if_neg, if_true, if_false, zgd', zl, zbs, zbz, encz, hc, hbl c hcN, ixm_m1]
    cases hq : bl c with
    | true =>
      simp (disch := omega) only [zlit, zz, if_pos, if_neg, if_true, if_false, zgd', zl, zbs, zbz, encz, Bool.true_eq_false]
      simp [List.length_take, Nat.min_eq_left (Nat.le_of_lt hk), ixm_s]
    | false =>
      simp (disch := omega) only [zlit, zz, if_pos, if_neg, if_true, if_false, zgd', zl, zbs, zbz, encz, Bool.false_eq_true]
      exact ih n (by omega) (by omega)
theorem sX10_topBlack {fuel N h : Nat} {bl : Nat → Bool} {ki : Nat → Int32} {H : HP} {pl hi : Nat → Int32} (hf : 100 < fuel) (hbl : ∀ x, x < N → fX10_isBlack fuel ki (nI x) = some (zb01 (bl x))) (h3 : h < 3) (hk : okH N H) (hB : mB H pl hi) :
    fX10_topBlack fuel ki pl hi (nI h) = some (ixm (match lastIx bl (H h) with | none => 0 | some i => i + 1)) := by
  unfold fX10_topBlack
  obtain ⟨b1, b2⟩ := hB h h3
  have hl := (hk h).1
  have e0 : (1 : Int32) = nI 1 := rfl
  have e9 : nI (H h).length - nI 1 = ixm (H h).length := rfl
  simp (disch := omega) only [zz, zgd', zl, b1, e0, e9]
  have := sX10_topBlack_L9 hbl h3 hl (hk h).2 b2 (H h).length fuel (by omega) (by omega)
  rw [List.take_length] at this
  exact this
/-- what lies above is taken off, one by one -/
theorem sX10_dig_L21 {fuel N g h i : Nat} {wt : Nat → Nat} {ki fi has tk : Nat → Int32} {hpI baI : Int32} {H : HP} {pl hi : Nat → Int32} (hN : N ≤ 10) (hlf : ∀ x, x < N → fX10_liftOf fuel ki fi (nI x) = some (nI (wt x))) (h3 : h < 3) (hg : g < N) (hl : (H h).length ≤ 10) (hlN : ∀ x ∈ H h, x < N) (hB : mB H pl hi) (hi' : i < (H h).length) :
    ∀ (j n k a : Nat) (ld : Nat → Nat) (li ld' ab : Nat → Int32), k + j = ((H h).drop (i + 1)).length → j < n → li g = nI a → (∀ x, x < N → ld' x = nI (ld x)) → arr ab (((H h).drop (i + 1)).reverse.take k) →
      ∃ li2 ld2 ab2, fX10_dig_L21 fuel ki fi hpI baI (nI g) (nI h) (nI i) n (nI (10 * h)) (nI ((H h).drop (i + 1)).length) (nI k) pl hi li has ld' tk ab = fX10_dig_J96 fuel hpI baI (nI g) (nI h) (nI i) (nI (10 * h)) (nI ((H h).drop (i + 1)).length) pl hi li2 has ld2 tk ab2 ∧
        (∀ x, li2 x = if x = g then nI (a + sumW wt (((H h).drop (i + 1)).reverse.drop k)) else li x) ∧ (∀ x, x < N → ld2 x = nI (ld x + (((H h).drop (i + 1)).reverse.drop k).count x)) ∧ arr ab2 ((H h).drop (i + 1)).reverse := by
  intro j
  induction j with
  | zero =>
    intro n k a ld li ld' ab h1 h2 e1 e2 e3
    obtain ⟨n, rfl⟩ : ∃ k, n = k + 1 := ⟨n - 1, by omega⟩
    have hd : ((H h).drop (i + 1)).reverse.drop k = [] := List.drop_eq_nil_of_le (by rw [List.length_reverse]; omega)
    have hlen : ((H h).drop (i + 1)).length ≤ 10 := by rw [List.length_drop]; omega
    rw [fX10_dig_L21, hd]
    refine ⟨li, ld', ab, ?_, fun x => ?_, fun x hx => ?_, ?_⟩
    · simp (disch := omega) only [zlit, zz, if_pos, if_neg, if_true, if_false, zgd', zl, zbs, zbz, encz]
    · split
      · rename_i q; rw [q, e1]; simp [sumW]
      · rfl
    · rw [e2 x hx]; simp
    · rw [List.take_of_length_le (by rw [List.length_reverse]; omega)] at e3
      exact e3
  | succ j ih =>
    intro n k a ld li ld' ab h1 h2 e1 e2 e3
    obtain ⟨n, rfl⟩ : ∃ k, n = k + 1 := ⟨n - 1, by omega⟩
    have hlen : ((H h).drop (i + 1)).length = (H h).length - (i + 1) := List.length_drop
    have hk : k < ((H h).drop (i + 1)).reverse.length := by rw [List.length_reverse]; omega
    obtain ⟨b1, b2⟩ := hB h h3
    have hce : ((H h).drop (i + 1)).reverse[k]? = (H h)[(H h).length - 1 - k]? := by
      rw [List.getElem?_reverse (by omega), List.getElem?_drop]
      congr 1
      omega
    have hc0 : ((H h).drop (i + 1)).reverse[k]? = some ((H h).drop (i + 1)).reverse[k] := List.getElem?_eq_getElem hk
    rw [List.drop_eq_getElem_cons hk]
    generalize hcx : ((H h).drop (i + 1)).reverse[k] = c at hc0 ⊢
    rw [hce] at hc0
    have hp := b2 _ _ hc0
    have hcN := hlN c (List.mem_of_getElem? hc0)
    have hu : ∀ v, upd ab k v k = v := fun v => by simp [upd]
    have hx6 : 10 * h + (H h).length - 1 - k = 10 * h + ((H h).length - 1 - k) := by omega
    rw [fX10_dig_L21]
    simp (disch := omega) only [zlit, zz, if_pos, if_neg, if_true, if_false, zgd', zl, zbs, zbz, encz, b1, hx6, hp, hu, hlf c hcN, e1, e2 c hcN]
    have hab : arr (upd ab k (nI c)) (((H h).drop (i + 1)).reverse.take (k + 1)) := by
      rw [List.take_succ_eq_append_getElem hk, hcx]
      have := arr_push (x := c) e3
      rw [List.length_take, Nat.min_eq_left (Nat.le_of_lt hk)] at this
      exact this
    obtain ⟨li2, ld2, ab2, f1, f2, f3, f4⟩ := ih n (k + 1) (a + wt c) (va_up ld c (ld c + 1)) (upd li g (nI (a + wt c))) (upd ld' c (nI (ld c + 1))) (upd ab k (nI c)) (by omega) (by omega) (by simp [upd]) (fun x hx => by unfold upd va_up; split; rfl; exact e2 x hx) hab
    refine ⟨li2, ld2, ab2, f1, fun x => ?_, fun x hx => ?_, f4⟩
    · rw [f2 x]
      split
      · congr 1
        simp [sumW]
        omega
      · rename_i q; simp [upd, q]
    · rw [f3 x hx, List.count_cons]
      congr 1
      unfold va_up
      by_cases q : x = c
      · subst q; simp; omega
      · rw [if_neg q, if_neg (by simp; exact fun e => q e.symm)]; omega
/-- what was lifted is laid back, one by one -/
theorem sX10_dig_L133 {fuel hp ba h : Nat} {A : List Nat} {li has ld tk ab : Nat → Int32} (hhp : hp ≤ 3) (h0 : h < hp) (hba : ba ≤ 2) (hab : arr ab A.reverse) (hA : A.length ≤ 10) :
    ∀ (j n k : Nat) (H : HP) (pl hi : Nat → Int32), k + j = A.length → j < n → mB H pl hi → (∀ k, k < 3 → (H k).length ≤ 10) → (H (if ba = 2 then (h + 1) % hp else h)).length + j ≤ 10 →
      ∃ pl' hi', fX10_dig_L133 fuel (nI hp) (nI ba) (nI h) n (nI A.length) (nI k) pl hi li has ld tk ab = some (pl', hi', li, has, ld, tk, ab) ∧ mB (va_up H (if ba = 2 then (h + 1) % hp else h) (H (if ba = 2 then (h + 1) % hp else h) ++ (if ba = 0 then A else A.reverse).drop k)) pl' hi' := by
  have htl : (if ba = 2 then (h + 1) % hp else h) < 3 := by
    have := Nat.mod_lt (h + 1) (show 0 < hp by omega)
    split <;> omega
  intro j
  induction j with
  | zero =>
    intro n k H pl hi h1 h2 hB hl ht
    obtain ⟨n, rfl⟩ : ∃ k, n = k + 1 := ⟨n - 1, by omega⟩
    rw [fX10_dig_L133, List.drop_eq_nil_of_le (by have : A.reverse.length = A.length := List.length_reverse; split <;> omega), List.append_nil]
    refine ⟨pl, hi, ?_, ?_⟩
    · simp (disch := omega) only [zlit, zz, if_pos, if_neg, if_true, if_false, zgd', zl, zbs, zbz, encz]
    · have : ∀ t, va_up H t (H t) = H := fun t => by funext x; unfold va_up; split; rename_i q; rw [q]; rfl
      rw [this]; exact hB
  | succ j ih =>
    intro n k H pl hi h1 h2 hB hl ht
    obtain ⟨n, rfl⟩ : ∃ k, n = k + 1 := ⟨n - 1, by omega⟩
    have hkB : k < (if ba = 0 then A else A.reverse).length := by have : A.reverse.length = A.length := List.length_reverse; split <;> omega
    rw [List.drop_eq_getElem_cons hkB]
    -- the coat that is laid back now
    have hcx : (if ba = 0 then A else A.reverse)[k]? = some (if ba = 0 then A else A.reverse)[k] := List.getElem?_eq_getElem hkB
    generalize (if ba = 0 then A else A.reverse)[k] = c at hcx ⊢
    generalize ht2 : (if ba = 2 then (h + 1) % hp else h) = t at *
    have hput := sX10_putOn (fuel := fuel) (g := 0) (pl := pl) htl (hB t htl).1 (by omega) (nI c)
    have hB2 := mB_push (g := c) hl htl (by omega) hB
    have hl2 : ∀ k, k < 3 → (va_up H t (H t ++ [c]) k).length ≤ 10 := fun k hk => by
      unfold va_up
      split
      · simp; omega
      · exact hl k hk
    obtain ⟨pl', hi', f1, f2⟩ := ih n (k + 1) _ _ _ (by omega) (by omega) hB2 hl2 (by simp [va_up]; omega)
    have hfin : va_up (va_up H t (H t ++ [c])) t (va_up H t (H t ++ [c]) t ++ (if ba = 0 then A else A.reverse).drop (k + 1)) = va_up H t (H t ++ c :: (if ba = 0 then A else A.reverse).drop (k + 1)) := by
      funext x
      unfold va_up
      by_cases q : x = t
      · simp [q]
      · simp [q]
    rw [hfin] at f2
    refine ⟨pl', hi', ?_, f2⟩
    rw [← f1, fX10_dig_L133]
    rcases (show ba = 0 ∨ ba = 1 ∨ ba = 2 by omega) with rfl | rfl | rfl
    · simp only [if_true] at hcx
      simp only [show ¬ (0 : Nat) = 2 by omega, if_false] at ht2
      subst ht2
      have := hab (A.length - 1 - k) c (by rw [List.getElem?_reverse (by omega)]; rw [show A.length - 1 - (A.length - 1 - k) = k by omega]; exact hcx)
      simp (disch := omega) only [zlit, zz, if_pos, if_neg, if_true, if_false, zgd', zl, zbs, zbz, encz, this, hput, fX10_dig_J198]
    · simp only [show ¬ (1 : Nat) = 0 by omega, if_false] at hcx
      simp only [show ¬ (1 : Nat) = 2 by omega, if_false] at ht2
      subst ht2
      have := hab k c hcx
      simp (disch := omega) only [zlit, zz, if_pos, if_neg, if_true, if_false, zgd', zl, zbs, zbz, encz, this, hput, fX10_dig_J198]
    · simp only [show ¬ (2 : Nat) = 0 by omega, if_false] at hcx
      simp only [if_true] at ht2
      subst ht2
      have := hab k c hcx
      have hr : nI (h + 1) - nI (h + 1) / nI hp * nI hp = nI ((h + 1) % hp) := pk_rem (by omega) (by omega) (by omega)
      simp (disch := omega) only [zlit, zz, if_pos, if_neg, if_true, if_false, zgd', zl, zbs, zbz, encz, this, hput, fX10_dig_J198, hr, show ¬ hp = 0 by omega, not_false_eq_true, decide_true, zgt]
theorem sX10_dig {fuel N hp ba g h i c a : Nat} {wt : Nat → Nat} {ki fi has tk li ld' : Nat → Int32} {ld : Nat → Nat} {H : HP} {pl hi : Nat → Int32} (hf : 100 < fuel) (hN : N ≤ 10) (hhp : hp ≤ 3) (hba : ba ≤ 2) (hlf : ∀ x, x < N → fX10_liftOf fuel ki fi (nI x) = some (nI (wt x))) (h3 : h < hp) (hg : g < N) (hk : okH N H) (hfl : (flat H).length ≤ 10) (hB : mB H pl hi) (hc : (H h)[i]? = some c) (e1 : li g = nI a) (e2 : ∀ x, x < N → ld' x = nI (ld x)) (ab : Nat → Int32) :
    ∃ o, fX10_dig fuel ki fi (nI hp) (nI ba) pl hi li has ld' tk ab (nI g) (nI h) (nI i) = some o ∧ mB (backS hp ba h H ((H h).take i) ((H h).drop (i + 1))) o.1 o.2.1 ∧ (∀ x, o.2.2.1 x = if x = g then nI (a + sumW wt ((H h).drop (i + 1))) else li x) ∧ o.2.2.2.1 = upd has g (nI c) ∧ (∀ x, x < N → o.2.2.2.2.1 x = nI (ld x + ((H h).drop (i + 1)).count x)) ∧ o.2.2.2.2.2.1 = upd tk c (nI 1) := by
  have hi' : i < (H h).length := (List.getElem?_eq_some_iff.mp hc).1
  have hl := (hk h).1
  have hlen : ((H h).drop (i + 1)).length = (H h).length - (i + 1) := List.length_drop
  have hcN := (hk h).2 c (List.mem_of_getElem? hc)
  obtain ⟨b1, b2⟩ := hB h (by omega)
  have hpc := b2 i c hc
  obtain ⟨li2, ld2, ab2, f1, f2, f3, f4⟩ := sX10_dig_L21 (has := has) (tk := tk) (hpI := nI hp) (baI := nI ba) (i := i) hN hlf (show h < 3 by omega) hg hl (hk h).2 hB hi' ((H h).drop (i + 1)).length fuel 0 a ld li ld' ab (by omega) (by omega) e1 e2 (by rw [List.take_zero]; exact arr_nil)
  rw [List.drop_zero] at f2 f3
  -- the heap without what lay above
  have hB1 : mB (va_up H h ((H h).take i)) pl (upd hi h (nI i)) := by
    intro k hk3
    unfold va_up upd
    by_cases q : k = h
    · subst q
      simp only [if_true]
      refine ⟨by rw [List.length_take, Nat.min_eq_left (by omega)], fun j x hx => b2 j x ?_⟩
      rw [List.getElem?_take] at hx
      split at hx
      · exact hx
      · cases hx
    · simp only [q, if_false]
      exact hB k hk3
  have hl1 : ∀ k, k < 3 → (va_up H h ((H h).take i) k).length ≤ 10 := fun k hk3 => by
    unfold va_up
    split
    · rw [List.length_take]; omega
    · exact (hk k).1
  have hmod := Nat.mod_lt (h + 1) (show 0 < hp by omega)
  have ht : (va_up H h ((H h).take i) (if ba = 2 then (h + 1) % hp else h)).length + ((H h).drop (i + 1)).length ≤ 10 := by
    by_cases q : (if ba = 2 then (h + 1) % hp else h) = h
    · rw [q]
      simp only [va_up, if_true, List.length_take]
      omega
    · simp only [va_up, q, if_false]
      have h9 : (if ba = 2 then (h + 1) % hp else h) < 3 := by split <;> omega
      rw [flat_len] at hfl
      generalize (if ba = 2 then (h + 1) % hp else h) = t at *
      rcases (show h = 0 ∨ h = 1 ∨ h = 2 by omega) with rfl | rfl | rfl <;> rcases (show t = 0 ∨ t = 1 ∨ t = 2 by omega) with rfl | rfl | rfl <;> omega
  obtain ⟨pl', hi2, g1, g2⟩ := sX10_dig_L133 (fuel := fuel) (li := li2) (has := upd has g (nI c)) (ld := ld2) (tk := upd tk c (nI 1)) (ab := ab2) (A := (H h).drop (i + 1)) hhp h3 hba f4 (by omega) ((H h).drop (i + 1)).length fuel 0 _ _ _ (by omega) (by omega) hB1 hl1 ht
  rw [List.drop_zero] at g2
  have hbk : va_up (va_up H h ((H h).take i)) (if ba = 2 then (h + 1) % hp else h) (va_up H h ((H h).take i) (if ba = 2 then (h + 1) % hp else h) ++ (if ba = 0 then (H h).drop (i + 1) else ((H h).drop (i + 1)).reverse)) = backS hp ba h H ((H h).take i) ((H h).drop (i + 1)) := by
    unfold backS
    rcases (show ba = 0 ∨ ba = 1 ∨ ba = 2 by omega) with rfl | rfl | rfl
    · simp only [if_true, show ¬ (0 : Nat) = 2 by omega, if_false]
      funext x
      unfold va_up
      by_cases q : x = h <;> simp [q]
    · simp only [show ¬ (1 : Nat) = 2 by omega, show ¬ (1 : Nat) = 0 by omega, false_and, if_false]
      funext x
      unfold va_up
      by_cases q : x = h <;> simp [q]
    · simp only [if_true, show ¬ (2 : Nat) = 0 by omega, if_false, true_and]
      by_cases q1 : 1 < hp
      · rw [if_pos q1]
        have hne : (h + 1) % hp ≠ h := by
          by_cases q : h + 1 < hp
          · rw [Nat.mod_eq_of_lt q]; omega
          · rw [show h + 1 = hp by omega, Nat.mod_self]; omega
        have : va_up H h ((H h).take i) ((h + 1) % hp) = H ((h + 1) % hp) := by simp [va_up, hne]
        rw [this]
      · rw [if_neg q1]
        have e1 : hp = 1 := by omega
        have e2 : h = 0 := by omega
        subst e1 e2
        funext x
        simp only [Nat.mod_self, Nat.zero_add]
        unfold va_up
        by_cases q : x = 0 <;> simp [q]
  rw [hbk] at g2
  have hus : ∀ v, upd has g v g = v := fun v => by simp [upd]
  have hv1 : vp_nar .boolean (nI 1) = nI 1 := rfl
  have hn : (H h).length - 1 - i = ((H h).drop (i + 1)).length := by omega
  refine ⟨(pl', hi2, li2, upd has g (nI c), ld2, upd tk c (nI 1), ab2), ?_, g2, fun x => (f2 x).trans (by rw [sumW_perm (List.reverse_perm _)]), rfl, fun x hx => (f3 x hx).trans (by rw [List.count_reverse]), rfl⟩
  rw [← g1]
  unfold fX10_dig
  simp (disch := omega) only [zlit, zz, if_pos, if_neg, if_true, if_false, zgd', zl, zbs, zbz, encz, b1, hn, f1]
  unfold fX10_dig_J96
  simp (disch := omega) only [zlit, zz, if_pos, if_neg, if_true, if_false, zgd', zl, zbs, zbz, encz, hpc, hus, hv1]
