/-! The class: one digs. -/
theorem zex {α : Type} {F G : Option α} {P : α → Prop} (e : F = G) (h : ∃ o, G = some o ∧ P o) : ∃ o, F = some o ∧ P o := by rw [e]; exact h
theorem sX3_takes {fuel N g c mi : Nat} {bl : Nat → Bool} {b se : Nat → Int32} (hN : N ≤ 10) (hb : ∀ x, x < N → b x = zb01 (bl x)) (hse : se 3 = nI mi) (hmi : mi < 100) (hg : g < N) (hc : c < N) : fX3_takes fuel b se (nI g) (nI c) = some (zb01 (tkS (decide (mi = 1)) bl g c)) := by
  unfold fX3_takes tkS
  by_cases h1 : c = g
  · subst h1
    simp (disch := omega) only [zlit, zz, if_pos, if_neg, if_true, if_false, zgd', zl, zbs, zbz, encz, decide_true, Bool.true_or]
  · by_cases h2 : mi = 1
    · simp (disch := omega) only [zlit, zz, if_pos, if_neg, if_true, if_false, zgd', zl, zbs, zbz, encz, hse, hb g hg, hb c hc, h1, h2, decide_false, decide_true, Bool.false_or, Bool.true_and]
      cases h3 : bl g with
      | false => simp [h3, zb01]
      | true =>
        cases h4 : bl c with
        | false => simp [zb01]
        | true => simp [zb01]
    · simp (disch := omega) only [zlit, zz, if_pos, if_neg, if_true, if_false, zgd', zl, zbs, zbz, encz, hse, h1, h2, decide_false, Bool.false_or, Bool.false_and]
/-- the scan from the top, and what it lifts -/
theorem sX3_dig_L12 {fuel N hp g h mi : Nat} {bl : Nat → Bool} {wt : Nat → Nat} {w b se has : Nat → Int32} {l : List Nat} {pi : Nat → Nat → Int32} {hts sps : Nat → Int32} (hN : N ≤ 10) (hb : ∀ x, x < N → b x = zb01 (bl x)) (hw : ∀ x, x < N → w x = nI (wt x)) (hse : se 3 = nI mi) (hmi : mi < 100) (hg : g < N) (h3 : h < 3) (hl : l.length ≤ 10) (hlN : ∀ x ∈ l, x < N) (hpi : arr (pi h) l) :
    ∀ (k n : Nat) (lf ld : Nat → Nat) (all : Nat) (li ld' : Nat → Int32), k ≤ l.length → k < n → (∀ x, x < N → li x = nI (lf x)) → (∀ x, x < N → ld' x = nI (ld x)) →
      ∃ (k' : Nat) (li2 ld2 : Nat → Int32), k' = (match lastIx (tkS (decide (mi = 1)) bl g) (l.take k) with | none => 0 | some i => i + 1) ∧
        fX3_dig_L12 fuel w b (nI hp) se (nI g) (nI h) n (ixm k) li has ld' (nI all) pi hts sps = fX3_dig_J97 fuel (nI hp) se (nI g) (nI h) (ixm k') li2 has ld2 (nI (all + sumW wt ((l.take k).drop k'))) pi hts sps ∧
        (∀ x, x < N → li2 x = nI (va_up lf g (lf g + sumW wt ((l.take k).drop k')) x)) ∧ (∀ x, x < N → ld2 x = nI (ld x + ((l.take k).drop k').count x)) := by
  intro k
  induction k with
  | zero =>
    intro n lf ld all li ld' h1 h2 e1 e2
    obtain ⟨n, rfl⟩ : ∃ k, n = k + 1 := ⟨n - 1, by omega⟩
    refine ⟨0, li, ld', rfl, ?_, fun x hx => ?_, fun x hx => ?_⟩
    · rw [fX3_dig_L12, ixm_0]
      simp (disch := omega) only [zlit, zz, if_pos, if_neg, if_true, if_false, zgd', zl, zbs, zbz, encz]
      rw [show all + sumW wt (List.drop 0 (List.take 0 l)) = all by simp [sumW]]
    · rw [e1 x hx]
      unfold va_up
      split
      · rename_i q; rw [q]; simp [sumW]
      · rfl
    · rw [e2 x hx]; simp
  | succ k ih =>
    intro n lf ld all li ld' h1 h2 e1 e2
    obtain ⟨n, rfl⟩ : ∃ k, n = k + 1 := ⟨n - 1, by omega⟩
    have hk : k < l.length := by omega
    have hc := hpi k l[k] (List.getElem?_eq_getElem hk)
    have hcN := hlN l[k] (List.getElem_mem hk)
    have ht : l.take (k + 1) = l.take k ++ [l[k]] := List.take_succ_eq_append_getElem hk
    have hlen : (l.take k).length = k := by rw [List.length_take]; omega
    rw [ht, lastIx_snoc, hlen, fX3_dig_L12, ixm_s]
    generalize l[k] = c at hc hcN ht ⊢
    simp (disch := omega) only [zlit, zz, if_pos, if_neg, if_true, if_false, zgd', zl, zbs, zbz, encz, hc, sX3_takes (fuel := fuel) hN hb hse hmi hg hcN]
    by_cases q : tkS (decide (mi = 1)) bl g c = true
    · refine ⟨k + 1, li, ld', by rw [if_pos q], ?_, fun x hx => ?_, fun x hx => ?_⟩
      · simp only [q, Bool.true_eq_false, if_false, ixm_s]
        rw [List.drop_eq_nil_of_le (by simp [hlen])]
        simp [sumW]
      · rw [List.drop_eq_nil_of_le (by simp [hlen]), e1 x hx]
        unfold va_up
        split
        · rename_i q; rw [q]; simp [sumW]
        · rfl
      · rw [List.drop_eq_nil_of_le (by simp [hlen]), e2 x hx]; simp
    · rw [if_neg q]
      have q' : tkS (decide (mi = 1)) bl g c = false := by simpa using q
      simp only [q', if_true]
      simp (disch := omega) only [zz, zgd', zl, e1 g hg, hw c hcN, e2 c hcN]
      rw [ixm_m1]
      obtain ⟨k', li2, ld2, f1, f2, f3, f4⟩ := ih n (va_up lf g (lf g + wt c)) (va_up ld c (ld c + 1)) (all + wt c) (upd li g (nI (lf g + wt c))) (upd ld' c (nI (ld c + 1))) (by omega) (by omega) (by
        intro x hx
        unfold upd va_up
        split
        · rfl
        · exact e1 x hx) (by
        intro x hx
        unfold upd va_up
        split
        · rfl
        · exact e2 x hx)
      have hk' : k' ≤ k := by
        cases hL : lastIx (tkS (decide (mi = 1)) bl g) (l.take k) with
        | none => rw [hL] at f1; simp at f1; omega
        | some i =>
          rw [hL] at f1
          have := lastIx_lt hL
          simp at f1
          omega
      have hd : List.drop k' (List.take k l ++ [c]) = List.drop k' (List.take k l) ++ [c] := by
        rw [List.drop_append_of_le_length (by omega)]
      have hsum : sumW wt (List.drop k' (List.take k l) ++ [c]) = wt c + sumW wt (List.drop k' (List.take k l)) := by
        rw [sumW_append]; simp [sumW]; omega
      refine ⟨k', li2, ld2, f1, ?_, fun x hx => ?_, fun x hx => ?_⟩
      · rw [hd, hsum, ← Nat.add_assoc]
        exact f2
      · rw [f3 x hx, hd, hsum]
        unfold va_up
        split
        · simp; congr 1; omega
        · rfl
      · rw [f4 x hx, hd, List.count_append]
        unfold va_up
        by_cases qx : x = c
        · subst qx
          simp
          congr 1
          omega
        · have : List.count x [c] = 0 := by simp [Ne.symm qx]
          rw [if_neg qx, this]
          simp
/-- one digs in a heap and takes the coat c -/
theorem sX3_dig {fuel N hp g h i c mi ba : Nat} {bl : Nat → Bool} {wt : Nat → Nat} {w b se has : Nat → Int32} {H : HP} {pi : Nat → Nat → Int32} {hts sps : Nat → Int32} {lf ld : Nat → Nat} {all : Nat} {li ld' : Nat → Int32} (hf : 100 < fuel) (hhp : hp ≤ 3) (hN : N ≤ 10) (hb : ∀ x, x < N → b x = zb01 (bl x)) (hw : ∀ x, x < N → w x = nI (wt x)) (hse : se 3 = nI mi) (hmi : mi < 100) (hse2 : se 2 = nI ba) (hba : ba ≤ 2) (hg : g < N) (hh : h < hp)
    (hk : okH N H) (hfl : (flat H).length ≤ 10) (hB : cB H pi hts) (hi : lastIx (tkS (decide (mi = 1)) bl g) (H h) = some i) (hc : (H h)[i]? = some c) (e1 : ∀ x, x < N → li x = nI (lf x)) (e2 : ∀ x, x < N → ld' x = nI (ld x)) :
    ∃ o, fX3_dig fuel w b li has ld' (nI all) (nI hp) pi hts sps se (nI g) (nI h) = some o ∧ (∀ x, x < N → o.1 x = nI (va_up lf g (lf g + sumW wt ((H h).drop (i + 1))) x)) ∧ o.2.1 = upd has g (nI c) ∧ (∀ x, x < N → o.2.2.1 x = nI (ld x + ((H h).drop (i + 1)).count x)) ∧ o.2.2.2.1 = nI (all + sumW wt ((H h).drop (i + 1))) ∧
      cB (backS hp ba h H ((H h).take i) ((H h).drop (i + 1))) o.2.2.2.2.1 o.2.2.2.2.2.1 ∧ (∀ x, o.2.2.2.2.2.2 x = if (ba = 2 ∧ 1 < hp) ∧ x ∈ (H h).drop (i + 1) then nI ((h + 1) % hp) else if x = c then zAw else sps x) := by
  have h3 : h < 3 := by omega
  have hl := (hk h).1
  have hlt := lastIx_lt hi
  have hcN : c < N := (hk h).2 c (List.mem_of_getElem? hc)
  have hcc : c = (H h)[i] := by
    rw [List.getElem?_eq_getElem hlt] at hc
    exact (Option.some.inj hc).symm
  have hH : H h = (H h).take i ++ c :: (H h).drop (i + 1) := by rw [hcc, List.getElem_cons_drop, List.take_append_drop]
  have hlb : ((H h).take i).length = i := by rw [List.length_take]; omega
  obtain ⟨k', li2, ld2, f1, f2, f3, f4⟩ := sX3_dig_L12 (fuel := fuel) (hp := hp) (has := has) (hts := hts) (sps := sps) hN hb hw hse hmi hg h3 hl (hk h).2 (hB h h3).2 (H h).length fuel lf ld all li ld' (by omega) (by omega) e1 e2
  rw [List.take_length, hi] at f1
  rw [List.take_length] at f2 f3 f4
  subst f1
  unfold fX3_dig
  have e0 : nI (H h).length - 1 = ixm (H h).length := rfl
  simp (disch := omega) only [zz, zgd', zl, (hB h h3).1, e0]
  rw [f2]
  generalize hwv : sumW wt ((H h).drop (i + 1)) = wv at f3 ⊢
  obtain ⟨pi1, t1, t2⟩ := sX0_takeOut (fuel := fuel) (sps := sps) hf h3 hB hH hl (show c < 10 by omega)
  rw [hlb] at t1 t2
  have hpc : pi h i = nI c := (hB h h3).2 i c hc
  unfold fX3_dig_J97
  rw [ixm_s]
  simp (disch := omega) only [zlit, zz, if_pos, if_neg, if_true, if_false, zgd', zl, zbs, zbz, encz, hpc, t1, hse2]
  have hH1 : va_up H h ((H h).take i ++ (H h).drop (i + 1)) h = (H h).take i ++ (H h).drop (i + 1) := by simp [va_up]
  have hlen1 : (va_up H h ((H h).take i ++ (H h).drop (i + 1)) h).length ≤ 10 := by rw [hH1]; simp; omega
  -- turned over, or as they were
  have turned : ∀ bb : Nat, bb ≤ 2 → ¬ (bb = 2 ∧ 1 < hp) → ∃ o, fX3_dig_J168 fuel (nI h) (nI i) (nI bb) li2 (upd has g (nI c)) ld2 (nI (all + wv)) pi1 (upd hts h (nI (i + ((H h).drop (i + 1)).length))) (upd sps c zAw) = some o ∧ (∀ x, x < N → o.1 x = nI (va_up lf g (lf g + wv) x)) ∧ o.2.1 = upd has g (nI c) ∧ (∀ x, x < N → o.2.2.1 x = nI (ld x + ((H h).drop (i + 1)).count x)) ∧ o.2.2.2.1 = nI (all + wv) ∧
      cB (backS hp bb h H ((H h).take i) ((H h).drop (i + 1))) o.2.2.2.2.1 o.2.2.2.2.2.1 ∧ (∀ x, o.2.2.2.2.2.2 x = if (bb = 2 ∧ 1 < hp) ∧ x ∈ (H h).drop (i + 1) then nI ((h + 1) % hp) else if x = c then zAw else sps x) := by
    intro bb hbb hno
    unfold fX3_dig_J168
    by_cases q : bb = 0
    · subst q
      simp (disch := omega) only [zlit, zz, if_pos, if_neg, if_true, if_false, zgd', zl, zbs, zbz, encz]
      refine ⟨_, rfl, f3, rfl, f4, rfl, ?_, fun x => by simp [upd]⟩
      have : backS hp 0 h H ((H h).take i) ((H h).drop (i + 1)) = va_up H h ((H h).take i ++ (H h).drop (i + 1)) := by simp [backS]
      rw [this]
      exact t2
    · obtain ⟨pi2, u1, u2⟩ := sX0_turnFrom (fuel := fuel) hf h3 t2 hH1 hlen1
      rw [hlb] at u1
      simp (disch := omega) only [zlit, zz, if_pos, if_neg, if_true, if_false, zgd', zl, zbs, zbz, encz, u1]
      refine ⟨_, rfl, f3, rfl, f4, rfl, ?_, fun x => by simp [upd, hno]⟩
      have : backS hp bb h H ((H h).take i) ((H h).drop (i + 1)) = va_up (va_up H h ((H h).take i ++ (H h).drop (i + 1))) h ((H h).take i ++ ((H h).drop (i + 1)).reverse) := by
        funext k
        simp only [backS, q, hno, if_false, va_up]
        split <;> rfl
      rw [this]
      exact u2
  by_cases q : ba = 2
  · by_cases q1 : 1 < hp
    · subst q
      have hnx : va_up H h ((H h).take i ++ (H h).drop (i + 1)) ((h + 1) % hp) = H ((h + 1) % hp) := by
        have hne : (h + 1) % hp ≠ h := by
          by_cases q : h + 1 < hp
          · rw [Nat.mod_eq_of_lt q]; omega
          · rw [show h + 1 = hp by omega, Nat.mod_self]; omega
        simp [va_up, hne]
      have hn3 := Nat.mod_lt (h + 1) (show 0 < hp by omega)
      have hsum : (va_up H h ((H h).take i ++ (H h).drop (i + 1)) h).length + (va_up H h ((H h).take i ++ (H h).drop (i + 1)) ((h + 1) % hp)).length ≤ 10 := by
        rw [hnx, hH1, List.length_append, List.length_take, List.length_drop]
        rw [flat_len] at hfl
        have hne : (h + 1) % hp ≠ h := by
          by_cases q : h + 1 < hp
          · rw [Nat.mod_eq_of_lt q]; omega
          · rw [show h + 1 = hp by omega, Nat.mod_self]; omega
        generalize (h + 1) % hp = nx at hn3 hne ⊢
        rcases (show h = 0 ∨ h = 1 ∨ h = 2 by omega) with rfl | rfl | rfl <;> rcases (show nx = 0 ∨ nx = 1 ∨ nx = 2 by omega) with rfl | rfl | rfl <;> omega
      obtain ⟨o, u1, u2, u3⟩ := sX0_moveFrom (fuel := fuel) (sps := upd sps c zAw) hf hhp q1 hh t2 hH1 hsum (fun x hx => by have := (hk h).2 x (List.mem_of_mem_drop hx); omega)
      rw [hlb] at u1
      simp (disch := omega) only [zlit, zz, if_pos, if_neg, if_true, if_false, zgd', zl, zbs, zbz, encz, u1]
      refine ⟨_, rfl, f3, rfl, f4, rfl, ?_, fun x => ?_⟩
      · have : backS hp 2 h H ((H h).take i) ((H h).drop (i + 1)) = va_up (va_up (va_up H h ((H h).take i ++ (H h).drop (i + 1))) h ((H h).take i)) ((h + 1) % hp) (va_up H h ((H h).take i ++ (H h).drop (i + 1)) ((h + 1) % hp) ++ ((H h).drop (i + 1)).reverse) := by
          rw [hnx]
          have hb2 : backS hp 2 h H ((H h).take i) ((H h).drop (i + 1)) = va_up (va_up H h ((H h).take i)) ((h + 1) % hp) (H ((h + 1) % hp) ++ ((H h).drop (i + 1)).reverse) := by
            unfold backS
            rw [if_neg (by omega), if_pos ⟨rfl, q1⟩]
          rw [hb2]
          funext k
          unfold va_up
          repeat' split
          all_goals rfl
        rw [this]
        exact u2
      · show o.2.2 x = _
        rw [u3 x]
        simp [upd, q1]
    · refine zex (G := fX3_dig_J168 fuel (nI h) (nI i) (nI ba) li2 (upd has g (nI c)) ld2 (nI (all + wv)) pi1 (upd hts h (nI (i + ((H h).drop (i + 1)).length))) (upd sps c zAw)) ?_ (turned ba hba (by omega))
      simp (disch := omega) only [zlit, zz, if_pos, if_neg, if_true, if_false, zgd', zl, zbs, zbz, encz]
  · refine zex (G := fX3_dig_J168 fuel (nI h) (nI i) (nI ba) li2 (upd has g (nI c)) ld2 (nI (all + wv)) pi1 (upd hts h (nI (i + ((H h).drop (i + 1)).length))) (upd sps c zAw)) ?_ (turned ba hba (by omega))
    simp (disch := omega) only [zlit, zz, if_pos, if_neg, if_true, if_false, zgd', zl, zbs, zbz, encz]
