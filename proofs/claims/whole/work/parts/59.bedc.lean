/-! The class: coats are taken out, turned over, moved. -/
/-- one less than k: -1 for 0 -/
def ixm (k : Nat) : Int32 := nI k - 1
theorem ixm_0 : ixm 0 = zAw := rfl
theorem ixm_s (k : Nat) : ixm (k + 1) = nI k := nI_pred k
theorem ixm_toInt {k : Nat} (h : k < 1000) : (ixm k).toInt = (k : Int) - 1 := by
  cases k with
  | zero => rfl
  | succ k => rw [ixm_s, nI_toInt (by omega)]; omega
theorem ixm_lt {k i : Nat} (hk : k < 1000) (hi : i < 1000) : (ixm k < nI i) = (k ≤ i) := by
  apply propext
  rw [Int32.lt_iff_toInt_lt, ixm_toInt hk, nI_toInt (by omega)]
  omega
theorem ixm_le {k i : Nat} (hk : k < 1000) (hi : i < 1000) : (ixm k ≤ nI i) = (k ≤ i + 1) := by
  apply propext
  rw [Int32.le_iff_toInt_le, ixm_toInt hk, nI_toInt (by omega)]
  omega
theorem ixm_ge {k i : Nat} (hk : k < 1000) (hi : i < 1000) : (nI i ≤ ixm k) = (i < k) := by
  apply propext
  rw [Int32.le_iff_toInt_le, ixm_toInt hk, nI_toInt (by omega)]
  omega
theorem ixm_m1 {k : Nat} : nI k + zAw = ixm k := by
  cases k with
  | zero => rfl
  | succ k => rw [ixm_s]; exact pk_m1 k
theorem ixm_pos {k : Nat} (h : 0 < k) : ixm k = nI (k - 1) := by
  obtain ⟨j, rfl⟩ : ∃ j, k = j + 1 := ⟨k - 1, by omega⟩
  exact ixm_s j
/-- shifting down from i on: taking out -/
theorem sX0_takeOut_L26 {h L : Nat} (h3 : h < 3) (hL : L ≤ 9) (hts sps : Nat → Int32) (hh : hts h = nI L) :
    ∀ (m n i : Nat) (pi : Nat → Nat → Int32), i + m = L → m < n → ∃ pi', fX0_takeOut_L26 (nI h) n (nI i) pi hts sps = some (pi', hts, sps) ∧ (∀ k, k ≠ h → pi' k = pi k) ∧ ∀ j, pi' h j = if i ≤ j ∧ j < L then pi h (j + 1) else pi h j := by
  intro m
  induction m with
  | zero =>
    intro n i pi h1 h2
    obtain ⟨n, rfl⟩ : ∃ k, n = k + 1 := ⟨n - 1, by omega⟩
    rw [fX0_takeOut_L26]
    simp (disch := omega) only [zlit, zz, if_pos, if_neg, if_true, if_false, zgd', zl, zbs, zbz, encz, hh]
    exact ⟨pi, rfl, fun k _ => rfl, fun j => rfl⟩
  | succ m ih =>
    intro n i pi h1 h2
    obtain ⟨n, rfl⟩ : ∃ k, n = k + 1 := ⟨n - 1, by omega⟩
    rw [fX0_takeOut_L26]
    simp (disch := omega) only [zlit, zz, if_pos, if_neg, if_true, if_false, zgd', zl, zbs, zbz, encz, hh]
    obtain ⟨pi', e1, e2, e3⟩ := ih n (i + 1) (va_up pi h (upd (pi h) i (pi h (i + 1)))) (by omega) (by omega)
    refine ⟨pi', e1, fun k hk => by rw [e2 k hk]; simp [va_up, hk], fun j => ?_⟩
    rw [e3 j]
    simp only [va_up, upd, if_true]
    repeat' split
    all_goals first | rfl | omega | (congr 1; omega)
theorem cB_take {H : HP} {pi pi' : Nat → Nat → Int32} {hts : Nat → Int32} {h c : Nat} {base above : List Nat} (hB : cB H pi hts) (hH : H h = base ++ c :: above) (e2 : ∀ k, k ≠ h → pi' k = pi k) (e3 : ∀ j, pi' h j = if base.length ≤ j ∧ j < base.length + above.length then pi h (j + 1) else pi h j) :
    cB (va_up H h (base ++ above)) pi' (upd hts h (nI (base.length + above.length))) := by
  intro k hk
  unfold va_up upd
  by_cases q : k = h
  · subst q
    simp only [if_true]
    refine ⟨by simp, fun i x hx => ?_⟩
    have hr := (hB k hk).2
    rw [hH] at hr
    rw [e3 i]
    rw [List.getElem?_append] at hx
    split at hx
    · rename_i hi
      rw [if_neg (by omega)]
      exact hr i x (by rw [List.getElem?_append_left hi]; exact hx)
    · rename_i hi
      have hlt := (List.getElem?_eq_some_iff.mp hx).1
      rw [if_pos (by omega)]
      exact hr (i + 1) x (by rw [List.getElem?_append_right (by omega), show i + 1 - base.length = (i - base.length) + 1 by omega, List.getElem?_cons_succ]; exact hx)
  · simp only [q, if_false]
    rw [e2 k q]
    exact hB k hk
theorem sX0_takeOut {fuel h c : Nat} {H : HP} {pi : Nat → Nat → Int32} {hts sps : Nat → Int32} {base above : List Nat} (hf : 100 < fuel) (h3 : h < 3) (hB : cB H pi hts) (hH : H h = base ++ c :: above) (hl : (H h).length ≤ 10) (hc : c < 10) :
    ∃ pi', fX0_takeOut fuel pi hts sps (nI h) (nI base.length) = some (pi', upd hts h (nI (base.length + above.length)), upd sps c zAw) ∧ cB (va_up H h (base ++ above)) pi' (upd hts h (nI (base.length + above.length))) := by
  obtain ⟨b1, b2⟩ := hB h h3
  rw [hH] at b1 b2 hl
  have hl2 : base.length + above.length + 1 ≤ 10 := by simp at hl; omega
  have b3 := b2 base.length c (by simp)
  have b1' : hts h = nI (base.length + above.length + 1) := by rw [b1]; simp; rfl
  unfold fX0_takeOut
  simp (disch := omega) only [zlit, zz, if_pos, if_neg, if_true, if_false, zgd', zl, zbs, zbz, encz, b3, b1', Nat.add_sub_cancel]
  obtain ⟨pi', e1, e2, e3⟩ := sX0_takeOut_L26 h3 (show base.length + above.length ≤ 9 by omega) (upd hts h (nI (base.length + above.length))) (upd sps c zAw) (by simp [upd]) above.length fuel base.length pi (by omega) (by omega)
  exact ⟨pi', e1, cB_take hB hH e2 e3⟩
/-- swapping inwards: turning over -/
theorem sX0_turnFrom_L12 {h : Nat} (h3 : h < 3) : ∀ (m n lo hi : Nat) (pi : Nat → Nat → Int32), hi ≤ lo + m → hi ≤ 10 → lo ≤ 10 → m < n → ∃ pi', fX0_turnFrom_L12 (nI h) n (nI lo) (ixm hi) pi = some pi' ∧ (∀ k, k ≠ h → pi' k = pi k) ∧ ∀ j, pi' h j = if lo ≤ j ∧ j < hi then pi h (lo + (hi - 1) - j) else pi h j := by
  intro m
  induction m with
  | zero =>
    intro n lo hi pi h1 h2 h2' h4
    obtain ⟨n, rfl⟩ : ∃ k, n = k + 1 := ⟨n - 1, by omega⟩
    rw [fX0_turnFrom_L12]
    simp (disch := omega) only [zlit, zz, if_pos, if_neg, if_true, if_false, zgd', zl, zbs, zbz, encz, ixm_le]
    exact ⟨pi, rfl, fun k _ => rfl, fun j => rfl⟩
  | succ m ih =>
    intro n lo hi pi h1 h2 h2' h4
    obtain ⟨n, rfl⟩ : ∃ k, n = k + 1 := ⟨n - 1, by omega⟩
    rw [fX0_turnFrom_L12]
    by_cases q : hi ≤ lo + 1
    · simp (disch := omega) only [zlit, zz, if_pos, if_neg, if_true, if_false, zgd', zl, zbs, zbz, encz, ixm_le]
      refine ⟨pi, rfl, fun k _ => rfl, fun j => ?_⟩
      split
      · congr 1
        omega
      · rfl
    · obtain ⟨h', rfl⟩ : ∃ k, hi = k + 1 := ⟨hi - 1, by omega⟩
      simp (disch := omega) only [zlit, zz, if_pos, if_neg, if_true, if_false, zgd', zl, zbs, zbz, encz, ixm_s, ixm_m1]
      obtain ⟨pi', e1, e2, e3⟩ := ih n (lo + 1) h' (va_up (va_up pi h (upd (pi h) lo (pi h h'))) h (upd (va_up pi h (upd (pi h) lo (pi h h')) h) h' (pi h lo))) (by omega) (by omega) (by omega) (by omega)
      rw [ixm_pos (by omega)] at e1
      refine ⟨pi', e1, fun k hk => by rw [e2 k hk]; simp [va_up, hk], fun j => ?_⟩
      rw [e3 j]
      simp only [va_up, upd, if_true]
      repeat' split
      all_goals first | rfl | omega | (congr 1; omega)
theorem cB_turn {H : HP} {pi pi' : Nat → Nat → Int32} {hts : Nat → Int32} {h : Nat} {base above : List Nat} (hB : cB H pi hts) (hH : H h = base ++ above) (e2 : ∀ k, k ≠ h → pi' k = pi k) (e3 : ∀ j, pi' h j = if base.length ≤ j ∧ j < base.length + above.length then pi h (base.length + (base.length + above.length - 1) - j) else pi h j) :
    cB (va_up H h (base ++ above.reverse)) pi' hts := by
  intro k hk
  unfold va_up
  by_cases q : k = h
  · subst q
    simp only [if_true]
    have hr := (hB k hk).2
    have hl := (hB k hk).1
    rw [hH] at hr hl
    refine ⟨by rw [hl]; simp, fun i x hx => ?_⟩
    rw [e3 i]
    rw [List.getElem?_append] at hx
    split at hx
    · rename_i hi
      rw [if_neg (by omega)]
      exact hr i x (by rw [List.getElem?_append_left hi]; exact hx)
    · rename_i hi
      have hlt := (List.getElem?_eq_some_iff.mp hx).1
      rw [List.length_reverse] at hlt
      rw [if_pos (by omega)]
      rw [List.getElem?_reverse hlt] at hx
      refine hr _ x ?_
      rw [List.getElem?_append_right (by omega), ← hx]
      congr 1
      omega
  · simp only [q, if_false]
    rw [e2 k q]
    exact hB k hk
theorem sX0_turnFrom {fuel h : Nat} {H : HP} {pi : Nat → Nat → Int32} {hts : Nat → Int32} {base above : List Nat} (hf : 100 < fuel) (h3 : h < 3) (hB : cB H pi hts) (hH : H h = base ++ above) (hl : (H h).length ≤ 10) :
    ∃ pi', fX0_turnFrom fuel pi hts (nI h) (nI base.length) = some pi' ∧ cB (va_up H h (base ++ above.reverse)) pi' hts := by
  have b1 := (hB h h3).1
  have hl2 : base.length + above.length ≤ 10 := by rw [hH] at hl; simpa using hl
  have b1' : hts h = nI (base.length + above.length) := by rw [b1, hH]; simp
  unfold fX0_turnFrom
  have e0 : (1 : Int32) = nI 1 := rfl
  have e9 : nI (base.length + above.length) - nI 1 = ixm (base.length + above.length) := rfl
  simp (disch := omega) only [zz, zgd', b1', zl, e0, e9]
  obtain ⟨pi', e1, e2, e3⟩ := sX0_turnFrom_L12 h3 10 fuel base.length (base.length + above.length) pi (by omega) (by omega) (by omega) (by omega)
  exact ⟨pi', e1, cB_turn hB hH e2 e3⟩
/-- one by one, the topmost first, onto the next heap -/
theorem sX0_moveFrom_L28 {fuel h nx : Nat} (hf : 100 < fuel) (h3 : h < 3) (hn : nx < 3) (hne : nx ≠ h) (base : List Nat) (hb : base.length ≤ 10) :
    ∀ (rr : List Nat) (n : Nat) (H : HP) (pi : Nat → Nat → Int32) (hts sps : Nat → Int32), rr.length < n → cB H pi hts → H h = base ++ rr.reverse → (H h).length + (H nx).length ≤ 10 → (∀ x ∈ rr, x < 10) →
      ∃ o, fX0_moveFrom_L28 fuel (nI h) (nI base.length) n (nI nx) (ixm (base.length + rr.length)) pi hts sps = some o ∧ cB (va_up (va_up H h base) nx (H nx ++ rr)) o.1 o.2.1 ∧ ∀ x, o.2.2 x = if x ∈ rr then nI nx else sps x := by
  intro rr
  induction rr with
  | nil =>
    intro n H pi hts sps h1 hB hH hl hx
    obtain ⟨n, rfl⟩ : ∃ k, n = k + 1 := ⟨n - 1, by omega⟩
    rw [fX0_moveFrom_L28]
    simp (disch := omega) only [zlit, zz, if_pos, if_neg, if_true, if_false, zgd', zl, zbs, zbz, encz, List.length_nil, ixm_lt]
    refine ⟨_, rfl, ?_, fun x => by simp⟩
    have e : va_up (va_up H h base) nx (H nx ++ []) = H := by
      funext k
      unfold va_up
      split
      · rename_i q; rw [q]; simp
      · split
        · rename_i q; rw [q, hH]; simp
        · rfl
    rw [e]
    exact hB
  | cons x rr ih =>
    intro n H pi hts sps h1 hB hH hl hx
    obtain ⟨n, rfl⟩ : ∃ k, n = k + 1 := ⟨n - 1, by omega⟩
    rw [List.length_cons] at h1
    rw [List.reverse_cons, ← List.append_assoc] at hH
    have hlen : (H h).length = base.length + rr.length + 1 := by rw [hH]; simp; omega
    rw [fX0_moveFrom_L28, List.length_cons, ← Nat.add_assoc, ixm_s]
    have bx : pi h (base.length + rr.length) = nI x := (hB h h3).2 _ x (by rw [hH]; rw [List.getElem?_append_right (by simp)]; simp)
    have hx10 := hx x List.mem_cons_self
    have hnx : upd hts h (nI (base.length + rr.length)) nx = nI (H nx).length := by simp [upd, hne, (hB nx hn).1]
    simp (disch := omega) only [zlit, zz, if_pos, if_neg, if_true, if_false, zgd', zl, zbs, zbz, encz, bx, sX0_lay hn hx10 hnx, ixm_m1]
    -- the heaps behind this step
    have hB1 : cB (va_up H h (base ++ rr.reverse)) pi (upd hts h (nI (base.length + rr.length))) := by
      intro k hk
      unfold va_up upd
      by_cases q : k = h
      · subst q
        simp only [if_true]
        refine ⟨by simp, ?_⟩
        have := (hB k hk).2
        rw [hH] at this
        exact arr_sub this
      · simp only [q, if_false]
        exact hB k hk
    have hB2 := cB_push (h := nx) (g := x) hB1
    have en : va_up H h (base ++ rr.reverse) nx = H nx := by simp [va_up, hne]
    rw [en] at hB2
    obtain ⟨o, e1, e2, e3⟩ := ih n (va_up (va_up H h (base ++ rr.reverse)) nx (H nx ++ [x])) _ _ (upd sps x (nI nx)) (by omega) hB2 (by simp [va_up, Ne.symm hne]) (by simp [va_up, Ne.symm hne]; omega) (fun y hy => hx y (List.mem_cons_of_mem _ hy))
    refine ⟨o, e1, ?_, fun y => ?_⟩
    · have e : va_up (va_up (va_up (va_up H h (base ++ rr.reverse)) nx (H nx ++ [x])) h base) nx (va_up (va_up H h (base ++ rr.reverse)) nx (H nx ++ [x]) nx ++ rr) = va_up (va_up H h base) nx (H nx ++ x :: rr) := by
        funext k
        unfold va_up
        by_cases q : k = nx
        · simp [q]
        · by_cases q2 : k = h <;> simp [q, q2]
      rw [e] at e2
      exact e2
    · rw [e3 y]
      unfold upd
      by_cases q : y = x
      · subst q; simp
      · simp [q]
theorem sX0_moveFrom {fuel hp h : Nat} {H : HP} {pi : Nat → Nat → Int32} {hts sps : Nat → Int32} {base above : List Nat} (hf : 100 < fuel) (hhp : hp ≤ 3) (h1 : 1 < hp) (hh : h < hp) (hB : cB H pi hts) (hH : H h = base ++ above) (hl : (H h).length + (H ((h + 1) % hp)).length ≤ 10) (hx : ∀ x ∈ above, x < 10) :
    ∃ o, fX0_moveFrom fuel (nI hp) pi hts sps (nI h) (nI base.length) = some o ∧ cB (va_up (va_up H h base) ((h + 1) % hp) (H ((h + 1) % hp) ++ above.reverse)) o.1 o.2.1 ∧ ∀ x, o.2.2 x = if x ∈ above then nI ((h + 1) % hp) else sps x := by
  have b1 := (hB h (by omega)).1
  have hl2 : (H h).length = base.length + above.length := by rw [hH]; simp
  have b1' : hts h = nI (base.length + above.length) := by rw [b1, hl2]
  have hn3 := Nat.mod_lt (h + 1) (show 0 < hp by omega)
  have hne : (h + 1) % hp ≠ h := by
    by_cases q : h + 1 < hp
    · rw [Nat.mod_eq_of_lt q]; omega
    · rw [show h + 1 = hp by omega, Nat.mod_self]; omega
  have key := sX0_moveFrom_L28 (fuel := fuel) hf (show h < 3 by omega) (show (h + 1) % hp < 3 by omega) hne base (by omega) above.reverse fuel H pi hts sps (by rw [List.length_reverse]; omega) hB (by rw [List.reverse_reverse]; exact hH) hl (fun x h => hx x (List.mem_reverse.mp h))
  rw [List.length_reverse] at key
  simp only [List.mem_reverse] at key
  unfold fX0_moveFrom
  have e0 : (1 : Int32) = nI 1 := rfl
  have e00 : (0 : Int32) = nI 0 := rfl
  have e9 : nI (base.length + above.length) - nI 1 = ixm (base.length + above.length) := rfl
  by_cases q : h + 1 < hp
  · simp (disch := omega) only [e0, e00, zz, zgd', zl, b1', e9, if_neg]
    rw [Nat.mod_eq_of_lt q] at key ⊢
    exact key
  · have e : (h + 1) % hp = 0 := by rw [show h + 1 = hp by omega, Nat.mod_self]
    simp (disch := omega) only [e0, e00, zz, zgd', zl, b1', e9, if_pos]
    rw [e] at key ⊢
    exact key
