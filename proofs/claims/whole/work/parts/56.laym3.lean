theorem sX10_hangs {fuel hk g : Nat} (h1 : hk < 2 ^ 31) (h2 : g < 10) : fX10_hangs fuel (nI hk) (nI g) = some (zb01 (hangS hk g)) := sX5_hasHook (fuel := fuel) h1 h2
theorem sX10_clear_L8 (la : Int32) : ∀ (m n i : Nat) (hi : Nat → Int32), i + m = 3 → m < n → fX10_clear_L8 n (nI i) hi la = some ((fun j => if i ≤ j ∧ j < 3 then nI 0 else hi j), la) := by
  intro m
  induction m with
  | zero =>
    intro n i hi h1 h2
    obtain ⟨n, rfl⟩ : ∃ k, n = k + 1 := ⟨n - 1, by omega⟩
    rw [fX10_clear_L8]
    simp (disch := omega) only [zlit, zz, if_pos, if_neg, if_true, if_false, zgd', zl, zbs, zbz, encz]
  | succ m ih =>
    intro n i hi h1 h2
    obtain ⟨n, rfl⟩ : ∃ k, n = k + 1 := ⟨n - 1, by omega⟩
    rw [fX10_clear_L8]
    simp (disch := omega) only [zlit, zz, if_pos, if_neg, if_true, if_false, zgd', zl, zbs, zbz, encz]
    rw [ih n (i + 1) _ (by omega) (by omega)]
    congr 2
    funext j
    unfold upd
    repeat' split
    all_goals first | rfl | omega
theorem sX10_clear {fuel : Nat} (hf : 100 < fuel) (hi : Nat → Int32) (la : Int32) : fX10_clear fuel hi la = some ((fun j => if 0 ≤ j ∧ j < 3 then nI 0 else hi j), zNo) := sX10_clear_L8 zNo 3 fuel 0 hi (by omega) (by omega)
/-- the model's loop over those who come -/
theorem sX10_lay_L6 {fuel ho hp hk : Nat} {N : Nat} (hN : N ≤ 10) {mn : Nat → Nat} {mi co ru : Nat → Int32} {L cs : List Nat} (hf : 100 < fuel) (hhp : hp ≤ 3) (h0 : 0 < hp) (hho : ho < 100) (hM : cM mi mn N) (hL : L.length ≤ 6) (hru : ∀ i x, L[i]? = some x → ru i = nI x ∧ x ≤ 5) (hhk : hk < 2 ^ 31) (hco : arr co cs) (hcs : cs.length ≤ 10) (hcs2 : ∀ x ∈ cs, x < N) :
    ∀ (m n i : Nat) (S : LayS) (pl hi wh : Nat → Int32), i + m = cs.length → m < n → mB S.1 pl hi → okH N S.1 → (∀ h, (S.1 h).length ≤ i) → (∀ t, S.2.1 = some t → t < hp) → (∀ x ∈ cs.take i, wh x = encW (S.2.2 x)) →
      ∃ o, fX10_lay_L6 fuel (nI hp) (nI ho) (nI hk) (nI L.length) ru co (nI cs.length) mi n (nI i) pl hi wh (enc S.2.1) = some o ∧ (let S' := (cs.drop i).foldl (layOneS hp ho L (hangS hk) mn) S; mB S'.1 o.1 o.2.1 ∧ o.2.2.2 = enc S'.2.1 ∧ okH N S'.1 ∧ (∀ h, (S'.1 h).length ≤ cs.length) ∧ ∀ x ∈ cs, o.2.2.1 x = encW (S'.2.2 x)) := by
  intro m
  induction m with
  | zero =>
    intro n i S pl hi wh h1 h2 hB hk' hlen hlat hsp
    obtain ⟨n, rfl⟩ : ∃ k, n = k + 1 := ⟨n - 1, by omega⟩
    rw [fX10_lay_L6]
    simp (disch := omega) only [zlit, zz, if_pos, if_neg, if_true, if_false, zgd', zl, zbs, zbz, encz]
    rw [List.drop_eq_nil_of_le (by omega)]
    rw [List.take_of_length_le (by omega)] at hsp
    exact ⟨_, rfl, hB, rfl, hk', fun h => Nat.le_trans (hlen h) (by omega), hsp⟩
  | succ m ih =>
    intro n i S pl hi wh h1 h2 hB hk' hlen hlat hsp
    obtain ⟨n, rfl⟩ : ∃ k, n = k + 1 := ⟨n - 1, by omega⟩
    have hi' : i < cs.length := by omega
    have hg : cs[i] < N := hcs2 _ (List.getElem_mem hi')
    have hc := hco i cs[i] (List.getElem?_eq_getElem hi')
    rw [fX10_lay_L6]
    rw [List.drop_eq_getElem_cons hi', List.foldl_cons]
    generalize hgg : cs[i] = g at hg hc ⊢
    have hus : ∀ v : Int32, upd wh g v g = v := fun v => by simp [upd]
    simp (disch := omega) only [zlit, zz, if_pos, if_neg, if_true, if_false, zgd', zl, zbs, zbz, encz, hc, sX10_hangs hhk (show g < 10 by omega), fX10_lay_J80, hus]
    have hspn : ∀ (v : Int32) (w : Nat → Nat), v = encW (w g) → (∀ x, x ≠ g → w x = S.2.2 x) → ∀ x ∈ cs.take (i + 1), upd wh g v x = encW (w x) := by
      intro v w hv hw x hx
      unfold upd
      by_cases q : x = g
      · subst q
        rw [if_pos rfl]
        exact hv
      · rw [if_neg q, hw x q]
        apply hsp
        rw [List.take_succ_eq_append_getElem hi'] at hx
        rcases List.mem_append.mp hx with h | h
        · exact h
        · rw [hgg] at h
          exact absurd (List.mem_singleton.mp h) q
    by_cases hh : hangS hk g = true
    · have hw : whS hp ho L (hangS hk) mn S.1 S.2.1 g = 9 := by simp [whS, hh]
      have hin : fX10_isIn fuel (nI 9) (nI 0) (nI 2) = some (nI 0) := rfl
      simp (disch := omega) only [zlit, zz, if_pos, if_neg, if_true, if_false, zgd', zl, zbs, zbz, encz, hh, Bool.true_eq_false, hin]
      have hS : layOneS hp ho L (hangS hk) mn S g = (S.1, S.2.1, va_up S.2.2 g 9) := by simp [layOneS, hw]
      rw [hS]
      exact ih n (i + 1) (S.1, S.2.1, va_up S.2.2 g 9) pl hi _ (by omega) (by omega) hB hk' (fun h => Nat.le_trans (hlen h) (by omega)) hlat (hspn _ _ (by simp [va_up, encW]) (fun x hx => by simp [va_up, hx]))
    · simp only [hh, if_true]
      have hq := sX10_heapFor_L5 (L := L) hf hhp h0 hho hN hB hk' hM hg hlat hL hru L.length fuel 0 (by omega) (by omega)
      rw [List.drop_zero] at hq
      have hq2 : fX10_heapFor fuel (nI hp) (nI ho) (nI L.length) ru mi pl hi (enc S.2.1) (nI g) = some (enc (forS hp ho (lnS S.1) (tmS mn S.1) S.2.1 (mn g) L)) := hq
      rw [hq2, zbs]
      cases hr : forS hp ho (lnS S.1) (tmS mn S.1) S.2.1 (mn g) L with
      | none =>
        have hw : whS hp ho L (hangS hk) mn S.1 S.2.1 g = 10 := by simp [whS, hh, hr]
        have hS : layOneS hp ho L (hangS hk) mn S g = (S.1, S.2.1, va_up S.2.2 g 10) := by simp [layOneS, hw]
        rw [hS]
        have hin : fX10_isIn fuel zNo (nI 0) (nI 2) = some (nI 0) := rfl
        simp (disch := omega) only [zlit, zz, if_pos, if_neg, if_true, if_false, zgd', zl, zbs, zbz, encz, hin]
        exact ih n (i + 1) (S.1, S.2.1, va_up S.2.2 g 10) pl hi _ (by omega) (by omega) hB hk' (fun h => Nat.le_trans (hlen h) (by omega)) hlat (hspn _ _ (by simp [va_up, encW]) (fun x hx => by simp [va_up, hx]))
      | some h =>
        have h9 := forS_lt h0 L h hr
        have hw : whS hp ho L (hangS hk) mn S.1 S.2.1 g = h := by simp [whS, hh, hr]
        have hS : layOneS hp ho L (hangS hk) mn S g = (va_up S.1 h (S.1 h ++ [g]), some h, va_up S.2.2 g h) := by
          simp [layOneS, hw, show h < 3 by omega]
        rw [hS]
        have hln := hlen h
        have hin : fX10_isIn fuel (nI h) (nI 0) (nI 2) = some (nI 1) := by
          rw [sX10_isIn]
          simp (disch := omega) only [zlit, zz, if_pos, if_neg, if_true, if_false, zgd', zl, zbs, zbz, encz]
          rw [decide_eq_true ⟨by omega, by omega⟩]
          rfl
        simp (disch := omega) only [zlit, zz, if_pos, if_neg, if_true, if_false, zgd', zl, zbs, zbz, encz, hin, sX10_putOn (g := g) (show h < 3 by omega) (hB h (by omega)).1 (show (S.1 h).length < 10 by omega)]
        refine ih n (i + 1) (va_up S.1 h (S.1 h ++ [g]), some h, va_up S.2.2 g h) _ _ _ (by omega) (by omega) (mB_push (fun k _ => (hk' k).1) (by omega) (by omega) hB) ?_ ?_ (fun t ht => by cases ht; omega) (hspn _ _ (by simp [va_up, encW, show ¬ h = 10 by omega]) (fun x hx => by simp [va_up, hx]))
        · intro k
          show (va_up S.1 h (S.1 h ++ [g]) k).length ≤ 10 ∧ ∀ x ∈ va_up S.1 h (S.1 h ++ [g]) k, x < N
          unfold va_up
          split
          · refine ⟨by simp; omega, fun x hx => ?_⟩
            rcases List.mem_append.mp hx with h | h
            · exact (hk' _).2 x h
            · rw [List.mem_singleton.mp h]; exact hg
          · exact hk' k
        · intro k
          show (va_up S.1 h (S.1 h ++ [g]) k).length ≤ i + 1
          unfold va_up
          have := hlen k
          split
          · simp; omega
          · omega
theorem sX10_lay {fuel ho hp hk : Nat} {N : Nat} (hN : N ≤ 10) {mn : Nat → Nat} {mi co ru : Nat → Int32} {L cs : List Nat} (hf : 100 < fuel) (hhp : hp ≤ 3) (h0 : 0 < hp) (hho : ho < 100) (hM : cM mi mn N) (hL : L.length ≤ 6) (hru : ∀ i x, L[i]? = some x → ru i = nI x ∧ x ≤ 5) (hhk : hk < 2 ^ 31) (hco : arr co cs) (hcs : cs.length ≤ 10) (hcs2 : ∀ x ∈ cs, x < N) (pl hi wh : Nat → Int32) (la : Int32) :
    ∃ o, fX10_lay fuel (nI hp) (nI ho) (nI hk) (nI L.length) ru co (nI cs.length) mi pl hi wh la = some o ∧ (let S' := layS hp ho L (hangS hk) mn cs; mB S'.1 o.1 o.2.1 ∧ o.2.2.2 = enc S'.2.1 ∧ okH N S'.1 ∧ (∀ h, (S'.1 h).length ≤ cs.length) ∧ ∀ x ∈ cs, o.2.2.1 x = encW (S'.2.2 x)) := by
  unfold fX10_lay
  rw [sX10_clear hf, zbs]
  exact sX10_lay_L6 (L := L) hN hf hhp h0 hho hM hL hru hhk hco hcs hcs2 cs.length fuel 0 (fun _ => [], none, fun _ => 10) pl _ wh (by omega) (by omega)
    (fun h h3 => ⟨by simp [h3], fun i x hx => by simp at hx⟩) (fun h => ⟨by simp, fun x hx => by simp at hx⟩) (fun h => by simp) (fun t ht => by cases ht) (fun x hx => by simp at hx)
