/-! The model: one goes. -/
/-- the rows of the model hold a state of the going -/
def mGr (N : Nat) (cs rem : List Nat) (wh : Nat → Nat) (s : GoS) (li be en ha ld tk : Nat → Int32) (all bu : Int32) : Prop :=
  (∀ x ∈ cs, x ∉ rem → li x = nI (s.2.2.1 x) ∧ ha x = enc (s.2.1 x) ∧ be x = nI (s.2.2.2.1 x) ∧ en x = nI (s.2.2.2.2.1 x)) ∧ (∀ x, x < N → ld x = nI (s.2.2.2.2.2.1 x)) ∧ (∀ x, x < N → wh x < 3 → tk x = zb01 (decide (x ∉ flat s.1))) ∧ all = nI s.2.2.2.2.2.2.1 ∧ bu = nI s.2.2.2.2.2.2.2
theorem sX10_goOne_L95 {fuel N hp ba mi g h i i0 : Nat} {bl : Nat → Bool} {ki fi mn li be en ha ld tk ab : Nat → Int32} {all bu : Int32} {H : HP} {pl hi : Nat → Int32} {d : (Nat → Int32) × (Nat → Int32) × (Nat → Int32) × (Nat → Int32) × (Nat → Int32) × (Nat → Int32) × (Nat → Int32)} (hf : 100 < fuel) (hN : N ≤ 10) (hhp : hp ≤ 3) (hmi : mi < 100) (hbl : ∀ x, x < N → fX10_isBlack fuel ki (nI x) = some (zb01 (bl x))) (h3 : h < hp) (hg : g < N) (hk : okH N H) (hnd : ∀ k, (H k).Nodup) (hB : mB H pl hi) (hha : ha g = zNo) (hd : fX10_dig fuel ki fi (nI hp) (nI ba) pl hi li ha ld tk ab (nI g) (nI h) (nI i) = some d) (hdg : ∃ c, c < 100 ∧ d.2.2.2.1 g = nI c)
    (hi0 : lastIx (fun x => decide (x = g)) (H h) = some i0) (hi1 : i0 < 100) (hix : (if mi = 1 ∧ bl g = true then lastIx bl (H h) else some i0) = some i) (hi2 : i < 100) (hout : ∀ k, k < h → g ∉ H k) :
    ∀ (m n v : Nat), v + m = h → m + 1 < n → fX10_goOne_L95 fuel ki fi (nI hp) (nI ba) (nI mi) mn (nI g) n (nI v) pl hi li be en ha ld tk ab all bu = fX10_goOne_J162 mn (nI g) d.1 d.2.1 d.2.2.1 be en d.2.2.2.1 d.2.2.2.2.1 d.2.2.2.2.2.1 d.2.2.2.2.2.2 all bu := by
  obtain ⟨c, hc, hdc⟩ := hdg
  intro m
  induction m with
  | zero =>
    intro n v h1 h2
    obtain ⟨n, rfl⟩ : ∃ k, n = k + 1 := ⟨n - 1, by omega⟩
    have hv : v = h := by omega
    subst hv
    -- behind the digging
    have aft : fX10_goOne_J156 (fX10_goOne_L95 fuel ki fi (nI hp) (nI ba) (nI mi) mn (nI g) n) (nI v) d.1 d.2.1 d.2.2.1 be en d.2.2.2.1 d.2.2.2.2.1 d.2.2.2.2.2.1 d.2.2.2.2.2.2 all bu = fX10_goOne_J162 mn (nI g) d.1 d.2.1 d.2.2.1 be en d.2.2.2.1 d.2.2.2.2.1 d.2.2.2.2.2.1 d.2.2.2.2.2.2 all bu := by
      obtain ⟨n, rfl⟩ : ∃ k, n = k + 1 := ⟨n - 1, by omega⟩
      unfold fX10_goOne_J156
      simp (disch := omega) only [zlit, zz, if_pos, if_neg, if_true, if_false, zgd', zl, zbs, zbz, encz]
      rw [fX10_goOne_L95]
      by_cases q : hp ≤ v + 1
      · simp (disch := omega) only [zlit, zz, if_pos, if_neg, if_true, if_false, zgd', zl, zbs, zbz, encz]
      · simp (disch := omega) only [zlit, zz, if_pos, if_neg, if_true, if_false, zgd', zl, zbs, zbz, encz, hdc]
    rw [fX10_goOne_L95]
    simp (disch := omega) only [zlit, zz, if_pos, if_neg, if_true, if_false, zgd', zl, zbs, zbz, encz, hha, sX10_placeOf hf hN (show v < 3 by omega) hg hk hB (hnd v), hi0]
    by_cases q : mi = 1
    · cases qb : bl g with
      | true =>
        rw [if_pos ⟨q, qb⟩] at hix
        simp (disch := omega) only [zlit, zz, if_pos, if_neg, if_true, if_false, zgd', zl, zbs, zbz, encz, hbl g hg, qb, Bool.true_eq_false, sX10_topBlack hf hbl (show v < 3 by omega) hk hB, hix, ixm_s, hd]
        exact aft
      | false =>
        rw [if_neg (by simp [qb])] at hix
        cases hix
        simp (disch := omega) only [zlit, zz, if_pos, if_neg, if_true, if_false, zgd', zl, zbs, zbz, encz, hbl g hg, qb, hd]
        exact aft
    · rw [if_neg (by simp [q])] at hix
      cases hix
      simp (disch := omega) only [zlit, zz, if_pos, if_neg, if_true, if_false, zgd', zl, zbs, zbz, encz, hd]
      exact aft
  | succ m ih =>
    intro n v h1 h2
    obtain ⟨n, rfl⟩ : ∃ k, n = k + 1 := ⟨n - 1, by omega⟩
    have hno : lastIx (fun x => decide (x = g)) (H v) = none := lastIx_none.mpr (fun x hx => by
      simp only [decide_eq_false_iff_not]
      exact fun e => hout v (by omega) (e ▸ hx))
    rw [fX10_goOne_L95]
    have hlt : zNo < nI 0 := by decide
    simp (disch := omega) only [zlit, zz, if_pos, if_neg, if_true, if_false, zgd', zl, zbs, zbz, encz, hha, sX10_placeOf hf hN (show v < 3 by omega) hg hk hB (hnd v), hno, fX10_goOne_J156]
    exact ih n (v + 1) (by omega) (by omega)
theorem sX10_takeAny_L2 {fuel N hp ba g : Nat} {bl : Nat → Bool} {ki fi li ha ld tk ab : Nat → Int32} {H : HP} {pl hi : Nat → Int32} (hf : 100 < fuel) (hhp : hp ≤ 3) (hbl : ∀ x, x < N → fX10_isBlack fuel ki (nI x) = some (zb01 (bl x))) (hk : okH N H) (hB : mB H pl hi) :
    ∀ (m n v : Nat), v + m = hp → m < n → fX10_takeAny_L2 fuel ki fi (nI hp) (nI ba) (nI g) n (nI v) pl hi li ha ld tk ab = (match (List.range' v m).find? (fun h => (H h).any bl) with | none => some (pl, hi, li, ha, ld, tk, ab) | some h => fX10_dig fuel ki fi (nI hp) (nI ba) pl hi li ha ld tk ab (nI g) (nI h) (ixm (match lastIx bl (H h) with | none => 0 | some i => i + 1))) := by
  intro m
  induction m with
  | zero =>
    intro n v h1 h2
    obtain ⟨n, rfl⟩ : ∃ k, n = k + 1 := ⟨n - 1, by omega⟩
    rw [fX10_takeAny_L2]
    simp (disch := omega) only [zlit, zz, if_pos, if_neg, if_true, if_false, zgd', zl, zbs, zbz, encz]
    rfl
  | succ m ih =>
    intro n v h1 h2
    obtain ⟨n, rfl⟩ : ∃ k, n = k + 1 := ⟨n - 1, by omega⟩
    have hlt : ∀ i, lastIx bl (H v) = some i → i < 10 := fun i hi => by have := lastIx_lt hi; have := (hk v).1; omega
    rw [fX10_takeAny_L2, List.range'_succ, List.find?_cons]
    cases hq : lastIx bl (H v) with
    | none =>
      have : (H v).any bl = false := by
        rw [List.any_eq_false]
        intro x hx
        simp [lastIx_none.mp hq x hx]
      have hlt : zAw < nI 0 := by decide
      simp (disch := omega) only [zlit, zz, if_pos, if_neg, if_true, if_false, zgd', zl, zbs, zbz, encz, sX10_topBlack hf hbl (show v < 3 by omega) hk hB, hq, ixm_0, hlt, this]
      exact ih n (v + 1) (by omega) (by omega)
    | some i =>
      have hi10 := hlt i hq
      have : (H v).any bl = true := by
        rw [List.any_eq_true]
        obtain ⟨c, c1, c2⟩ := lastIx_p hq
        exact ⟨c, List.mem_of_getElem? c1, c2⟩
      simp (disch := omega) only [zlit, zz, if_pos, if_neg, if_true, if_false, zgd', zl, zbs, zbz, encz, sX10_topBlack hf hbl (show v < 3 by omega) hk hB, hq, ixm_s, this, fX10_takeAny_J20]
      cases fX10_dig fuel ki fi (nI hp) (nI ba) pl hi li ha ld tk ab (nI g) (nI v) (nI i) <;> rfl
theorem flat_nd {H : HP} (h : (flat H).Nodup) (k : Nat) (k3 : k < 3) : (H k).Nodup := by
  have : (H k).Sublist (flat H) := by
    unfold flat
    rcases (show k = 0 ∨ k = 1 ∨ k = 2 by omega) with rfl | rfl | rfl
    · exact List.sublist_append_left _ _
    · exact (List.sublist_append_left _ _).trans (List.sublist_append_right _ _)
    · exact (List.sublist_append_right _ _).trans (List.sublist_append_right _ _)
  exact h.sublist this
theorem sX10_goOne {fuel N hp ba mi g : Nat} {bl : Nat → Bool} {wt mn wh : Nat → Nat} {ki fi mr wr li be en ha ld tk ab : Nat → Int32} {all bu : Int32} {cs rem : List Nat} {s : GoS} {pl hi : Nat → Int32} (hf : 100 < fuel) (hN : N ≤ 10) (hhp : hp ≤ 3) (hba : ba ≤ 2) (hmi : mi < 100) (hbl : ∀ x, x < N → fX10_isBlack fuel ki (nI x) = some (zb01 (bl x))) (hlf : ∀ x, x < N → fX10_liftOf fuel ki fi (nI x) = some (nI (wt x))) (hM : cM mr mn N) (hwh : whOk N wh) (hg : g < N) (hgc : g ∈ cs) (hcs : ∀ x ∈ cs, x < N) (hwr : wr g = encW (wh g)) (hnd : (g :: rem).Nodup)
    (hI : GI N hp (decide (mi = 1)) bl wh (g :: rem) s) (hr : mGr N cs (g :: rem) wh s li be en ha ld tk all bu) (hB : mB s.1 pl hi) :
    ∃ o, fX10_goOne fuel ki fi (nI hp) (nI ba) (nI mi) mr pl hi wr li be en ha ld tk ab all bu (nI g) = some o ∧ mGr N cs rem wh (goOneS hp ba (decide (mi = 1)) bl wt mn wh s g) o.2.2.1 o.2.2.2.1 o.2.2.2.2.1 o.2.2.2.2.2.1 o.2.2.2.2.2.2.1 o.2.2.2.2.2.2.2.1 o.2.2.2.2.2.2.2.2.2.1 o.2.2.2.2.2.2.2.2.2.2 ∧ mB (goOneS hp ba (decide (mi = 1)) bl wt mn wh s g).1 o.1 o.2.1 := by
  obtain ⟨r1, r2, r3, r4, r5⟩ := hr
  have hI' := hI
  obtain ⟨i1, i2, i3, i4, i5, i6, i7, i8, i9⟩ := hI
  obtain ⟨m1, m2⟩ := hM g hg
  obtain ⟨l0, a0⟩ := i7 g List.mem_cons_self
  rw [List.nodup_cons] at hnd
  rw [List.length_cons] at i8 i9
  have hgone : ∀ x ∈ cs, x ∉ rem → ¬ x = g → x ∉ g :: rem := fun x _ hx q h => by
    rcases List.mem_cons.mp h with h | h
    · exact q h
    · exact hx h
  have hu : ∀ (f : Nat → Int32) v, upd f g v g = v := fun f v => by simp [upd]
  have hv1 : vp_nar .boolean (nI 1) = nI 1 := rfl
  unfold fX10_goOne
  by_cases hfr : 9 ≤ wh g
  · have hS : goOneS hp ba (decide (mi = 1)) bl wt mn wh s g = (s.1, va_up s.2.1 g (some g), s.2.2.1, va_up s.2.2.2.1 g (mn g), va_up s.2.2.2.2.1 g (mn g), s.2.2.2.2.2.1, s.2.2.2.2.2.2.1, s.2.2.2.2.2.2.2) := by unfold goOneS; rw [if_pos hfr]
    rw [hS]
    refine zex (G := some (pl, hi, upd li g (nI 0), upd be g (nI (mn g)), upd en g (nI (mn g)), upd (upd ha g zNo) g (nI g), ld, upd tk g (nI 1), ab, all, bu)) ?_ ⟨_, rfl, ⟨fun x hx hxr => ?_, r2, fun x hx h3 => ?_, r4, r5⟩, hB⟩
    · rcases hwh g hg with q | q | q
      · omega
      · have : wr g = nI 9 := by rw [hwr, q]; rfl
        simp (disch := omega) only [zlit, zz, if_pos, if_neg, if_true, if_false, zgd', zl, zbs, zbz, encz, this, fX10_goOne_J37, m1, hv1]
      · have : wr g = zNo := by rw [hwr, q]; rfl
        simp (disch := omega) only [zlit, zz, if_pos, if_neg, if_true, if_false, zgd', zl, zbs, zbz, encz, this, fX10_goOne_J37, m1, hv1]
    · show upd li g (nI 0) x = nI (s.2.2.1 x) ∧ upd (upd ha g zNo) g (nI g) x = enc (va_up s.2.1 g (some g) x) ∧ upd be g (nI (mn g)) x = nI (va_up s.2.2.2.1 g (mn g) x) ∧ upd en g (nI (mn g)) x = nI (va_up s.2.2.2.2.1 g (mn g) x)
      unfold upd va_up
      by_cases q : x = g
      · subst q; simp only [if_true]; exact ⟨by rw [l0], rfl, trivial, trivial⟩
      · simp only [q, if_false]; exact r1 x hx (hgone x hx hxr q)
    · show upd tk g (nI 1) x = _
      have q : ¬ x = g := fun q => by rw [q] at h3; omega
      simp only [upd, q, if_false]
      exact r3 x hx h3
  · have hw3 : wh g < 3 := by rcases hwh g hg with q | q | q <;> omega
    have hwg : wr g = nI (wh g) := by rw [hwr]; unfold encW; rw [if_neg (by omega)]
    have htk := r3 g hg hw3
    -- a spot was found and dug
    have dug : ∀ h i c, spotS hp (decide (mi = 1)) bl s.1 g = some (h, i) → (s.1 h)[i]? = some c → ∃ d, fX10_dig fuel ki fi (nI hp) (nI ba) pl hi (upd li g (nI 0)) (upd ha g zNo) ld tk ab (nI g) (nI h) (nI i) = some d ∧ (∃ c, c < 100 ∧ d.2.2.2.1 g = nI c) ∧
        ∃ o, fX10_goOne_J162 mr (nI g) d.1 d.2.1 d.2.2.1 be en d.2.2.2.1 d.2.2.2.2.1 d.2.2.2.2.2.1 d.2.2.2.2.2.2 all bu = some o ∧ mGr N cs rem wh (goOneS hp ba (decide (mi = 1)) bl wt mn wh s g) o.2.2.1 o.2.2.2.1 o.2.2.2.2.1 o.2.2.2.2.2.1 o.2.2.2.2.2.2.1 o.2.2.2.2.2.2.2.1 o.2.2.2.2.2.2.2.2.2.1 o.2.2.2.2.2.2.2.2.2.2 ∧ mB (goOneS hp ba (decide (mi = 1)) bl wt mn wh s g).1 o.1 o.2.1 := by
      intro h i c hspot hc
      obtain ⟨hhlt, hilt, c', hc', htk', hdec⟩ := spot_ok hspot
      rw [hc] at hc'
      cases hc'
      have hcN := (i1 h).2 c (List.mem_of_getElem? hc)
      obtain ⟨d, d1, d2, d3, d4, d5, d6⟩ := sX10_dig (fuel := fuel) (ki := ki) (fi := fi) (ba := ba) (has := upd ha g zNo) (tk := tk) (li := upd li g (nI 0)) (a := 0) (ld' := ld) (ld := s.2.2.2.2.2.1) hf hN hhp hba hlf hhlt hg i1 i3 hB hc (by simp [upd]) r2 ab
      refine ⟨d, d1, ⟨c, by omega, by rw [d4]; simp [upd]⟩, ?_⟩
      have hS : goOneS hp ba (decide (mi = 1)) bl wt mn wh s g = (backS hp ba h s.1 ((s.1 h).take i) ((s.1 h).drop (i + 1)), va_up s.2.1 g ((s.1 h)[i]?), va_up s.2.2.1 g (s.2.2.1 g + sumW wt ((s.1 h).drop (i + 1))), va_up s.2.2.2.1 g (max (mn g) s.2.2.2.2.2.2.2),
        va_up s.2.2.2.2.1 g (max (mn g) s.2.2.2.2.2.2.2 + (s.2.2.1 g + sumW wt ((s.1 h).drop (i + 1)))), (fun c => s.2.2.2.2.2.1 c + ((s.1 h).drop (i + 1)).count c), s.2.2.2.2.2.2.1 + sumW wt ((s.1 h).drop (i + 1)), max (mn g) s.2.2.2.2.2.2.2 + (s.2.2.1 g + sumW wt ((s.1 h).drop (i + 1)))) := by
        unfold goOneS
        rw [if_neg hfr, hspot]
      rw [hS]
      have dl := d3 g
      rw [if_pos rfl] at dl
      refine zex (G := some (d.1, d.2.1, d.2.2.1, upd be g (nI (max (mn g) s.2.2.2.2.2.2.2)), upd en g (nI (max (mn g) s.2.2.2.2.2.2.2 + (0 + sumW wt ((s.1 h).drop (i + 1))))), d.2.2.2.1, d.2.2.2.2.1, d.2.2.2.2.2.1, d.2.2.2.2.2.2, nI (s.2.2.2.2.2.2.1 + (0 + sumW wt ((s.1 h).drop (i + 1)))), nI (max (mn g) s.2.2.2.2.2.2.2 + (0 + sumW wt ((s.1 h).drop (i + 1)))))) ?_ ⟨_, rfl, ⟨fun x hx hxr => ?_, d5, fun x hx h3 => ?_, ?_, ?_⟩, d2⟩
      · unfold fX10_goOne_J162
        simp (disch := omega) only [zlit, zz, if_pos, if_neg, if_true, if_false, zgd', zl, zbs, zbz, encz, m1, r5, nI_zmax, hu, dl, r4]
      · show d.2.2.1 x = nI (va_up s.2.2.1 g (s.2.2.1 g + sumW wt ((s.1 h).drop (i + 1))) x) ∧ d.2.2.2.1 x = enc (va_up s.2.1 g ((s.1 h)[i]?) x) ∧ upd be g (nI (max (mn g) s.2.2.2.2.2.2.2)) x = nI (va_up s.2.2.2.1 g (max (mn g) s.2.2.2.2.2.2.2) x) ∧ upd en g (nI (max (mn g) s.2.2.2.2.2.2.2 + (0 + sumW wt ((s.1 h).drop (i + 1))))) x = nI (va_up s.2.2.2.2.1 g (max (mn g) s.2.2.2.2.2.2.2 + (s.2.2.1 g + sumW wt ((s.1 h).drop (i + 1)))) x)
        rw [d3 x, d4, l0, hc]
        unfold upd va_up
        by_cases q : x = g
        · simp only [q, if_true]; exact ⟨trivial, rfl, trivial, trivial⟩
        · simp only [q, if_false]; exact r1 x hx (hgone x hx hxr q)
      · show d.2.2.2.2.2.1 x = zb01 (decide (x ∉ flat (backS hp ba h s.1 ((s.1 h).take i) ((s.1 h).drop (i + 1)))))
        have hbf := (back_flat (ba := ba) (x := x) hhp hhlt hdec i2).1
        rw [d6]
        unfold upd
        by_cases q : x = c
        · rw [if_pos q, decide_eq_true (show ¬ _ from fun h => (hbf.mp h).2 q)]; rfl
        · rw [if_neg q, r3 x hx h3]
          congr 1
          exact decide_eq_decide.mpr (not_congr ⟨fun h => hbf.mpr ⟨h, q⟩, fun h => (hbf.mp h).1⟩)
      · show nI (_ + (0 + _)) = nI (_ + _); rw [Nat.zero_add]
      · show nI (_ + (0 + _)) = nI (_ + (_ + _)); rw [l0]
    by_cases hx : g ∈ flat s.1
    · obtain ⟨h, h3, hgh⟩ := mem_flat.mp hx
      obtain ⟨hsrc, hhlt⟩ := src_in hhp hI' h3 hgh
      obtain ⟨i, c, q1, q2, q3⟩ := src_spot hhp hI' (by omega) hsrc
      obtain ⟨d, d1, d2, d3⟩ := dug h i c q3 q2
      have hnds : ∀ k, (s.1 k).Nodup := fun k => by
        by_cases k3 : k < 3
        · exact flat_nd i2 k k3
        · rw [i4 k (by omega)]; exact List.nodup_nil
      have hilt := lastIx_lt q1
      have hlen := (i1 h).1
      have hi0 : ∃ i0, lastIx (fun x => decide (x = g)) (s.1 h) = some i0 := by
        cases q : lastIx (fun x => decide (x = g)) (s.1 h) with
        | none =>
          have := lastIx_none.mp q g hgh
          simp at this
        | some i0 => exact ⟨i0, rfl⟩
      obtain ⟨i0, hi0⟩ := hi0
      have hi0l := lastIx_lt hi0
      have hix : (if mi = 1 ∧ bl g = true then lastIx bl (s.1 h) else some i0) = some i := by
        rw [← q1]
        split
        · rename_i q
          refine lastIx_congr fun x _ => ?_
          unfold tkS
          rw [decide_eq_true q.1, q.2]
          by_cases e : x = g
          · rw [e, q.2]; simp
          · simp [e]
        · rename_i q
          rw [← hi0]
          refine lastIx_congr fun x _ => ?_
          unfold tkS
          by_cases e1 : mi = 1
          · have : bl g = false := by
              cases e2 : bl g with
              | false => rfl
              | true => exact absurd ⟨e1, e2⟩ q
            simp [this]
          · simp [e1]
      have hL := sX10_goOne_L95 (be := be) (en := en) (mn := mr) (all := all) (bu := bu) hf hN hhp hmi hbl hhlt hg i1 hnds hB (by simp [upd]) d1 d2 hi0 (by omega) hix (by omega) (fun k hk hm => by have := flat_one i2 h3 (show k < 3 by omega) hgh hm; omega) h fuel 0 (by omega) (by omega)
      have htk0 : tk g = nI 0 := by rw [htk, decide_eq_false (fun q => q hx)]; rfl
      refine zex ?_ d3
      rw [← hL]
      simp (disch := omega) only [zlit, zz, if_pos, if_neg, if_true, if_false, zgd', zl, zbs, zbz, encz, hwg, htk0]
    · have htk1 : tk g = nI 1 := by rw [htk, decide_eq_true hx]; rfl
      have hi6 := i6 g List.mem_cons_self (by omega)
      have hmb : mi = 1 ∧ bl g = true := by
        rcases hi6 with q | q
        · exact absurd q hx
        · exact ⟨by simpa using q.1, q.2⟩
      have hsrc := src_out (bl := bl) hhp hx
      have hT := sX10_takeAny_L2 (fi := fi) (ba := ba) (g := g) (li := upd li g (nI 0)) (ha := upd ha g zNo) (ld := ld) (tk := tk) (ab := ab) hf hhp hbl i1 hB hp fuel 0 (by omega) (by omega)
      rw [← List.range_eq_range', ← hsrc] at hT
      cases hq : srcS hp bl s.1 g with
      | some h =>
        obtain ⟨i, c, q1, q2, q3⟩ := src_spot hhp hI' (by omega) hq
        obtain ⟨d, d1, d2, d3⟩ := dug h i c q3 q2
        have hix : lastIx bl (s.1 h) = some i := by
          rw [← q1]
          refine lastIx_congr fun x _ => ?_
          unfold tkS
          rw [decide_eq_true hmb.1, hmb.2]
          by_cases e : x = g
          · rw [e, hmb.2]; simp
          · simp [e]
        rw [hq] at hT
        simp only [hix, ixm_s] at hT
        rw [d1] at hT
        refine zex ?_ d3
        simp (disch := omega) only [zlit, zz, if_pos, if_neg, if_true, if_false, zgd', zl, zbs, zbz, encz, hwg, htk1, fX10_takeAny, hT]
      | none =>
        have hsp0 : spotS hp (decide (mi = 1)) bl s.1 g = none := by simp [spotS, hq]
        have hS : goOneS hp ba (decide (mi = 1)) bl wt mn wh s g = (s.1, s.2.1, s.2.2.1, va_up s.2.2.2.1 g (max (mn g) s.2.2.2.2.2.2.2), va_up s.2.2.2.2.1 g (max (mn g) s.2.2.2.2.2.2.2 + s.2.2.1 g), s.2.2.2.2.2.1, s.2.2.2.2.2.2.1, max (mn g) s.2.2.2.2.2.2.2 + s.2.2.1 g) := by
          unfold goOneS
          rw [if_neg hfr, hsp0]
        rw [hS]
        rw [hq] at hT
        simp only [] at hT
        refine zex (G := some (pl, hi, upd li g (nI 0), upd be g (nI (max (mn g) s.2.2.2.2.2.2.2)), upd en g (nI (max (mn g) s.2.2.2.2.2.2.2 + 0)), upd ha g zNo, ld, tk, ab, nI (s.2.2.2.2.2.2.1 + 0), nI (max (mn g) s.2.2.2.2.2.2.2 + 0))) ?_ ⟨_, rfl, ⟨fun x hx hxr => ?_, r2, r3, rfl, ?_⟩, hB⟩
        · simp (disch := omega) only [zlit, zz, if_pos, if_neg, if_true, if_false, zgd', zl, zbs, zbz, encz, hwg, htk1, fX10_takeAny, hT, fX10_goOne_J162, m1, r5, nI_zmax, hu, r4]
        · show upd li g (nI 0) x = nI (s.2.2.1 x) ∧ upd ha g zNo x = enc (s.2.1 x) ∧ upd be g (nI (max (mn g) s.2.2.2.2.2.2.2)) x = nI (va_up s.2.2.2.1 g (max (mn g) s.2.2.2.2.2.2.2) x) ∧ upd en g (nI (max (mn g) s.2.2.2.2.2.2.2 + 0)) x = nI (va_up s.2.2.2.2.1 g (max (mn g) s.2.2.2.2.2.2.2 + s.2.2.1 g) x)
          unfold upd va_up
          by_cases q : x = g
          · simp only [q, if_true]; exact ⟨by rw [l0], by rw [a0]; rfl, trivial, by rw [l0]⟩
          · simp only [q, if_false]; exact r1 x hx (hgone x hx hxr q)
        · show nI _ = nI _; rw [l0]
