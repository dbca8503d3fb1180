/-! The class: one goes. -/
theorem sX3_hwb_L15 {N h : Nat} {bl : Nat → Bool} {b : Nat → Int32} {l : List Nat} {pi : Nat → Nat → Int32} {hts : Nat → Int32} (hN : N ≤ 10) (hb : ∀ x, x < N → b x = zb01 (bl x)) (h3 : h < 3) (hl : l.length ≤ 10) (hlN : ∀ x ∈ l, x < N) (hpi : arr (pi h) l) (hhl : hts h = nI l.length) (k2 : Int32 → Option Int32) :
    ∀ (m n i : Nat), i + m = l.length → m < n → fX3_heapWithBlack_L15 b pi hts k2 n (nI h) (nI i) = if (l.drop i).any bl = true then some (nI h) else k2 (nI (h + 1)) := by
  intro m
  induction m with
  | zero =>
    intro n i h1 h2
    obtain ⟨n, rfl⟩ : ∃ k, n = k + 1 := ⟨n - 1, by omega⟩
    rw [fX3_heapWithBlack_L15, List.drop_eq_nil_of_le (by omega)]
    simp (disch := omega) only [zlit, zz, if_pos, if_neg, if_true, if_false, zgd', zl, zbs, zbz, encz, hhl, fX3_heapWithBlack_J55, List.any_nil, Bool.false_eq_true]
  | succ m ih =>
    intro n i h1 h2
    obtain ⟨n, rfl⟩ : ∃ k, n = k + 1 := ⟨n - 1, by omega⟩
    have hi : i < l.length := by omega
    have hc := hpi i l[i] (List.getElem?_eq_getElem hi)
    have hcN := hlN l[i] (List.getElem_mem hi)
    rw [fX3_heapWithBlack_L15, List.drop_eq_getElem_cons hi, List.any_cons]
    generalize l[i] = c at hc hcN ⊢
    simp (disch := omega) only [zlit, zz, if_pos, if_neg, if_true, if_false, zgd', zl, zbs, zbz, encz, hhl, hc, hb c hcN]
    rw [ih n (i + 1) (by omega) (by omega)]
    cases bl c <;> simp
theorem sX3_hwb_L2 {fuel N hp : Nat} {bl : Nat → Bool} {b : Nat → Int32} {H : HP} {pi : Nat → Nat → Int32} {hts : Nat → Int32} (hf : 100 < fuel) (hhp : hp ≤ 3) (hN : N ≤ 10) (hb : ∀ x, x < N → b x = zb01 (bl x)) (hk : okH N H) (hB : cB H pi hts) :
    ∀ (m n i : Nat), i + m = hp → m < n → fX3_heapWithBlack_L2 fuel b (nI hp) pi hts n (nI i) = some (enc ((List.range' i m).find? fun h => (H h).any bl)) := by
  intro m
  induction m with
  | zero =>
    intro n i h1 h2
    obtain ⟨n, rfl⟩ : ∃ k, n = k + 1 := ⟨n - 1, by omega⟩
    rw [fX3_heapWithBlack_L2]
    simp (disch := omega) only [zlit, zz, if_pos, if_neg, if_true, if_false, zgd', zl, zbs, zbz, encz]
    rfl
  | succ m ih =>
    intro n i h1 h2
    obtain ⟨n, rfl⟩ : ∃ k, n = k + 1 := ⟨n - 1, by omega⟩
    rw [fX3_heapWithBlack_L2, List.range'_succ, List.find?_cons]
    simp (disch := omega) only [zlit, zz, if_pos, if_neg, if_true, if_false, zgd', zl, zbs, zbz, encz]
    have hl := (hk i).1
    rw [sX3_hwb_L15 hN hb (show i < 3 by omega) hl (hk i).2 (hB i (by omega)).2 (hB i (by omega)).1 _ (H i).length fuel 0 (by omega) (by omega), List.drop_zero]
    cases (H i).any bl with
    | true => simp [encz]
    | false =>
      simp only [Bool.false_eq_true, if_false]
      exact ih n (i + 1) (by omega) (by omega)
theorem sX3_heapWithBlack {fuel N hp : Nat} {bl : Nat → Bool} {b : Nat → Int32} {H : HP} {pi : Nat → Nat → Int32} {hts : Nat → Int32} (hf : 100 < fuel) (hhp : hp ≤ 3) (hN : N ≤ 10) (hb : ∀ x, x < N → b x = zb01 (bl x)) (hk : okH N H) (hB : cB H pi hts) :
    fX3_heapWithBlack fuel b (nI hp) pi hts = some (enc ((List.range hp).find? fun h => (H h).any bl)) := by
  unfold fX3_heapWithBlack
  rw [List.range_eq_range']
  exact sX3_hwb_L2 hf hhp hN hb hk hB hp fuel 0 (by omega) (by omega)
theorem sX0_isFree {fuel g : Nat} {sps : Nat → Int32} (hg : g < 10) : fX0_isFree fuel sps (nI g) = some (zb01 (decide (sps g = nI 9 ∨ sps g = zNo))) := by
  unfold fX0_isFree
  simp (disch := omega) only [zlit, zz, if_pos, if_neg, if_true, if_false, zgd', zl, zbs, zbz, encz]
  by_cases h1 : sps g = nI 9
  · rw [if_pos h1, decide_eq_true (Or.inl h1)]; rfl
  · rw [if_neg h1]
    by_cases h2 : sps g = zNo
    · rw [if_pos h2, decide_eq_true (Or.inr h2)]; rfl
    · rw [if_neg h2, decide_eq_false (by simp [h1, h2])]; rfl
theorem sX0_isOnHeap {fuel g : Nat} {sps : Nat → Int32} (hg : g < 10) (h : sps g = zAw ∨ sps g = zNo ∨ ∃ c, c < 100 ∧ sps g = nI c) : fX0_isOnHeap fuel sps (nI g) = some (zb01 (decide (nI 0 ≤ sps g ∧ sps g < nI 3))) := by
  unfold fX0_isOnHeap
  rcases h with h | h | ⟨c, hc, h⟩
  · simp (disch := omega) only [zlit, zz, if_pos, if_neg, if_true, if_false, zgd', zl, zbs, zbz, encz, h, sX9_isHeap_aw]
    rfl
  · simp (disch := omega) only [zlit, zz, if_pos, if_neg, if_true, if_false, zgd', zl, zbs, zbz, encz, h, sX9_isHeap_no]
    rfl
  · simp (disch := omega) only [zlit, zz, if_pos, if_neg, if_true, if_false, zgd', zl, zbs, zbz, encz, h, sX9_isHeap]
    by_cases q : c < 3
    · rw [decide_eq_true q, decide_eq_true (show 0 ≤ c ∧ c < 3 from ⟨by omega, q⟩)]
      rfl
    · rw [decide_eq_false q, decide_eq_false (show ¬ (0 ≤ c ∧ c < 3) by omega)]
      rfl
/-- the rows of the class hold a state of the going -/
def cGr (N : Nat) (rem : List Nat) (s : GoS) (li be en ha ld : Nat → Int32) (all dn : Int32) : Prop :=
  (∀ x, x < N → li x = nI (s.2.2.1 x) ∧ ha x = enc (s.2.1 x) ∧ ld x = nI (s.2.2.2.2.2.1 x)) ∧ (∀ x, x < N → x ∉ rem → be x = nI (s.2.2.2.1 x) ∧ en x = nI (s.2.2.2.2.1 x)) ∧ all = nI s.2.2.2.2.2.2.1 ∧ dn = nI s.2.2.2.2.2.2.2
/-- where each coat is, as the class keeps it -/
def cSp (N : Nat) (wh : Nat → Nat) (rem : List Nat) (H : HP) (sps : Nat → Int32) : Prop := ∀ x, x < N → (x ∈ rem → 9 ≤ wh x → sps x = encW (wh x)) ∧ (wh x < 3 → (∀ h, h < 3 → x ∈ H h → sps x = nI h) ∧ (x ∉ flat H → sps x = zAw))
def whOk (N : Nat) (wh : Nat → Nat) : Prop := ∀ x, x < N → wh x < 3 ∨ wh x = 9 ∨ wh x = 10
theorem flat_one {H : HP} {h k x : Nat} (hnd : (flat H).Nodup) (h3 : h < 3) (k3 : k < 3) (hx : x ∈ H h) (kx : x ∈ H k) : h = k := by
  have hc := (List.nodup_iff_count.mp hnd) x
  rw [count_flat] at hc
  have a1 := List.count_pos_iff.mpr hx
  have a2 := List.count_pos_iff.mpr kx
  rcases (show h = 0 ∨ h = 1 ∨ h = 2 by omega) with rfl | rfl | rfl <;> rcases (show k = 0 ∨ k = 1 ∨ k = 2 by omega) with rfl | rfl | rfl <;> first | rfl | omega
theorem src_in {N hp g h : Nat} {mist : Bool} {bl : Nat → Bool} {wh : Nat → Nat} {rem : List Nat} {s : GoS} (hhp : hp ≤ 3) (hI : GI N hp mist bl wh rem s) (h3 : h < 3) (hx : g ∈ s.1 h) : srcS hp bl s.1 g = some h ∧ h < hp := by
  obtain ⟨i1, i2, i3, i4, -⟩ := hI
  have hlt : h < hp := by
    rcases Nat.lt_or_ge h hp with q | q
    · exact q
    · rw [i4 h q] at hx; simp at hx
  refine ⟨?_, hlt⟩
  unfold srcS
  cases hq : (List.range hp).find? (fun h => decide (g ∈ s.1 h)) with
  | none =>
    have := List.find?_eq_none.mp hq h (List.mem_range.mpr hlt)
    simp [hx] at this
  | some k =>
    have h1 := List.mem_range.mp (List.mem_of_find?_eq_some hq)
    have h2 : g ∈ s.1 k := by simpa using List.find?_some hq
    rw [flat_one i2 h3 (show k < 3 by omega) hx h2]
theorem src_out {hp g : Nat} {bl : Nat → Bool} {H : HP} (hhp : hp ≤ 3) (hx : g ∉ flat H) : srcS hp bl H g = (List.range hp).find? (fun h => (H h).any bl) := by
  unfold srcS
  have : (List.range hp).find? (fun h => decide (g ∈ H h)) = none := by
    rw [List.find?_eq_none]
    intro k hk
    have := List.mem_range.mp hk
    simp only [decide_eq_true_eq]
    exact fun q => hx (mem_flat.mpr ⟨k, by omega, q⟩)
  rw [this]
/-- one who digs finds a coat -/
theorem src_spot {N hp g h : Nat} {mist : Bool} {bl : Nat → Bool} {wh : Nat → Nat} {rem : List Nat} {s : GoS} (hhp : hp ≤ 3) (hI : GI N hp mist bl wh (g :: rem) s) (hw : wh g < 9) (hs : srcS hp bl s.1 g = some h) : ∃ i c, lastIx (tkS mist bl g) (s.1 h) = some i ∧ (s.1 h)[i]? = some c ∧ spotS hp mist bl s.1 g = some (h, i) := by
  have key : lastIx (tkS mist bl g) (s.1 h) ≠ none := by
    intro q
    rw [lastIx_none] at q
    by_cases hx : g ∈ flat s.1
    · obtain ⟨k, k3, hk⟩ := mem_flat.mp hx
      have := (src_in hhp hI k3 hk).1
      rw [this] at hs
      cases hs
      have := q g hk
      simp [tkS] at this
    · have hi6 := hI.2.2.2.2.2.1 g List.mem_cons_self hw
      rcases hi6 with h9 | ⟨m1, m2⟩
      · exact hx h9
      · rw [src_out hhp hx] at hs
        have := List.find?_some hs
        rw [List.any_eq_true] at this
        obtain ⟨c, c1, c2⟩ := this
        have := q c c1
        simp [tkS, m1, m2, c2] at this
  cases hq : lastIx (tkS mist bl g) (s.1 h) with
  | none => exact absurd hq key
  | some i =>
    obtain ⟨c, c1, -⟩ := lastIx_p hq
    exact ⟨i, c, rfl, c1, by simp [spotS, hs, hq]⟩
theorem sX3_goOne {fuel N hp g mi ba : Nat} {bl : Nat → Bool} {wt mn wh : Nat → Nat} {w b go se : Nat → Int32} {rem : List Nat} {s : GoS} {li be en ha ld : Nat → Int32} {all dn : Int32} {pi : Nat → Nat → Int32} {hts sps : Nat → Int32} (hf : 100 < fuel) (hhp : hp ≤ 3) (hN : N ≤ 10) (hb : ∀ x, x < N → b x = zb01 (bl x)) (hw : cM w wt N) (hwt : ∀ x, x < N → wt x ≤ 5) (hM : cM go mn N) (hse : se 3 = nI mi) (hmi : mi < 100) (hse2 : se 2 = nI ba) (hba : ba ≤ 2) (hwh : whOk N wh) (hg : g < N) (hnd : (g :: rem).Nodup)
    (hI : GI N hp (decide (mi = 1)) bl wh (g :: rem) s) (hr : cGr N (g :: rem) s li be en ha ld all dn) (hsp : cSp N wh (g :: rem) s.1 sps) (hB : cB s.1 pi hts) :
    ∃ o, fX3_goOne fuel w b li be en ha ld all dn go (nI hp) pi hts sps se (nI g) = some o ∧ cGr N rem (goOneS hp ba (decide (mi = 1)) bl wt mn wh s g) o.1 o.2.1 o.2.2.1 o.2.2.2.1 o.2.2.2.2.1 o.2.2.2.2.2.1 o.2.2.2.2.2.2.1 ∧ cSp N wh rem (goOneS hp ba (decide (mi = 1)) bl wt mn wh s g).1 o.2.2.2.2.2.2.2.2.2 ∧ cB (goOneS hp ba (decide (mi = 1)) bl wt mn wh s g).1 o.2.2.2.2.2.2.2.1 o.2.2.2.2.2.2.2.2.1 := by
  obtain ⟨r1, r2, r3, r4⟩ := hr
  have hI' := hI
  obtain ⟨i1, i2, i3, i4, i5, i6, i7, i8, i9⟩ := hI
  obtain ⟨m1, m2⟩ := hM g hg
  rw [List.nodup_cons] at hnd
  rw [List.length_cons] at i8 i9
  have hgx : ∀ x ∈ rem, x ≠ g := fun x hx q => hnd.1 (q ▸ hx)
  have hbusy : s.2.2.2.2.2.2.2 < 2 ^ 31 := by omega
  unfold fX3_goOne
  by_cases hfr : 9 ≤ wh g
  · -- on a hook, on the floor
    have hsg := (hsp g hg).1 List.mem_cons_self hfr
    have hfree : (decide (sps g = nI 9 ∨ sps g = zNo)) = true := by
      rw [hsg]
      rcases hwh g hg with q | q | q
      · omega
      · rw [q]; decide
      · rw [q]; decide
    have hS : goOneS hp ba (decide (mi = 1)) bl wt mn wh s g = (s.1, va_up s.2.1 g (some g), s.2.2.1, va_up s.2.2.2.1 g (mn g), va_up s.2.2.2.2.1 g (mn g), s.2.2.2.2.2.1, s.2.2.2.2.2.2.1, s.2.2.2.2.2.2.2) := by unfold goOneS; rw [if_pos hfr]
    rw [hS]
    refine zex (G := some (li, upd be g (nI (mn g)), upd en g (nI (mn g)), upd ha g (nI g), ld, all, dn, pi, hts, upd sps g zAw)) ?_ ⟨_, rfl, ⟨fun x hx => ?_, fun x hx hxr => ?_, r3, r4⟩, fun x hx => ⟨fun hxr h9 => ?_, fun h3 => ?_⟩, hB⟩
    · simp (disch := omega) only [zlit, zz, if_pos, if_neg, if_true, if_false, zgd', zl, zbs, zbz, encz, sX0_isFree, hfree, m1, Bool.true_eq_false]
    · refine ⟨(r1 x hx).1, ?_, (r1 x hx).2.2⟩
      show upd ha g (nI g) x = enc (va_up s.2.1 g (some g) x)
      unfold upd va_up
      split
      · rfl
      · exact (r1 x hx).2.1
    · show upd be g (nI (mn g)) x = nI (va_up s.2.2.2.1 g (mn g) x) ∧ upd en g (nI (mn g)) x = nI (va_up s.2.2.2.2.1 g (mn g) x)
      unfold upd va_up
      by_cases q : x = g
      · simp [q]
      · simp only [q, if_false]
        exact r2 x hx (fun h => by rcases List.mem_cons.mp h with h | h; exact q h; exact hxr h)
    · show upd sps g zAw x = _
      have q := hgx x hxr
      simp only [upd, q, if_false]
      exact (hsp x hx).1 (List.mem_cons_of_mem _ hxr) h9
    · have q : x ≠ g := fun q => by rw [q] at h3; omega
      show (∀ h, h < 3 → x ∈ s.1 h → upd sps g zAw x = nI h) ∧ (x ∉ flat s.1 → upd sps g zAw x = zAw)
      simp only [upd, q, if_false]
      exact (hsp x hx).2 h3
  · -- one digs
    have hw3 : wh g < 3 := by rcases hwh g hg with q | q | q <;> omega
    obtain ⟨sp1, sp2⟩ := (hsp g hg).2 hw3
    have hlf0 := (i7 g List.mem_cons_self).1
    -- behind the digging, in both cases
    have behind : ∀ h i c, srcS hp bl s.1 g = some h → lastIx (tkS (decide (mi = 1)) bl g) (s.1 h) = some i → (s.1 h)[i]? = some c → spotS hp (decide (mi = 1)) bl s.1 g = some (h, i) → h < hp →
        ∃ o, ((fX3_dig fuel w b li ha ld all (nI hp) pi hts sps se (nI g) (nI h)).bind fun o_12 => fX3_goOne_J112 (nI g) o_12.1 (upd (upd be g (nI (mn g))) g (zmax (nI (mn g)) dn)) (upd en g (nI (mn g))) o_12.2.1 o_12.2.2.1 o_12.2.2.2.1 dn o_12.2.2.2.2.1 o_12.2.2.2.2.2.1 o_12.2.2.2.2.2.2) = some o ∧ cGr N rem (goOneS hp ba (decide (mi = 1)) bl wt mn wh s g) o.1 o.2.1 o.2.2.1 o.2.2.2.1 o.2.2.2.2.1 o.2.2.2.2.2.1 o.2.2.2.2.2.2.1 ∧ cSp N wh rem (goOneS hp ba (decide (mi = 1)) bl wt mn wh s g).1 o.2.2.2.2.2.2.2.2.2 ∧ cB (goOneS hp ba (decide (mi = 1)) bl wt mn wh s g).1 o.2.2.2.2.2.2.2.1 o.2.2.2.2.2.2.2.2.1 := by
      intro h i c hsrc hix hc hspot hhlt
      obtain ⟨_, hilt, c', hc', htk, hdec⟩ := spot_ok hspot
      rw [hc] at hc'
      cases hc'
      obtain ⟨d, d1, d2, d3, d4, d5, d6, d7⟩ := sX3_dig (fuel := fuel) (has := ha) (sps := sps) (lf := s.2.2.1) (ld := s.2.2.2.2.2.1) (all := s.2.2.2.2.2.2.1) hf hhp hN hb (fun x hx => (hw x hx).1) hse hmi hse2 hba hg hhlt i1 i3 hB hix hc (fun x hx => (r1 x hx).1) (fun x hx => (r1 x hx).2.2)
      rw [r3, d1, zbs, r4]
      have hS : goOneS hp ba (decide (mi = 1)) bl wt mn wh s g = (backS hp ba h s.1 ((s.1 h).take i) ((s.1 h).drop (i + 1)), va_up s.2.1 g ((s.1 h)[i]?), va_up s.2.2.1 g (s.2.2.1 g + sumW wt ((s.1 h).drop (i + 1))), va_up s.2.2.2.1 g (max (mn g) s.2.2.2.2.2.2.2),
        va_up s.2.2.2.2.1 g (max (mn g) s.2.2.2.2.2.2.2 + (s.2.2.1 g + sumW wt ((s.1 h).drop (i + 1)))), (fun c => s.2.2.2.2.2.1 c + ((s.1 h).drop (i + 1)).count c), s.2.2.2.2.2.2.1 + sumW wt ((s.1 h).drop (i + 1)), max (mn g) s.2.2.2.2.2.2.2 + (s.2.2.1 g + sumW wt ((s.1 h).drop (i + 1)))) := by
        unfold goOneS
        rw [if_neg hfr, hspot]
      rw [hS]
      have dl := d2 g hg
      simp only [va_up, if_true] at dl
      have hg10 : g < 10 := by omega
      refine zex (G := some (d.1, upd (upd be g (nI (mn g))) g (nI (max (mn g) s.2.2.2.2.2.2.2)), upd (upd en g (nI (mn g))) g (nI (max (mn g) s.2.2.2.2.2.2.2 + (s.2.2.1 g + sumW wt ((s.1 h).drop (i + 1))))), d.2.1, d.2.2.1, d.2.2.2.1, nI (max (mn g) s.2.2.2.2.2.2.2 + (s.2.2.1 g + sumW wt ((s.1 h).drop (i + 1)))), d.2.2.2.2.1, d.2.2.2.2.2.1, d.2.2.2.2.2.2)) ?_ ⟨_, rfl, ⟨fun x hx => ⟨d2 x hx, ?_, d4 x hx⟩, fun x hx hxr => ?_, d5, rfl⟩, fun x hx => ⟨fun hxr h9 => ?_, fun h3 => ?_⟩, d6⟩
      · unfold fX3_goOne_J112
        rw [nI_zmax (by omega) hbusy]
        have hu : upd (upd be g (nI (mn g))) g (nI (max (mn g) s.2.2.2.2.2.2.2)) g = nI (max (mn g) s.2.2.2.2.2.2.2) := by simp [upd]
        simp (disch := omega) only [zlit, zz, if_pos, if_neg, if_true, if_false, zgd', zl, zbs, zbz, encz, hu, dl]
        simp [upd]
      · show d.2.1 x = enc (va_up s.2.1 g ((s.1 h)[i]?) x)
        rw [d3, hc]
        unfold upd va_up
        split
        · rfl
        · exact (r1 x hx).2.1
      · show upd (upd be g (nI (mn g))) g (nI (max (mn g) s.2.2.2.2.2.2.2)) x = nI (va_up s.2.2.2.1 g (max (mn g) s.2.2.2.2.2.2.2) x) ∧ upd (upd en g (nI (mn g))) g (nI (max (mn g) s.2.2.2.2.2.2.2 + (s.2.2.1 g + sumW wt ((s.1 h).drop (i + 1))))) x = nI (va_up s.2.2.2.2.1 g (max (mn g) s.2.2.2.2.2.2.2 + (s.2.2.1 g + sumW wt ((s.1 h).drop (i + 1)))) x)
        unfold upd va_up
        by_cases q : x = g
        · simp [q]
        · simp only [q, if_false]
          exact r2 x hx (fun h => by rcases List.mem_cons.mp h with h | h; exact q h; exact hxr h)
      · show d.2.2.2.2.2.2 x = _
        rw [d7 x]
        have h1 : x ∉ (s.1 h).drop (i + 1) := fun q => by have := i5 h x (List.mem_of_mem_drop q); omega
        have h2 : x ≠ c := fun q => by have := i5 h c (List.mem_of_getElem? hc); rw [q] at h9; omega
        rw [if_neg (fun q => h1 q.2), if_neg h2]
        exact (hsp x hx).1 (List.mem_cons_of_mem _ hxr) h9
      · obtain ⟨x1, x2⟩ := (hsp x hx).2 h3
        have hbf := back_flat (ba := ba) (x := x) hhp hhlt hdec i2
        have hpm := back_perm (ba := ba) hhp hhlt hdec
        have hcn : c ∉ (s.1 h).drop (i + 1) := by
          have hnd2 : (s.1 h).Nodup := by
            have : (s.1 h).Sublist (flat s.1) := by
              unfold flat
              rcases (show h = 0 ∨ h = 1 ∨ h = 2 by omega) with rfl | rfl | rfl
              · exact List.sublist_append_left _ _
              · exact (List.sublist_append_left _ _).trans (List.sublist_append_right _ _)
              · exact (List.sublist_append_right _ _).trans (List.sublist_append_right _ _)
            exact i2.sublist this
          rw [hdec, List.nodup_append] at hnd2
          exact (List.nodup_cons.mp hnd2.2.1).1
        show (∀ k, k < 3 → x ∈ backS hp ba h s.1 ((s.1 h).take i) ((s.1 h).drop (i + 1)) k → d.2.2.2.2.2.2 x = nI k) ∧ (x ∉ flat (backS hp ba h s.1 ((s.1 h).take i) ((s.1 h).drop (i + 1))) → d.2.2.2.2.2.2 x = zAw)
        rw [d7 x]
        refine ⟨fun k k3 hk => ?_, fun hnf => ?_⟩
        · have hxf := hbf.1.mp (mem_flat.mpr ⟨k, k3, hk⟩)
          have hn3 := Nat.mod_lt (h + 1) (show 0 < hp by omega)
          by_cases hm : (ba = 2 ∧ 1 < hp) ∧ x ∈ (s.1 h).drop (i + 1)
          · rw [if_pos hm]
            have : x ∈ backS hp ba h s.1 ((s.1 h).take i) ((s.1 h).drop (i + 1)) ((h + 1) % hp) := by
              have hb2 : backS hp ba h s.1 ((s.1 h).take i) ((s.1 h).drop (i + 1)) = va_up (va_up s.1 h ((s.1 h).take i)) ((h + 1) % hp) (s.1 ((h + 1) % hp) ++ ((s.1 h).drop (i + 1)).reverse) := by
                unfold backS
                rw [if_neg (by omega), if_pos hm.1]
              rw [hb2]
              simp [va_up, hm.2]
            rw [flat_one hbf.2 k3 (by omega) hk this]
          · rw [if_neg hm, if_neg hxf.2]
            obtain ⟨k0, k03, hk0⟩ := mem_flat.mp hxf.1
            rw [x1 k0 k03 hk0]
            -- it lies where it lay
            have hst : x ∈ backS hp ba h s.1 ((s.1 h).take i) ((s.1 h).drop (i + 1)) k0 := by
              by_cases hkh : k0 = h
              · subst hkh
                rw [hdec] at hk0
                have hm2 : x ∈ (s.1 k0).take i ∨ x ∈ (s.1 k0).drop (i + 1) := by
                  rcases List.mem_append.mp hk0 with q | q
                  · exact Or.inl q
                  · rcases List.mem_cons.mp q with q | q
                    · exact absurd q hxf.2
                    · exact Or.inr q
                unfold backS
                split
                · simp only [va_up, if_true]
                  exact List.mem_append.mpr hm2
                · split
                  · rename_i q9
                    have hne : k0 ≠ (k0 + 1) % hp := by
                      by_cases q : k0 + 1 < hp
                      · rw [Nat.mod_eq_of_lt q]; omega
                      · rw [show k0 + 1 = hp by omega, Nat.mod_self]; omega
                    simp only [va_up, hne, if_false, if_true]
                    rcases hm2 with q | q
                    · exact q
                    · exact absurd ⟨q9, q⟩ hm
                  · simp only [va_up, if_true]
                    rcases hm2 with q | q
                    · exact List.mem_append_left _ q
                    · exact List.mem_append_right _ (List.mem_reverse.mpr q)
              · unfold backS
                split
                · simp only [va_up, hkh, if_false]; exact hk0
                · split
                  · by_cases q : k0 = (h + 1) % hp
                    · subst q
                      simp only [va_up, if_true]
                      exact List.mem_append_left _ hk0
                    · simp only [va_up, q, hkh, if_false]; exact hk0
                  · simp only [va_up, hkh, if_false]; exact hk0
            rw [flat_one hbf.2 k3 k03 hk hst]
        · by_cases hxc : x = c
          · rw [hxc, if_neg (fun q => hcn q.2), if_pos rfl]
          · have hnf2 : x ∉ flat s.1 := fun q => hnf (hbf.1.mpr ⟨q, hxc⟩)
            rw [if_neg (fun q => hnf2 (mem_flat.mpr ⟨h, by omega, List.mem_of_mem_drop q.2⟩)), if_neg hxc]
            exact x2 hnf2
    by_cases hx : g ∈ flat s.1
    · obtain ⟨h, h3, hgh⟩ := mem_flat.mp hx
      have hsg := sp1 h h3 hgh
      obtain ⟨hsrc, hhlt⟩ := src_in hhp hI' h3 hgh
      obtain ⟨i, c, q1, q2, q3⟩ := src_spot hhp hI' (by omega) hsrc
      have hfree : (decide (sps g = nI 9 ∨ sps g = zNo)) = false := by
        rw [hsg]
        simp (disch := omega) only [zz, or_false]
        exact decide_eq_false (by omega)
      have hon : (decide (nI 0 ≤ sps g ∧ sps g < nI 3)) = true := by
        rw [hsg]
        simp (disch := omega) only [zz]
        exact decide_eq_true ⟨by omega, h3⟩
      refine zex ?_ (behind h i c hsrc q1 q2 q3 hhlt)
      have f1 : fX0_isFree fuel sps (nI g) = some (nI 0) := by rw [sX0_isFree (by omega), hfree]; rfl
      have f2 : fX0_isOnHeap fuel sps (nI g) = some (nI 1) := by rw [sX0_isOnHeap (by omega) (Or.inr (Or.inr ⟨h, by omega, hsg⟩)), hon]; rfl
      simp (disch := omega) only [zlit, zz, if_pos, if_neg, if_true, if_false, zgd', zl, zbs, zbz, encz, f1, m1, f2, hsg]
    · have hsg := sp2 hx
      have hfree : (decide (sps g = nI 9 ∨ sps g = zNo)) = false := by rw [hsg]; decide
      have hon : (decide (nI 0 ≤ sps g ∧ sps g < nI 3)) = false := by rw [hsg]; decide
      have hsrc := src_out (bl := bl) hhp hx
      cases hq : srcS hp bl s.1 g with
      | some h =>
        have hhlt := src_lt hq
        obtain ⟨i, c, q1, q2, q3⟩ := src_spot hhp hI' (by omega) hq
        refine zex ?_ (behind h i c hq q1 q2 q3 hhlt)
        rw [hsrc] at hq
        simp (disch := omega) only [zlit, zz, if_pos, if_neg, if_true, if_false, zgd', zl, zbs, zbz, encz, sX0_isFree, hfree, m1, sX0_isOnHeap (fuel := fuel) (show g < 10 by omega) (Or.inl hsg), hon, sX3_heapWithBlack hf hhp hN hb i1 hB, hq]
      | none =>
        have hsp0 : spotS hp (decide (mi = 1)) bl s.1 g = none := by simp [spotS, hq]
        have hS : goOneS hp ba (decide (mi = 1)) bl wt mn wh s g = (s.1, s.2.1, s.2.2.1, va_up s.2.2.2.1 g (max (mn g) s.2.2.2.2.2.2.2), va_up s.2.2.2.2.1 g (max (mn g) s.2.2.2.2.2.2.2 + s.2.2.1 g), s.2.2.2.2.2.1, s.2.2.2.2.2.2.1, max (mn g) s.2.2.2.2.2.2.2 + s.2.2.1 g) := by
          unfold goOneS
          rw [if_neg hfr, hsp0]
        rw [hS]
        rw [hsrc] at hq
        refine zex (G := some (li, upd (upd be g (nI (mn g))) g (nI (max (mn g) s.2.2.2.2.2.2.2)), upd (upd en g (nI (mn g))) g (nI (max (mn g) s.2.2.2.2.2.2.2 + s.2.2.1 g)), ha, ld, all, nI (max (mn g) s.2.2.2.2.2.2.2 + s.2.2.1 g), pi, hts, sps)) ?_ ⟨_, rfl, ⟨r1, fun x hx hxr => ?_, r3, rfl⟩, fun x hx => ⟨fun hxr h9 => (hsp x hx).1 (List.mem_cons_of_mem _ hxr) h9, (hsp x hx).2⟩, hB⟩
        · have hu : upd (upd be g (nI (mn g))) g (nI (max (mn g) s.2.2.2.2.2.2.2)) g = nI (max (mn g) s.2.2.2.2.2.2.2) := by simp [upd]
          simp (disch := omega) only [zlit, zz, if_pos, if_neg, if_true, if_false, zgd', zl, zbs, zbz, encz, sX0_isFree, hfree, m1, sX0_isOnHeap (fuel := fuel) (show g < 10 by omega) (Or.inl hsg), hon, sX3_heapWithBlack hf hhp hN hb i1 hB, hq, fX3_goOne_J112, r4, nI_zmax, hu, (r1 g hg).1]
          simp [upd]
        · show upd (upd be g (nI (mn g))) g (nI (max (mn g) s.2.2.2.2.2.2.2)) x = nI (va_up s.2.2.2.1 g (max (mn g) s.2.2.2.2.2.2.2) x) ∧ upd (upd en g (nI (mn g))) g (nI (max (mn g) s.2.2.2.2.2.2.2 + s.2.2.1 g)) x = nI (va_up s.2.2.2.2.1 g (max (mn g) s.2.2.2.2.2.2.2 + s.2.2.1 g) x)
          unfold upd va_up
          by_cases q : x = g
          · simp [q]
          · simp only [q, if_false]
            exact r2 x hx (fun h => by rcases List.mem_cons.mp h with h | h; exact q h; exact hxr h)
