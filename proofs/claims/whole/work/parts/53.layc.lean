/-! The class: all are laid. -/
theorem sX2_firstFrom {fuel ho hp st mg letter : Nat} {hts : Nat → Int32} {ln : Nat → Nat} {tm : Nat → Option Nat} (hl : letter = 0 ∨ letter = 5) (hf : 100 < fuel) (hhp : hp ≤ 3) (h0 : 0 < hp) (hst : st ≤ hp) (hho : ho < 100) (hh : ∀ h, h < 3 → hts h = nI (ln h) ∧ ln h < 100) :
    fX2_firstFrom fuel (nI ho) (nI hp) hts (nI st) = some (enc (bestH (btS letter ho ln tm mg) ((List.range hp).map fun k => (st + k) % hp) none)) := by
  unfold fX2_firstFrom
  rw [show (0 : Int32) = nI 0 from rfl, sX2_firstFrom_L2 hhp hst hho hh hp fuel 0 (by omega) (by omega)]
  have e1 : (fun (h : Nat) (than : Option Nat) => decide (ln h < ho) && than.isNone) = btS letter ho ln tm mg := by
    funext h than
    rcases hl with rfl | rfl <;> cases than <;> rfl
  have e2 : ((List.range' 0 hp).map fun k => if st + k < hp then st + k else st + k - hp) = (List.range hp).map fun k => (st + k) % hp := by
    rw [← List.range_eq_range']
    apply List.map_congr_left
    intro k hk
    have := List.mem_range.mp hk
    split
    · rw [Nat.mod_eq_of_lt (by omega)]
    · rw [Nat.mod_eq_sub_mod (by omega), Nat.mod_eq_of_lt (by omega)]
  rw [e1, e2]
theorem sX2_first0 {fuel ho hp mg : Nat} {hts : Nat → Int32} {ln : Nat → Nat} {tm : Nat → Option Nat} {lat : Option Nat} (hf : 100 < fuel) (hhp : hp ≤ 3) (h0 : 0 < hp) (hho : ho < 100) (hh : ∀ h, h < 3 → hts h = nI (ln h) ∧ ln h < 100) :
    fX2_firstFrom fuel (nI ho) (nI hp) hts 0 = some (enc (byS 0 hp ho ln tm lat mg)) := by
  have := sX2_firstFrom (fuel := fuel) (st := 0) (mg := mg) (tm := tm) (Or.inl rfl) hf hhp h0 (by omega) hho hh
  rw [show (0 : Int32) = nI 0 from rfl, this]
  have e : ((List.range hp).map fun k => (0 + k) % hp) = List.range hp := by
    apply (List.map_congr_left (g := id) ?_).trans (List.map_id _)
    intro k hk
    have := List.mem_range.mp hk
    rw [Nat.mod_eq_of_lt (by omega)]
    simp
  rw [e]
  rfl
theorem sX2_heapByLetter {fuel ho hp g a : Nat} {H : HP} {mn : Nat → Nat} {go : Nat → Int32} {pi : Nat → Nat → Int32} {hts : Nat → Int32} {lat : Option Nat} (hf : 100 < fuel) (hhp : hp ≤ 3) (h0 : 0 < hp) (hho : ho < 100) (hho0 : 0 < ho) {N : Nat} (hN : N ≤ 10) (hB : cB H pi hts) (hk : okH N H) (hM : cM go mn N) (hg : g < N) (ha : a ≤ 5) (hlat : ∀ t, lat = some t → t < hp) :
    fX2_heapByLetter fuel go (nI ho) (enc lat) (nI hp) pi hts (zLet a) (nI g) = some (enc (byS a hp ho (lnS H) (tmS mn H) lat (mn g))) := by
  have hh : ∀ h, h < 3 → hts h = nI (lnS H h) ∧ lnS H h < 100 := fun h h3 => ⟨(hB h h3).1, by have := (hk h).1; unfold lnS; omega⟩
  obtain ⟨g1, g2⟩ := hM g hg
  rcases (show a = 0 ∨ a = 1 ∨ a = 2 ∨ a = 3 ∨ a = 4 ∨ a = 5 by omega) with rfl | rfl | rfl | rfl | rfl | rfl
  · show fX2_heapByLetter_J126 fuel (nI ho) (nI hp) hts = _
    unfold fX2_heapByLetter_J126
    rw [sX2_first0 (tm := tmS mn H) (lat := lat) (mg := mn g) hf hhp h0 hho hh]
    rfl
  · show (fX2_lowest fuel (nI ho) (nI hp) hts).bind (fun o_23 => some o_23) = _
    unfold fX2_lowest
    have := sX2_lowest_L5 (fuel := fuel) (mg := mn g) (tm := tmS mn H) hhp hho hh hp fuel 0 none (by omega) (by omega) (fun _ h => by cases h)
    rw [show fX2_lowest_L5 fuel (nI ho) (nI hp) hts fuel (-4) 0 = _ from this, ← List.range_eq_range']
    rfl
  · show (fX2_empty fuel (nI hp) hts).bind (fun o_2 => some o_2) = _
    unfold fX2_empty
    have := sX2_empty_L2 (mg := mn g) (tm := tmS mn H) hhp hho0 hh hp fuel 0 (by omega) (by omega)
    rw [show fX2_empty_L2 (nI hp) hts fuel 0 = _ from this, ← List.range_eq_range']
    rfl
  · show (fX2_latestTop fuel go (nI ho) (nI hp) pi hts).bind (fun o_10 => some o_10) = _
    unfold fX2_latestTop
    have := sX2_latestTop_L7 (fuel := fuel) (mg := mn g) hhp hho hN hB hk hM hp fuel 0 none 0 (by omega) (by omega) (fun _ h => by cases h)
    rw [show fX2_latestTop_L7 fuel go (nI ho) (nI hp) pi hts fuel (-4) 0 0 = _ from this, ← List.range_eq_range']
    rfl
  · show zg (zin (nI g) 10) ((fX2_soonestTopBehind fuel go (nI ho) (nI hp) pi hts (go (nI g).toNatClampNeg)).bind (fun o_15 => some o_15)) = _
    unfold fX2_soonestTopBehind
    simp (disch := omega) only [zz, zgd', g1]
    have := sX2_soonest_L8 (fuel := fuel) hhp hho hN hB hk hM g2 hp fuel 0 none 0 (by omega) (by omega) (fun _ h => by cases h)
    rw [show fX2_soonestTopBehind_L8 fuel go (nI ho) (nI hp) pi hts (nI (mn g)) fuel (-4) 0 0 = _ from this, ← List.range_eq_range']
    rfl
  · cases lat with
    | none =>
      show (fX2_firstFrom fuel (nI ho) (nI hp) hts 0).bind (fun o_21 => some o_21) = _
      rw [sX2_first0 (tm := tmS mn H) (lat := none) (mg := mn g) hf hhp h0 hho hh]
      rfl
    | some t =>
      have ht := hlat t rfl
      show (if nI t = -4 then _ else (fX2_firstFrom fuel (nI ho) (nI hp) hts (nI t + 1)).bind (fun o_20 => some o_20)) = _
      rw [if_neg (nI_m4 (by omega)), nI_1, sX2_firstFrom (mg := mn g) (tm := tmS mn H) (Or.inr rfl) hf hhp h0 (by omega) hho hh]
      rfl
theorem bestH_lt {bt : Nat → Option Nat → Bool} {N : Nat} : ∀ (l : List Nat) (b : Option Nat), (∀ x ∈ l, x < N) → (∀ t, b = some t → t < N) → ∀ t, bestH bt l b = some t → t < N := by
  intro l
  induction l with
  | nil => intro b _ h2 t h3; exact h2 t h3
  | cons a l ih =>
    intro b h1 h2 t h3
    rw [bestH] at h3
    refine ih _ (fun x hx => h1 x (List.mem_cons_of_mem _ hx)) ?_ t h3
    intro t ht
    split at ht
    · cases ht; exact h1 a List.mem_cons_self
    · exact h2 t ht
theorem byS_lt {a hp ho mg h : Nat} {ln : Nat → Nat} {tm : Nat → Option Nat} {lat : Option Nat} (h0 : 0 < hp) (hq : byS a hp ho ln tm lat mg = some h) : h < hp := by
  refine bestH_lt (hlS a hp lat) none ?_ (fun _ h => by cases h) h hq
  intro x hx
  unfold hlS at hx
  split at hx
  · obtain ⟨k, _, rfl⟩ := List.mem_map.mp hx
    exact Nat.mod_lt _ h0
  · exact List.mem_range.mp hx
theorem forS_lt {hp ho mg : Nat} {ln : Nat → Nat} {tm : Nat → Option Nat} {lat : Option Nat} (h0 : 0 < hp) : ∀ (L : List Nat) (h : Nat), forS hp ho ln tm lat mg L = some h → h < hp := by
  intro L
  induction L with
  | nil => intro h q; exact byS_lt h0 q
  | cons a L ih =>
    intro h q
    rw [forS] at q
    split at q
    · cases q
      exact byS_lt h0 (by assumption)
    · exact ih h q
theorem sX2_heapFor_L2 {fuel ho hp g : Nat} {H : HP} {mn : Nat → Nat} {go le : Nat → Int32} {pi : Nat → Nat → Int32} {hts : Nat → Int32} {lat : Option Nat} {L : List Nat} (hf : 100 < fuel) (hhp : hp ≤ 3) (h0 : 0 < hp) (hho : ho < 100) (hho0 : 0 < ho) {N : Nat} (hN : N ≤ 10) (hB : cB H pi hts) (hk : okH N H) (hM : cM go mn N) (hg : g < N) (hlat : ∀ t, lat = some t → t < hp) (hL : L.length ≤ 6) (hle : ∀ i x, L[i]? = some x → le i = zLet x ∧ x ≤ 5) :
    ∀ (m n i : Nat), i + m = L.length → m < n → fX2_heapFor_L2 fuel go (nI ho) (enc lat) (nI hp) pi hts le (nI L.length) (nI g) n (nI i) = some (enc (forS hp ho (lnS H) (tmS mn H) lat (mn g) (L.drop i))) := by
  have hh : ∀ h, h < 3 → hts h = nI (lnS H h) ∧ lnS H h < 100 := fun h h3 => ⟨(hB h h3).1, by have := (hk h).1; unfold lnS; omega⟩
  intro m
  induction m with
  | zero =>
    intro n i h1 h2
    obtain ⟨n, rfl⟩ : ∃ k, n = k + 1 := ⟨n - 1, by omega⟩
    rw [fX2_heapFor_L2]
    simp (disch := omega) only [zlit, zz, if_pos]
    rw [List.drop_eq_nil_of_le (by omega)]
    unfold fX2_heapFor_J39
    rw [sX2_first0 (tm := tmS mn H) (lat := lat) (mg := mn g) hf hhp h0 hho hh]
    rfl
  | succ m ih =>
    intro n i h1 h2
    obtain ⟨n, rfl⟩ : ∃ k, n = k + 1 := ⟨n - 1, by omega⟩
    rw [fX2_heapFor_L2]
    have hi : i < L.length := by omega
    obtain ⟨q1, q2⟩ := hle i L[i] (List.getElem?_eq_getElem hi)
    rw [List.drop_eq_getElem_cons hi, forS]
    simp (disch := omega) only [zlit, zz, if_neg, zgd', q1, zl]
    rw [sX2_heapByLetter hf hhp h0 hho hho0 hN hB hk hM hg q2 hlat, zbs]
    cases hq : byS L[i] hp ho (lnS H) (tmS mn H) lat (mn g) with
    | none =>
      simp only [enc, if_true]
      exact ih n (i + 1) (by omega) (by omega)
    | some h =>
      have h9 := byS_lt h0 hq
      have hb : ¬ enc (some h) = zNo := nI_m4 (by omega)
      rw [if_neg hb]
def hangS (hk g : Nat) : Bool := decide (hk / 2 ^ g % 2 = 1)
theorem zsm : ∀ g, g < 10 → ((nI g &&& 31).toBitVec.smod 32).toNat = g := by decide
theorem zbit {hk g : Nat} (h1 : hk < 2 ^ 31) (h2 : g < 10) : (nI hk >>> (nI g &&& 31)) &&& 1 = nI (hk / 2 ^ g % 2) := by
  rw [pk_shrN h1 (nI g &&& 31) g (zsm g h2), pk_andN (Nat.lt_of_le_of_lt (Nat.div_le_self _ _) (by omega)) 1 (by decide)]
theorem sX5_hasHook {fuel hk g : Nat} (h1 : hk < 2 ^ 31) (h2 : g < 10) : fX5_hasHook fuel (nI hk) (nI g) = some (zb01 (hangS hk g)) := by
  unfold fX5_hasHook
  rw [zbit h1 h2]
  have := Nat.mod_lt (hk / 2 ^ g) (show 0 < 2 by omega)
  by_cases q : hk / 2 ^ g % 2 = 1
  · simp (disch := omega) only [zlit, zz, hangS, q, if_pos, if_neg, decide_true, zbz, if_true]
  · simp (disch := omega) only [zlit, zz, hangS, q, if_pos, if_neg, decide_false, zbz, if_false]
theorem sX9_isHeap {fuel h : Nat} (h1 : h < 2 ^ 31) : fX9_isHeap fuel (nI h) = some (zb01 (decide (h < 3))) := by
  unfold fX9_isHeap
  by_cases q : h < 3
  · simp (disch := omega) only [zlit, zz, if_neg, q, decide_true, zbz]
  · simp (disch := omega) only [zlit, zz, if_neg, if_pos, q, decide_false, zbz]
theorem sX9_isHeap_no {fuel : Nat} : fX9_isHeap fuel zNo = some (nI 0) := rfl
theorem sX9_isHeap_aw {fuel : Nat} : fX9_isHeap fuel zAw = some (nI 0) := rfl
theorem sX0_lay {fuel h g n : Nat} {pi : Nat → Nat → Int32} {hts sps : Nat → Int32} (h1 : h < 3) (h2 : g < 10) (h3 : hts h = nI n) (h4 : n < 10) : fX0_lay fuel pi hts sps (nI h) (nI g) = some (va_up pi h (upd (pi h) n (nI g)), upd hts h (nI (n + 1)), upd sps g (nI h)) := by
  unfold fX0_lay
  simp (disch := omega) only [zlit, zz, zgd', h3, if_neg, zl]
theorem cB_push {H : HP} {pi : Nat → Nat → Int32} {hts : Nat → Int32} {h g : Nat} (hB : cB H pi hts) : cB (va_up H h (H h ++ [g])) (va_up pi h (upd (pi h) (H h).length (nI g))) (upd hts h (nI ((H h).length + 1))) := by
  intro k hk
  unfold va_up upd
  by_cases q : k = h
  · subst q
    simp only [if_true]
    refine ⟨by simp, ?_⟩
    have := arr_push (x := g) (hB k hk).2
    exact this
  · simp only [q, if_false]
    exact hB k hk
/-- where a coat is, as the class tells it -/
def encW (c : Nat) : Int32 := if c = 10 then zNo else nI c
/-- the loop over those who come: heaps, the latest one, where each is -/
theorem sX2_layAll_L31 {fuel ho hp hk : Nat} {N : Nat} (hN : N ≤ 10) {mn : Nat → Nat} {go co le : Nat → Int32} {L cs : List Nat} (hf : 100 < fuel) (hhp : hp ≤ 3) (h0 : 0 < hp) (hho : ho < 100) (hho0 : 0 < ho) (hM : cM go mn N) (hL : L.length ≤ 6) (hle : ∀ i x, L[i]? = some x → le i = zLet x ∧ x ≤ 5) (hhk : hk < 2 ^ 31) (hco : arr co cs) (hcs : cs.length ≤ 10) (hcs2 : ∀ x ∈ cs, x < N) :
    ∀ (m n i : Nat) (S : LayS) (pi : Nat → Nat → Int32) (hts sps : Nat → Int32), i + m = cs.length → m < n → cB S.1 pi hts → okH N S.1 → (∀ h, (S.1 h).length ≤ i) → (∀ t, S.2.1 = some t → t < hp) → (∀ x ∈ cs.take i, sps x = encW (S.2.2 x)) →
      ∃ o, fX2_layAll_L31 fuel go co (nI cs.length) (nI hk) le (nI L.length) n (nI i) (nI ho) (enc S.2.1) (nI hp) pi hts sps = some o ∧ (let S' := (cs.drop i).foldl (layOneS hp ho L (hangS hk) mn) S; o.1 = nI ho ∧ o.2.1 = enc S'.2.1 ∧ o.2.2.1 = nI hp ∧ cB S'.1 o.2.2.2.1 o.2.2.2.2.1 ∧ okH N S'.1 ∧ (∀ h, (S'.1 h).length ≤ cs.length) ∧ ∀ x ∈ cs, o.2.2.2.2.2 x = encW (S'.2.2 x)) := by
  intro m
  induction m with
  | zero =>
    intro n i S pi hts sps h1 h2 hB hk' hlen hlat hsp
    obtain ⟨n, rfl⟩ : ∃ k, n = k + 1 := ⟨n - 1, by omega⟩
    rw [fX2_layAll_L31]
    simp (disch := omega) only [zlit, zz, if_pos]
    rw [List.drop_eq_nil_of_le (by omega)]
    rw [List.take_of_length_le (by omega)] at hsp
    exact ⟨_, rfl, rfl, rfl, rfl, hB, hk', fun h => Nat.le_trans (hlen h) (by omega), hsp⟩
  | succ m ih =>
    intro n i S pi hts sps h1 h2 hB hk' hlen hlat hsp
    obtain ⟨n, rfl⟩ : ∃ k, n = k + 1 := ⟨n - 1, by omega⟩
    have hi : i < cs.length := by omega
    have hg : cs[i] < N := hcs2 _ (List.getElem_mem hi)
    have hc := hco i cs[i] (List.getElem?_eq_getElem hi)
    rw [fX2_layAll_L31]
    rw [List.drop_eq_getElem_cons hi, List.foldl_cons]
    generalize hgg : cs[i] = g at hg hc ⊢
    simp (disch := omega) only [zlit, zz, if_neg, if_pos, zgd', hc, zl, sX5_hasHook hhk (show g < 10 by omega), zbs, zbz, fX2_layAll_J117]
    -- the spots of those behind
    have hspn : ∀ (v : Int32) (w : Nat → Nat), v = encW (w g) → (∀ x, x ≠ g → w x = S.2.2 x) → ∀ x ∈ cs.take (i + 1), upd sps g v x = encW (w x) := by
      intro v w hv hw x hx
      unfold upd
      by_cases q : x = g
      · subst q
        rw [if_pos rfl]
        exact hv
      · rw [if_neg q, hw x q]
        apply hsp
        rw [List.take_succ_eq_append_getElem hi] at hx
        rcases List.mem_append.mp hx with h | h
        · exact h
        · rw [hgg] at h
          exact absurd (List.mem_singleton.mp h) q
    by_cases hh : hangS hk g = true
    · have hw : whS hp ho L (hangS hk) mn S.1 S.2.1 g = 9 := by simp [whS, hh]
      simp (disch := omega) only [hh, Bool.true_eq_false, if_false, sX9_isHeap, zbs, zbz, decide_eq_false_iff_not, Nat.not_lt, if_true, zgd', if_pos]
      have hS : layOneS hp ho L (hangS hk) mn S g = (S.1, S.2.1, va_up S.2.2 g 9) := by simp [layOneS, hw]
      rw [hS]
      exact ih n (i + 1) (S.1, S.2.1, va_up S.2.2 g 9) pi hts _ (by omega) (by omega) hB hk' (fun h => Nat.le_trans (hlen h) (by omega)) hlat (hspn _ _ (by simp [va_up, encW]) (fun x hx => by simp [va_up, hx]))
    · simp only [hh, if_true]
      have hq := sX2_heapFor_L2 (L := L) hf hhp h0 hho hho0 hN hB hk' hM hg hlat hL hle L.length fuel 0 (by omega) (by omega)
      rw [List.drop_zero] at hq
      have hq2 : fX2_heapFor fuel go (nI ho) (enc S.2.1) (nI hp) pi hts le (nI L.length) (nI g) = some (enc (forS hp ho (lnS S.1) (tmS mn S.1) S.2.1 (mn g) L)) := hq
      rw [hq2, zbs]
      cases hr : forS hp ho (lnS S.1) (tmS mn S.1) S.2.1 (mn g) L with
      | none =>
        have hw : whS hp ho L (hangS hk) mn S.1 S.2.1 g = 10 := by simp [whS, hh, hr]
        have hS : layOneS hp ho L (hangS hk) mn S g = (S.1, S.2.1, va_up S.2.2 g 10) := by simp [layOneS, hw]
        rw [hS]
        simp (disch := omega) only [enc, sX9_isHeap_no, zbs, zz, if_true, if_false, zgd']
        exact ih n (i + 1) (S.1, S.2.1, va_up S.2.2 g 10) pi hts _ (by omega) (by omega) hB hk' (fun h => Nat.le_trans (hlen h) (by omega)) hlat (hspn _ _ (by simp [va_up, encW]) (fun x hx => by simp [va_up, hx]))
      | some h =>
        have h9 := forS_lt h0 L h hr
        have hw : whS hp ho L (hangS hk) mn S.1 S.2.1 g = h := by simp [whS, hh, hr]
        have hS : layOneS hp ho L (hangS hk) mn S g = (va_up S.1 h (S.1 h ++ [g]), some h, va_up S.2.2 g h) := by
          simp [layOneS, hw, show h < 3 by omega]
        rw [hS]
        have hln := hlen h
        simp (disch := omega) only [enc, sX9_isHeap, zbs, zbz, decide_eq_false_iff_not, Nat.not_lt, if_neg, sX0_lay (show h < 3 by omega) (show g < 10 by omega) (hB h (by omega)).1]
        refine ih n (i + 1) (va_up S.1 h (S.1 h ++ [g]), some h, va_up S.2.2 g h) _ _ _ (by omega) (by omega) (cB_push hB) ?_ ?_ (fun t ht => by cases ht; omega) (hspn _ _ (by simp [va_up, encW, show ¬ h = 10 by omega]) (fun x hx => by simp [va_up, hx]))
        · intro k
          show (va_up S.1 h (S.1 h ++ [g]) k).length ≤ 10 ∧ ∀ x ∈ va_up S.1 h (S.1 h ++ [g]) k, x < N
          unfold va_up
          split
          · refine ⟨by simp; omega, fun x hx => ?_⟩
            rcases List.mem_append.mp hx with h | h
            · exact (hk' _).2 x h
            · rw [List.mem_singleton.mp h]; exact hg
          · exact hk' k
        · intro k
          show (va_up S.1 h (S.1 h ++ [g]) k).length ≤ i + 1
          unfold va_up
          have := hlen k
          split
          · simp; omega
          · omega
