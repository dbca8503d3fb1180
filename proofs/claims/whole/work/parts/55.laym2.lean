/-! The model: all are laid. -/
/-- the i-th heap that a letter looks at -/
def hl1 (letter hp : Nat) (lat : Option Nat) (i : Nat) : Nat := match letter, lat with
  | 5, some t => (t + 1 + i) % hp
  | _, _ => i
theorem hl1_ne {letter hp i : Nat} {lat : Option Nat} (h : ¬ letter = 5) : hl1 letter hp lat i = i := by
  unfold hl1
  split
  · exact absurd rfl h
  · rfl
theorem hlS_eq (letter hp : Nat) (lat : Option Nat) : hlS letter hp lat = (List.range' 0 hp).map (hl1 letter hp lat) := by
  rw [← List.range_eq_range']
  by_cases h : letter = 5
  · subst h
    cases lat with
    | none => exact (List.map_id _).symm
    | some t => rfl
  · have e : hlS letter hp lat = List.range hp := by
      unfold hlS
      split
      · exact absurd rfl h
      · rfl
    rw [e]
    exact ((List.map_congr_left (fun a _ => hl1_ne h)).trans (List.map_id _)).symm
theorem sX10_heapBy_L6 {fuel ho hp mg a : Nat} {H : HP} {mn : Nat → Nat} {mi pl hi : Nat → Int32} {lat : Option Nat} (hhp : hp ≤ 3) (h0 : 0 < hp) (hho : ho < 100) {N : Nat} (hN : N ≤ 10) (hB : mB H pl hi) (hk : okH N H) (hM : cM mi mn N) (hmg : mg < 1000) (ha : a ≤ 5) (hlat : ∀ t, lat = some t → t < hp) :
    ∀ (m n i : Nat) (than : Option Nat), i + m = hp → m < n → (∀ t, than = some t → t < 3 ∧ (a = 3 ∨ a = 4 → H t ≠ [])) → fX10_heapBy_L6 fuel (nI hp) (nI ho) mi pl hi (enc lat) (nI a) (nI mg) n (enc than) (nI i) = some (enc (bestH (btS a ho (lnS H) (tmS mn H) mg) ((List.range' i m).map (hl1 a hp lat)) than)) := by
  intro m
  induction m with
  | zero =>
    intro n i than h1 h2 h3
    obtain ⟨n, rfl⟩ : ∃ k, n = k + 1 := ⟨n - 1, by omega⟩
    rw [fX10_heapBy_L6]
    simp (disch := omega) only [zlit, zz, if_pos, if_neg, if_true, if_false, zgd', zl, zbs, zbz, encz]
    rfl
  | succ m ih =>
    intro n i than h1 h2 h3
    obtain ⟨n, rfl⟩ : ∃ k, n = k + 1 := ⟨n - 1, by omega⟩
    rw [List.range'_succ, List.map_cons, bestH]
    have hx : hl1 a hp lat i < 3 := by
      unfold hl1
      split
      · rename_i t
        have := Nat.mod_lt (t + 1 + i) h0
        omega
      · omega
    generalize hxe : hl1 a hp lat i = x at hx
    obtain ⟨e1, -⟩ := hB x hx
    have e2 := (hk x).1
    -- one heap is looked at
    have step : ∀ k : Int32 → Int32 → Option Int32, (∀ th, k (enc th) (nI (i + 1)) = fX10_heapBy_L6 fuel (nI hp) (nI ho) mi pl hi (enc lat) (nI a) (nI mg) n (enc th) (nI (i + 1))) →
        ((fX10_hasRoom fuel (nI ho) hi (nI x)).bind fun o_6 => if o_6 = nI 0 then k (enc than) (nI (i + 1)) else (fX10_isBetter fuel mi pl hi (nI a) (nI x) (enc than) (nI mg)).bind fun o_8 => if o_8 = nI 0 then k (enc than) (nI (i + 1)) else k (nI x) (nI (i + 1))) = some (enc (bestH (btS a ho (lnS H) (tmS mn H) mg) ((List.range' (i + 1) m).map (hl1 a hp lat)) (if btS a ho (lnS H) (tmS mn H) mg x than = true then some x else than))) := by
      intro k hk9
      rw [sX10_hasRoom hho (show (H x).length < 100 by omega) e1 hx, zbs]
      by_cases r : (H x).length < ho
      · rw [sX10_isBetter hN hB hk hM hx hmg ha h3, zbs]
        by_cases w : btI a (lnS H) (tmS mn H) mg x than = true
        · have e : btS a ho (lnS H) (tmS mn H) mg x than = true := by simp [btS, lnS, r, w]
          rw [e]
          simp (disch := omega) only [zlit, zz, if_pos, if_neg, if_true, if_false, zgd', zl, zbs, zbz, encz, r, w, decide_true, Bool.true_eq_false]
          rw [show nI x = enc (some x) from rfl, hk9]
          refine ih n (i + 1) (some x) (by omega) (by omega) (fun t ht => ?_)
          cases ht
          refine ⟨hx, fun ha2 hn => ?_⟩
          rcases ha2 with rfl | rfl <;> simp [btI, tmS, hn] at w
        · have e : btS a ho (lnS H) (tmS mn H) mg x than = false := by simp [btS, w]
          rw [e]
          simp (disch := omega) only [zlit, zz, if_pos, if_neg, if_true, if_false, zgd', zl, zbs, zbz, encz, r, w, decide_true, Bool.true_eq_false, Bool.false_eq_true]
          rw [hk9]
          exact ih n (i + 1) than (by omega) (by omega) h3
      · have e : btS a ho (lnS H) (tmS mn H) mg x than = false := by simp [btS, lnS, r]
        rw [e]
        simp (disch := omega) only [zlit, zz, if_pos, if_neg, if_true, if_false, zgd', zl, zbs, zbz, encz, r, decide_false, Bool.false_eq_true]
        rw [hk9]
        exact ih n (i + 1) than (by omega) (by omega) h3
    rw [fX10_heapBy_L6]
    by_cases ha5 : a = 5
    · cases lat with
      | none =>
        have : i = x := by rw [← hxe, ha5]; rfl
        subst this
        subst ha5
        simp (disch := omega) only [zlit, zz, if_pos, if_neg, if_true, if_false, zgd', zl, zbs, zbz, encz, fX10_heapBy_J46, fX10_heapBy_J76]
        exact step _ (fun _ => rfl)
      | some t =>
        have ht := hlat t rfl
        have : (t + 1 + i) % hp = x := by rw [← hxe, ha5]; rfl
        have hr : nI (t + 1 + i) - nI (t + 1 + i) / nI hp * nI hp = nI x := by rw [pk_rem (by omega) h0 (by omega), this]
        subst ha5
        have hne : ¬ hp = 0 := by omega
        simp (disch := omega) only [zlit, zz, if_pos, if_neg, if_true, if_false, zgd', zl, zbs, zbz, encz, fX10_heapBy_J46, fX10_heapBy_J76, hr]
        exact step _ (fun _ => rfl)
    · have : i = x := by rw [← hxe, hl1_ne ha5]
      subst this
      simp (disch := omega) only [zlit, zz, if_pos, if_neg, if_true, if_false, zgd', zl, zbs, zbz, encz, fX10_heapBy_J46, fX10_heapBy_J76]
      exact step _ (fun _ => rfl)
theorem sX10_heapBy {fuel ho hp mg a : Nat} {H : HP} {mn : Nat → Nat} {mi pl hi : Nat → Int32} {lat : Option Nat} (hf : 100 < fuel) (hhp : hp ≤ 3) (h0 : 0 < hp) (hho : ho < 100) {N : Nat} (hN : N ≤ 10) (hB : mB H pl hi) (hk : okH N H) (hM : cM mi mn N) (hmg : mg < 1000) (ha : a ≤ 5) (hlat : ∀ t, lat = some t → t < hp) :
    fX10_heapBy fuel (nI hp) (nI ho) mi pl hi (enc lat) (nI a) (nI mg) = some (enc (byS a hp ho (lnS H) (tmS mn H) lat mg)) := by
  unfold fX10_heapBy byS
  rw [hlS_eq]
  exact sX10_heapBy_L6 hhp h0 hho hN hB hk hM hmg ha hlat hp fuel 0 none (by omega) (by omega) (fun _ h => by cases h)
theorem sX10_heapFor_L5 {fuel ho hp g : Nat} {H : HP} {mn : Nat → Nat} {mi pl hi ru : Nat → Int32} {lat : Option Nat} {L : List Nat} (hf : 100 < fuel) (hhp : hp ≤ 3) (h0 : 0 < hp) (hho : ho < 100) {N : Nat} (hN : N ≤ 10) (hB : mB H pl hi) (hk : okH N H) (hM : cM mi mn N) (hg : g < N) (hlat : ∀ t, lat = some t → t < hp) (hL : L.length ≤ 6) (hru : ∀ i x, L[i]? = some x → ru i = nI x ∧ x ≤ 5) :
    ∀ (m n i : Nat), i + m = L.length → m < n → fX10_heapFor_L5 fuel (nI hp) (nI ho) (nI L.length) ru mi pl hi (enc lat) (nI g) n (enc none) (nI i) = some (enc (forS hp ho (lnS H) (tmS mn H) lat (mn g) (L.drop i))) := by
  obtain ⟨g1, g2⟩ := hM g hg
  have last : ∀ h, h < 3 → ∀ (n i : Nat), i ≤ 6 → fX10_heapFor_L5 fuel (nI hp) (nI ho) (nI L.length) ru mi pl hi (enc lat) (nI g) (n + 1) (nI h) (nI i) = some (nI h) := by
    intro h h3 n i hi
    rw [fX10_heapFor_L5]
    simp (disch := omega) only [zlit, zz, if_pos, if_neg, if_true, if_false, zgd', zl, zbs, zbz, encz, fX10_heapFor_J42]
    split <;> rfl
  intro m
  induction m with
  | zero =>
    intro n i h1 h2
    obtain ⟨n, rfl⟩ : ∃ k, n = k + 1 := ⟨n - 1, by omega⟩
    rw [fX10_heapFor_L5, List.drop_eq_nil_of_le (by omega)]
    simp (disch := omega) only [zlit, zz, if_pos, if_neg, if_true, if_false, zgd', zl, zbs, zbz, encz, fX10_heapFor_J42, g1]
    rw [sX10_heapBy hf hhp h0 hho hN hB hk hM g2 (by omega) hlat]
    rfl
  | succ m ih =>
    intro n i h1 h2
    obtain ⟨n, rfl⟩ : ∃ k, n = k + 1 := ⟨n - 1, by omega⟩
    have hi : i < L.length := by omega
    obtain ⟨q1, q2⟩ := hru i L[i] (List.getElem?_eq_getElem hi)
    rw [List.drop_eq_getElem_cons hi, forS, fX10_heapFor_L5]
    simp (disch := omega) only [zlit, zz, if_pos, if_neg, if_true, if_false, zgd', zl, zbs, zbz, encz, fX10_heapFor_J42, g1, q1]
    rw [sX10_heapBy hf hhp h0 hho hN hB hk hM g2 q2 hlat, zbs]
    cases hq : byS L[i] hp ho (lnS H) (tmS mn H) lat (mn g) with
    | none => exact ih n (i + 1) (by omega) (by omega)
    | some h =>
      have h9 := byS_lt h0 hq
      obtain ⟨n, rfl⟩ : ∃ k, n = k + 1 := ⟨n - 1, by omega⟩
      exact last h (by omega) n (i + 1) (by omega)
theorem sX10_putOn {fuel h g n : Nat} {pl hi : Nat → Int32} (h1 : h < 3) (h3 : hi h = nI n) (h4 : n < 10) (v : Int32) : fX10_putOn fuel pl hi (nI h) v = some (upd pl (10 * h + n) v, upd hi h (nI (n + 1))) := by
  unfold fX10_putOn
  simp (disch := omega) only [zlit, zz, if_pos, if_neg, if_true, if_false, zgd', zl, zbs, zbz, encz, h3]
theorem mB_push {H : HP} {pl hi : Nat → Int32} {h g : Nat} (hk : ∀ k, k < 3 → (H k).length ≤ 10) (h3 : h < 3) (hn : (H h).length < 10) (hB : mB H pl hi) : mB (va_up H h (H h ++ [g])) (upd pl (10 * h + (H h).length) (nI g)) (upd hi h (nI ((H h).length + 1))) := by
  intro k hk3
  obtain ⟨b1, b2⟩ := hB k hk3
  unfold va_up upd
  by_cases q : k = h
  · subst q
    simp only [if_true]
    refine ⟨by simp, fun i x hx => ?_⟩
    rw [List.getElem?_append] at hx
    split at hx
    · rw [if_neg (by omega)]
      exact b2 i x hx
    · have : i = (H k).length := by
        rw [List.getElem?_singleton] at hx
        split at hx
        · omega
        · cases hx
      subst this
      simp at hx
      rw [if_pos rfl, hx]
  · simp only [q, if_false]
    refine ⟨b1, fun i x hx => ?_⟩
    have h1 := (List.getElem?_eq_some_iff.mp hx).1
    have h2 := hk k hk3
    rw [if_neg (by omega)]
    exact b2 i x hx
theorem sX10_isIn {fuel : Nat} (v a b : Int32) : fX10_isIn fuel v a b = some (zb01 (decide (a ≤ v ∧ v ≤ b))) := by
  unfold fX10_isIn
  by_cases h1 : v < a
  · have : ¬ (a ≤ v ∧ v ≤ b) := fun h => absurd h.1 (by rw [Int32.le_iff_toInt_le]; have := Int32.lt_iff_toInt_lt.mp h1; omega)
    rw [if_pos h1, decide_eq_false this]; rfl
  · rw [if_neg h1]
    by_cases h2 : b < v
    · have : ¬ (a ≤ v ∧ v ≤ b) := fun h => absurd h.2 (by rw [Int32.le_iff_toInt_le]; have := Int32.lt_iff_toInt_lt.mp h2; omega)
      rw [if_pos h2, decide_eq_false this]; rfl
    · have : a ≤ v ∧ v ≤ b := ⟨by rw [Int32.le_iff_toInt_le]; rw [Int32.lt_iff_toInt_lt] at h1; omega, by rw [Int32.le_iff_toInt_le]; rw [Int32.lt_iff_toInt_lt] at h2; omega⟩
      rw [if_neg h2, decide_eq_true this]; rfl
