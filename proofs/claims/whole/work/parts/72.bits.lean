/-! Sets of guests as bits; sums over all guests. -/
def popS (v : Nat) : Nat := ((List.range 10).map fun k => v / 2 ^ k % 2).sum
theorem bitc0 : ∀ v, v < 1024 → fJ6_bitCount_0f7a4 0 (nI v) = some (nI (popS v)) := by decide +kernel
theorem sJ6_bitCount {fuel v : Nat} (h : v < 1024) : fJ6_bitCount_0f7a4 fuel (nI v) = some (nI (popS v)) := bitc0 v h
theorem zset : ∀ i, i < 10 → ∀ v, v < 2 ^ i → nI v ||| ((1 : Int32) <<< (nI i &&& 31)) = nI (v + 2 ^ i) := by decide +kernel
theorem pop_set : ∀ i, i < 10 → ∀ v, v < 2 ^ i → popS (v + 2 ^ i) = popS v + 1 := by decide +kernel
theorem zor0 (v : Int32) : v ||| 0 = v := Int32.or_zero
theorem sX10_bits_L4 {v : Nat} (hv : v < 2 ^ 31) : ∀ (m n i c : Nat), i + m = 10 → m < n → fX10_bits_L4 (nI v) n (nI c) (nI i) = some (nI (c + ((List.range' i m).map fun k => v / 2 ^ k % 2).sum)) := by
  intro m
  induction m with
  | zero =>
    intro n i c h1 h2
    obtain ⟨n, rfl⟩ : ∃ k, n = k + 1 := ⟨n - 1, by omega⟩
    rw [fX10_bits_L4]
    simp (disch := omega) only [zlit, zz, if_pos, if_neg, if_true, if_false, zgd', zl, zbs, zbz, encz]
    simp
  | succ m ih =>
    intro n i c h1 h2
    obtain ⟨n, rfl⟩ : ∃ k, n = k + 1 := ⟨n - 1, by omega⟩
    have hz := zbit hv (show i < 10 by omega)
    rw [fX10_bits_L4, hz]
    simp (disch := omega) only [zlit, zz, if_pos, if_neg, if_true, if_false, zgd', zl, zbs, zbz, encz]
    rw [ih n (i + 1) _ (by omega) (by omega), List.range'_succ, List.map_cons, List.sum_cons, Nat.add_assoc]
theorem sX10_bits {fuel v : Nat} (hf : 100 < fuel) (hv : v < 2 ^ 31) : fX10_bits fuel (nI v) = some (nI (popS v)) := by
  unfold fX10_bits popS
  have := sX10_bits_L4 hv 10 fuel 0 0 (by omega) (by omega)
  rw [Nat.zero_add, ← List.range_eq_range'] at this
  exact this
def bset (p : Nat → Bool) : Nat → Nat
  | 0 => 0
  | n + 1 => bset p n + if p n = true then 2 ^ n else 0
def cntS (p : Nat → Bool) : Nat → Nat
  | 0 => 0
  | n + 1 => cntS p n + if p n = true then 1 else 0
theorem bset_lt (p : Nat → Bool) : ∀ n, bset p n < 2 ^ n
  | 0 => by show 0 < 1; decide
  | n + 1 => by
    have := bset_lt p n
    rw [bset, Nat.pow_succ]
    split <;> omega
theorem bset_1024 {p : Nat → Bool} {n : Nat} (h : n ≤ 10) : bset p n < 1024 := Nat.lt_of_lt_of_le (bset_lt p n) (Nat.pow_le_pow_right (by decide) h)
theorem pop_bset (p : Nat → Bool) : ∀ n, n ≤ 10 → popS (bset p n) = cntS p n
  | 0, _ => by show popS 0 = 0; decide
  | n + 1, h => by
    rw [bset, cntS]
    split
    · rw [pop_set n (by omega) _ (bset_lt p n), pop_bset p n (by omega)]
    · exact pop_bset p n (by omega)
/-- one step for each guest -/
def zfold (st : Nat → Int32 → Int32) : Nat → Nat → Int32 → Int32
  | 0, _, v => v
  | m + 1, i, v => zfold st m (i + 1) (st i v)
theorem zfold_ext {st st' : Nat → Int32 → Int32} : ∀ (m i : Nat) (v : Int32), (∀ k v, i ≤ k → k < i + m → st k v = st' k v) → zfold st m i v = zfold st' m i v
  | 0, _, _, _ => rfl
  | m + 1, i, v, h => by
    rw [zfold, zfold, h i v (Nat.le_refl _) (by omega), zfold_ext m (i + 1) _ (fun k v h1 h2 => h k v (by omega) (by omega))]
theorem zfold_cnt {p : Nat → Bool} : ∀ (m i : Nat), zfold (fun k v => if p k = true then v + nI 1 else v) m i (nI (cntS p i)) = nI (cntS p (i + m))
  | 0, i => rfl
  | m + 1, i => by
    rw [zfold, ← Nat.add_assoc, Nat.add_right_comm, ← zfold_cnt m (i + 1), cntS]
    split
    · rw [nI_add]
    · rfl
theorem zfold_bset {p : Nat → Bool} : ∀ (m i : Nat), i + m ≤ 10 → zfold (fun k v => if p k = true then v ||| ((1 : Int32) <<< (nI k &&& 31)) else v) m i (nI (bset p i)) = nI (bset p (i + m))
  | 0, i, _ => rfl
  | m + 1, i, h => by
    rw [zfold, ← Nat.add_assoc, Nat.add_right_comm, ← zfold_bset m (i + 1) (by omega), bset]
    split
    · rw [zset i (by omega) _ (bset_lt p i)]
    · rfl
/-- who misses the train -/
def msS (r : SR) (en : Nat → Nat) : Nat → Bool := fun g => decide (mnR r g + spS (rK r g) (rF r g) < en g)
theorem sX3_allWaiting_L4 {N : Nat} {be mn : Nat → Nat} {br go : Nat → Int32} (hN : N ≤ 10) (hb : ∀ x, x < N → br x = nI (be x)) (hg : ∀ x, x < N → go x = nI (mn x)) : ∀ (m n i : Nat) (v : Int32), i + m = N → m < n → fX3_allWaiting_L4 br go (nI N) n v (nI i) = some (zfold (fun k v => v + (nI (be k) - nI (mn k))) m i v) := by
  intro m
  induction m with
  | zero =>
    intro n i v h1 h2
    obtain ⟨n, rfl⟩ : ∃ k, n = k + 1 := ⟨n - 1, by omega⟩
    rw [fX3_allWaiting_L4]
    simp (disch := omega) only [zlit, zz, if_pos, if_neg, if_true, if_false, zgd', zl, zbs, zbz, encz]
    rfl
  | succ m ih =>
    intro n i v h1 h2
    obtain ⟨n, rfl⟩ : ∃ k, n = k + 1 := ⟨n - 1, by omega⟩
    rw [fX3_allWaiting_L4]
    have e1 : (1 : Int32) = nI 1 := rfl
    simp (disch := omega) only [nI_leI, nI_clamp, zin_nI, zgd', zl, hb i (show i < N by omega), hg i (show i < N by omega), e1, nI_add, if_neg]
    rw [ih n (i + 1) _ (by omega) (by omega), zfold]
theorem sX3_others_L4 {N : Nat} {has : Nat → Option Nat} {ha : Nat → Int32} (hN : N ≤ 10) (hb : ∀ x, x < N → ha x = enc (has x)) (hlt : ∀ x c, x < N → has x = some c → c < N) : ∀ (m n i : Nat) (v : Int32), i + m = N → m < n → fX3_howManyHaveAnothers_L4 ha (nI N) n v (nI i) = some (zfold (fun k v => if (decide (has k ≠ some k ∧ has k ≠ none)) = true then v + nI 1 else v) m i v) := by
  intro m
  induction m with
  | zero =>
    intro n i v h1 h2
    obtain ⟨n, rfl⟩ : ∃ k, n = k + 1 := ⟨n - 1, by omega⟩
    rw [fX3_howManyHaveAnothers_L4]
    simp (disch := omega) only [zlit, zz, if_pos, if_neg, if_true, if_false, zgd', zl, zbs, zbz, encz]
    rfl
  | succ m ih =>
    intro n i v h1 h2
    obtain ⟨n, rfl⟩ : ∃ k, n = k + 1 := ⟨n - 1, by omega⟩
    rw [fX3_howManyHaveAnothers_L4, zfold]
    have h9 := hb i (by omega)
    cases hq : has i with
    | none =>
      rw [hq] at h9
      simp (disch := omega) only [zlit, zz, if_pos, if_neg, if_true, if_false, zgd', zl, zbs, zbz, encz, h9, fX3_howManyHaveAnothers_J39]
      rw [ih n (i + 1) _ (by omega) (by omega)]
      simp
    | some c =>
      rw [hq] at h9
      have := hlt i c (by omega) hq
      by_cases q : c = i
      · simp (disch := omega) only [zlit, zz, if_pos, if_neg, if_true, if_false, zgd', zl, zbs, zbz, encz, h9, q, fX3_howManyHaveAnothers_J39]
        rw [ih n (i + 1) _ (by omega) (by omega)]
        simp
      · simp (disch := omega) only [zlit, zz, if_pos, if_neg, if_true, if_false, zgd', zl, zbs, zbz, encz, h9, fX3_howManyHaveAnothers_J39]
        rw [ih n (i + 1) _ (by omega) (by omega)]
        simp [q]
theorem sX3_nones_L4 {N : Nat} {has : Nat → Option Nat} {ha : Nat → Int32} (hN : N ≤ 10) (hb : ∀ x, x < N → ha x = enc (has x)) (hlt : ∀ x c, x < N → has x = some c → c < N) : ∀ (m n i : Nat) (v : Int32), i + m = N → m < n → fX3_howManyHaveNone_L4 ha (nI N) n v (nI i) = some (zfold (fun k v => if (decide (has k = none)) = true then v + nI 1 else v) m i v) := by
  intro m
  induction m with
  | zero =>
    intro n i v h1 h2
    obtain ⟨n, rfl⟩ : ∃ k, n = k + 1 := ⟨n - 1, by omega⟩
    rw [fX3_howManyHaveNone_L4]
    simp (disch := omega) only [zlit, zz, if_pos, if_neg, if_true, if_false, zgd', zl, zbs, zbz, encz]
    rfl
  | succ m ih =>
    intro n i v h1 h2
    obtain ⟨n, rfl⟩ : ∃ k, n = k + 1 := ⟨n - 1, by omega⟩
    rw [fX3_howManyHaveNone_L4, zfold]
    have h9 := hb i (by omega)
    cases hq : has i with
    | none =>
      rw [hq] at h9
      simp (disch := omega) only [zlit, zz, if_pos, if_neg, if_true, if_false, zgd', zl, zbs, zbz, encz, h9, fX3_howManyHaveNone_J29]
      rw [ih n (i + 1) _ (by omega) (by omega)]
      simp
    | some c =>
      rw [hq] at h9
      have := hlt i c (by omega) hq
      simp (disch := omega) only [zlit, zz, if_pos, if_neg, if_true, if_false, zgd', zl, zbs, zbz, encz, h9, fX3_howManyHaveNone_J29]
      rw [ih n (i + 1) _ (by omega) (by omega)]
      simp
theorem sX3_lastEnd_L4 {N : Nat} {en : Nat → Nat} {er : Nat → Int32} (hN : N ≤ 10) (hb : ∀ x, x < N → er x = nI (en x)) : ∀ (m n i : Nat) (v : Int32), i + m = N → m < n → fX3_lastEnd_L4 er (nI N) n v (nI i) = some (zfold (fun k v => zmax v (nI (en k))) m i v) := by
  intro m
  induction m with
  | zero =>
    intro n i v h1 h2
    obtain ⟨n, rfl⟩ : ∃ k, n = k + 1 := ⟨n - 1, by omega⟩
    rw [fX3_lastEnd_L4]
    simp (disch := omega) only [zlit, zz, if_pos, if_neg, if_true, if_false, zgd', zl, zbs, zbz, encz]
    rfl
  | succ m ih =>
    intro n i v h1 h2
    obtain ⟨n, rfl⟩ : ∃ k, n = k + 1 := ⟨n - 1, by omega⟩
    rw [fX3_lastEnd_L4]
    simp (disch := omega) only [zlit, zz, if_pos, if_neg, if_true, if_false, zgd', zl, zbs, zbz, encz, hb i (show i < N by omega)]
    rw [ih n (i + 1) _ (by omega) (by omega), zfold]
theorem sX3_missers {fuel : Nat} {r : SR} {en : Nat → Nat} {er go ki fi mi : Nat → Int32} (hf : 100 < fuel) (hr : okR r) (h : kfm (rN r) (rK r) (rF r) (rM r) ki fi mi) (hb : ∀ x, x < rN r → er x = nI (en x)) (hen : ∀ x, x < rN r → en x < 2 ^ 30) (hg : cM go (mnR r) (rN r)) : fX3_missers fuel er go (nI (rN r)) ki fi = some (nI (bset (msS r en) (rN r))) := by
  have hN := hr.1
  have key : ∀ (m n i : Nat) (v : Int32), i + m = rN r → m < n → fX3_missers_L4 fuel er go (nI (rN r)) ki fi n v (nI i) = some (zfold (fun k v => if msS r en k = true then v ||| ((1 : Int32) <<< (nI k &&& 31)) else v) m i v) := by
    intro m
    induction m with
    | zero =>
      intro n i v h1 h2
      obtain ⟨n, rfl⟩ : ∃ k, n = k + 1 := ⟨n - 1, by omega⟩
      rw [fX3_missers_L4]
      simp (disch := omega) only [zlit, zz, if_pos, if_neg, if_true, if_false, zgd', zl, zbs, zbz, encz]
      rfl
    | succ m ih =>
      intro n i v h1 h2
      obtain ⟨n, rfl⟩ : ∃ k, n = k + 1 := ⟨n - 1, by omega⟩
      have hi : i < rN r := by omega
      have e1 := hb i hi
      have e2 := hg i hi
      have e3 := hen i hi
      have e4 : spS (rK r i) (rF r i) ≤ 99 := by have := (hr.2.1 i hi).2.1; unfold spS; split <;> omega
      rw [fX3_missers_L4, zfold]
      by_cases q : en i ≤ mnR r i + spS (rK r i) (rF r i)
      · have : msS r en i = false := decide_eq_false (by omega)
        simp (disch := omega) only [zlit, zz, if_pos, if_neg, if_true, if_false, zgd', zl, zbs, zbz, encz, e1, e2.1, sX5_spareOf hN h hi, fX3_missers_J45, this, Bool.false_eq_true]
        exact ih n (i + 1) _ (by omega) (by omega)
      · have : msS r en i = true := decide_eq_true (by omega)
        have e0 : (0 : Int32) = nI 0 := rfl
        have ee : (1 : Int32) <<< (nI i &&& 31) = (1 : Int32) <<< (nI i &&& 31) := rfl
        generalize hsh : (1 : Int32) <<< (nI i &&& 31) = sh
        simp (disch := omega) only [zlit, zz, if_pos, if_neg, if_true, if_false, zgd', zl, zbs, zbz, encz, e1, e2.1, sX5_spareOf hN h hi, fX3_missers_J45, this, hsh]
        exact ih n (i + 1) _ (by omega) (by omega)
  unfold fX3_missers
  have e0 : (0 : Int32) = nI 0 := rfl
  rw [e0, key (rN r) fuel 0 (nI 0) (by omega) (by omega)]
  have := zfold_bset (p := msS r en) (rN r) 0 (by omega)
  rw [Nat.zero_add] at this
  exact congrArg some this
