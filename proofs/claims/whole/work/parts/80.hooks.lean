/-! The calls: whom, worth. -/
/-- the first that is least, of some -/
def fdS (f : Nat → Nat) : List Nat → Option Nat → Option Nat
  | [], b => b
  | x :: l, none => fdS f l (some x)
  | x :: l, some b => fdS f l (if f x < f b then some x else some b)
theorem fd_zero {f : Nat → Nat} {b : Nat} (h : f b = 0) : ∀ l : List Nat, fdS f l (some b) = some b
  | [] => rfl
  | x :: l => by rw [fdS, if_neg (by omega), fd_zero h l]
theorem fd_some {f : Nat → Nat} : ∀ (l : List Nat) (b : Nat), ∃ c, fdS f l (some b) = some c
  | [], b => ⟨b, rfl⟩
  | x :: l, b => by
    rw [fdS]
    split
    · exact fd_some l x
    · exact fd_some l b
theorem fd_mem {f : Nat → Nat} : ∀ (l : List Nat) (b : Option Nat) (c : Nat), fdS f l b = some c → c ∈ l ∨ b = some c
  | [], b, c, h => Or.inr h
  | x :: l, none, c, h => by
    rw [fdS] at h
    rcases fd_mem l _ c h with q | q
    · exact Or.inl (List.mem_cons_of_mem _ q)
    · cases q; exact Or.inl List.mem_cons_self
  | x :: l, some b, c, h => by
    rw [fdS] at h
    rcases fd_mem l _ c h with q | q
    · exact Or.inl (List.mem_cons_of_mem _ q)
    · split at q
      · cases q; exact Or.inl List.mem_cons_self
      · exact Or.inr q
theorem fd_ne {f : Nat → Nat} {l : List Nat} {x : Nat} (h : x ∈ l) : ∃ c, fdS f l none = some c := by
  cases l with
  | nil => simp at h
  | cons y l => rw [fdS]; exact fd_some l y
/-- the lifts of what was found -/
def encF (f : Nat → Nat) (b : Option Nat) : Int32 := match b with | none => zNo | some b => nI (f b)
theorem sX8_findIfFewer {fuel x : Nat} {f : Nat → Nat} {b : Option Nat} (hf : ∀ v, f v < 2 ^ 31) : fX8_findIfFewer fuel (enc b) (encF f b) (nI x) (nI (f x)) = some (enc (fdS f [x] b), encF f (fdS f [x] b)) := by
  unfold fX8_findIfFewer fX8_findIfFewer_J17
  cases b with
  | none => rfl
  | some b =>
    have h1 := hf b
    have h2 := hf x
    rw [fdS, fdS]
    have e4 : (-4 : Int32) = zNo := rfl
    show (if nI (f b) = -4 then _ else if nI (f b) ≤ nI (f x) then _ else _) = _
    by_cases q : f x < f b
    · rw [if_pos q, e4]
      simp (disch := omega) only [zlit, zz, if_pos, if_neg, if_true, if_false, zgd', zl, zbs, zbz, encz]
      first | done | rfl
    · rw [if_neg q, e4]
      simp (disch := omega) only [zlit, zz, if_pos, if_neg, if_true, if_false, zgd', zl, zbs, zbz, encz]
      first | done | rfl
theorem fd_cons {f : Nat → Nat} {x : Nat} {l : List Nat} {b : Option Nat} : fdS f (x :: l) b = fdS f l (fdS f [x] b) := by
  cases b with
  | none => rfl
  | some b => rfl
theorem pop_lt : ∀ v, v < 1024 → popS v ≤ 10 := by decide +kernel
theorem zpow : ∀ n, n ≤ 10 → (1 : Int32) <<< (nI n &&& 31) = nI (2 ^ n) := by decide +kernel
theorem pow_le {n : Nat} (h : n ≤ 10) : 2 ^ n ≤ 1024 := Nat.pow_le_pow_right (n := 2) (by decide) h
def cand (k : Nat) (l : List Nat) : List Nat := l.filter fun v => decide (popS v = k)
theorem cand_cons (k i : Nat) (l : List Nat) : cand k (i :: l) = if popS i = k then i :: cand k l else cand k l := by
  unfold cand
  rw [List.filter_cons]
  by_cases q : popS i = k <;> simp [q]
def hkF (r : SR) (v : Nat) : Nat := sAll (nightR (rHooks r v))
theorem hkF_le {r : SR} (hr : okR r) {v : Nat} (hv : v < 2 ^ 31) : hkF r v ≤ 1000 := all_le (ok_hooks hr hv)
/-- bounded, for all arguments -/
def hkG (r : SR) (v : Nat) : Nat := if v < 2 ^ 31 then hkF r v else 0
theorem hkG_eq {r : SR} {v : Nat} (hv : v < 2 ^ 31) : hkG r v = hkF r v := by unfold hkG; rw [if_pos hv]
theorem hkG_lt {r : SR} (hr : okR r) (v : Nat) : hkG r v < 2 ^ 31 := by
  unfold hkG
  split
  · have := hkF_le (v := v) hr (by assumption); omega
  · decide
theorem sX8_tryHooks_L14 {r : SR} {k : Nat} (fuel : Nat) (r_guests : Int32) (ad_t : Nat → Nat) (p2 : Int32) (hf : 10000 < fuel) (hr : okR r) (hg : r_guests = nI (rN r)) (hk : k ≤ 3) (hp : p2 = nI k) :
    ∀ (m n i x : Nat) (b : Option Nat) (t_guests : Int32) (t_kinds : Nat → Int32) (t_figures : Nat → Int32) (t_minutes : Nat → Int32) (t_settings : Nat → Int32) (t_hooks : Int32) (t_letters : Nat → Int32) (t_letterCount : Int32) (n_order : Nat → Int32) (n_weights : Nat → Int32) (n_black : Nat → Int32) (n_lifts : Nat → Int32) (n_begins : Nat → Int32) (n_ends : Nat → Int32) (n_has : Nat → Int32) (n_lifted : Nat → Int32) (n_allLifts : Int32) (n_doneAt : Int32) (y_going : Nat → Int32) (y_coming : Nat → Int32) (y_holds : Int32) (y_latest : Int32) (b_heaps : Int32) (b_piles : Nat → Nat → Int32) (b_heights : Nat → Int32) (b_spots : Nat → Int32) (n_room : Nat), i + m = 2 ^ rN r → m < n → cR (rHooks r x) t_guests t_kinds t_figures t_minutes t_settings t_hooks t_letters t_letterCount → ∃ o, fX8_tryHooks_L14 fuel r_guests ad_t p2 n (nI i) (enc b) (encF (hkG r) b) t_guests t_kinds t_figures t_minutes t_settings t_hooks t_letters t_letterCount n_order n_weights n_black n_lifts n_begins n_ends n_has n_lifted n_allLifts n_doneAt y_going y_coming y_holds y_latest b_heaps b_piles b_heights b_spots n_room = some o ∧ o.1 = enc (fdS (hkG r) (cand k (List.range' i m)) b) ∧ o.2.1 = encF (hkG r) (fdS (hkG r) (cand k (List.range' i m)) b) := by
  have hN := hr.1
  have hpw := pow_le hN
  subst hg hp
  intro m
  induction m with
  | zero =>
    intro n i x b t_guests t_kinds t_figures t_minutes t_settings t_hooks t_letters t_letterCount n_order n_weights n_black n_lifts n_begins n_ends n_has n_lifted n_allLifts n_doneAt y_going y_coming y_holds y_latest b_heaps b_piles b_heights b_spots n_room h1 h2 hc
    obtain ⟨n, rfl⟩ : ∃ k, n = k + 1 := ⟨n - 1, by omega⟩
    rw [fX8_tryHooks_L14, zpow _ hN]
    simp (disch := omega) only [zlit, zz, if_pos, if_neg, if_true, if_false, zgd', zl, zbs, zbz, encz]
    exact ⟨_, rfl, rfl, rfl⟩
  | succ m ih =>
    intro n i x b t_guests t_kinds t_figures t_minutes t_settings t_hooks t_letters t_letterCount n_order n_weights n_black n_lifts n_begins n_ends n_has n_lifted n_allLifts n_doneAt y_going y_coming y_holds y_latest b_heaps b_piles b_heights b_spots n_room h1 h2 hc
    obtain ⟨n, rfl⟩ : ∃ k, n = k + 1 := ⟨n - 1, by omega⟩
    have hi : i < 1024 := by omega
    have hpi := pop_lt i hi
    rw [fX8_tryHooks_L14, zpow _ hN, List.range'_succ, cand_cons]
    by_cases hz : encF (hkG r) b = nI 0
    · -- nothing is fewer than none
      cases b with
      | none => exact absurd hz (show ¬ zNo = nI 0 by decide)
      | some b =>
        have hb := hkG_lt hr b
        have h0 : hkG r b = 0 := (nI_eq hb (by decide)).mp hz
        rw [fd_zero h0]
        simp (disch := omega) only [zlit, zz, if_pos, if_neg, if_true, if_false, zgd', zl, zbs, zbz, encz, hz]
        exact ⟨_, rfl, rfl, rfl⟩
    · by_cases q : popS i = k
      · obtain ⟨a1, a2, a3, a4, a5, a6, a7, a8, a9⟩ := hc
        have hc2 : cR (rHooks r i) t_guests t_kinds t_figures t_minutes t_settings (nI i) t_letters t_letterCount := ⟨a1, a2, a3, a4, a5, a6, rfl, a8, a9⟩
        obtain ⟨y, y1, y2, -⟩ := sX3_pass (show 100 < fuel by omega) (ok_hooks hr (show i < 2 ^ 31 by omega)) hc2 n_order n_weights n_black n_lifts n_begins n_ends n_has n_lifted n_allLifts n_doneAt y_going y_coming y_holds y_latest b_heaps b_piles b_heights b_spots
        have hff := sX8_findIfFewer (fuel := fuel) (x := i) (b := b) (hkG_lt hr)
        have e : nI (sAll (nightR (rHooks r i))) = nI (hkG r i) := by rw [hkG_eq (by omega)]; rfl
        rw [e] at y2
        rw [if_pos q, fd_cons]
        simp (disch := omega) only [zlit, zz, if_pos, if_neg, if_true, if_false, zgd', zl, zbs, zbz, encz, hz, sJ6_bitCount hi, q, y1, y2, hff, fX8_tryHooks_J63]
        exact ih n (i + 1) i _ _ _ _ _ _ _ _ _ _ _ _ _ _ _ _ _ _ _ _ _ _ _ _ _ _ _ _ (by omega) (by omega) hc2
      · rw [if_neg q]
        simp (disch := omega) only [zlit, zz, if_pos, if_neg, if_true, if_false, zgd', zl, zbs, zbz, encz, hz, sJ6_bitCount hi, fX8_tryHooks_J63]
        exact ih n (i + 1) x _ _ _ _ _ _ _ _ _ _ _ _ _ _ _ _ _ _ _ _ _ _ _ _ _ _ _ _ (by omega) (by omega) hc
theorem sX8_tryHooks {r : SR} {k : Nat} (fuel : Nat) (q_found : Int32) (q_foundLifts : Int32) (t_guests : Int32) (t_kinds : Nat → Int32) (t_figures : Nat → Int32) (t_minutes : Nat → Int32) (t_settings : Nat → Int32) (t_hooks : Int32) (t_letters : Nat → Int32) (t_letterCount : Int32) (n_room : Nat) (n_order : Nat → Int32) (n_weights : Nat → Int32) (n_black : Nat → Int32) (n_lifts : Nat → Int32) (n_begins : Nat → Int32) (n_ends : Nat → Int32) (n_has : Nat → Int32) (n_lifted : Nat → Int32) (n_allLifts : Int32) (n_doneAt : Int32) (y_going : Nat → Int32) (y_coming : Nat → Int32) (y_holds : Int32) (y_latest : Int32) (b_heaps : Int32) (b_piles : Nat → Nat → Int32) (b_heights : Nat → Int32) (b_spots : Nat → Int32) (r_guests : Int32) (r_kinds : Nat → Int32) (r_figures : Nat → Int32) (r_minutes : Nat → Int32) (r_settings : Nat → Int32) (r_hooks : Int32) (r_letters : Nat → Int32) (r_letterCount : Int32) (ad_t : Nat → Nat) (p2 : Int32) (hf : 10000 < fuel) (hr : okR r) (hc : cR r r_guests r_kinds r_figures r_minutes r_settings r_hooks r_letters r_letterCount) (hk : k ≤ 3) (hp : p2 = nI k) : ∃ o, fX8_tryHooks fuel q_found q_foundLifts t_guests t_kinds t_figures t_minutes t_settings t_hooks t_letters t_letterCount n_room n_order n_weights n_black n_lifts n_begins n_ends n_has n_lifted n_allLifts n_doneAt y_going y_coming y_holds y_latest b_heaps b_piles b_heights b_spots r_guests r_kinds r_figures r_minutes r_settings r_hooks r_letters r_letterCount ad_t p2 = some o ∧ o.1 = enc (fdS (hkG r) (cand k (List.range (2 ^ rN r))) none) ∧ o.2.1 = encF (hkG r) (fdS (hkG r) (cand k (List.range (2 ^ rN r))) none) := by
  unfold fX8_tryHooks fX8_findNothing
  have hpw := pow_le hr.1
  obtain ⟨c, c1, c2⟩ := sX5_copyFrom hr hc fuel t_guests t_kinds t_figures t_minutes t_settings t_hooks t_letters t_letterCount
  rw [zbs, c1, zbs, List.range_eq_range']
  have hc3 : cR (rHooks r (rHk r)) c.1 c.2.1 c.2.2.1 c.2.2.2.1 c.2.2.2.2.1 c.2.2.2.2.2.1 c.2.2.2.2.2.2.1 c.2.2.2.2.2.2.2 := c2
  exact sX8_tryHooks_L14 fuel r_guests ad_t p2 hf hr hc.1 hk hp (2 ^ rN r) fuel 0 (rHk r) none _ _ _ _ _ _ _ _ n_order n_weights n_black n_lifts n_begins n_ends n_has n_lifted n_allLifts n_doneAt y_going y_coming y_holds y_latest b_heaps b_piles b_heights b_spots n_room (by omega) (by omega) hc3
theorem sX10_byHooks {r : SR} (fuel : Nat) (M_guests : Int32) (M_kind : Nat → Int32) (M_figure : Nat → Int32) (M_told : Nat → Int32) (M_heaps : Int32) (M_holds : Int32) (M_back : Int32) (M_mistakes : Int32) (M_hooks : Int32) (M_letters : Int32) (M_rule : Nat → Int32) (M_coming : Nat → Int32) (M_comingMany : Int32) (M_going : Nat → Int32) (M_goingMany : Int32) (M_minute : Nat → Int32) (M_pile : Nat → Int32) (M_high : Nat → Int32) (M_where : Nat → Int32) (M_latest : Int32) (M_lifts : Nat → Int32) (M_begun : Nat → Int32) (M_left : Nat → Int32) (M_has : Nat → Int32) (M_lifted : Nat → Int32) (M_taken : Nat → Int32) (M_above : Nat → Int32) (M_allLifts : Int32) (M_busy : Int32) (p1 : Int32) {v : Nat} (hf : 100 < fuel) (hr : okR r) (hv : v < 2 ^ 31) (hm : mR r M_guests M_kind M_figure M_told M_heaps M_holds M_back M_mistakes M_hooks M_letters M_rule) (h : p1 = nI v) : ∃ p, fX10_byHooks fuel M_guests M_kind M_figure M_told M_heaps M_holds M_back M_mistakes M_hooks M_letters M_rule M_coming M_comingMany M_going M_goingMany M_minute M_pile M_high M_where M_latest M_lifts M_begun M_left M_has M_lifted M_taken M_above M_allLifts M_busy p1 = some p ∧ p.1 = nI (hkG r v) ∧ p.2.1 = M_hooks := by
  obtain ⟨a1, a2, a3, a4, a5, a6, a7, a8, a9⟩ := hm
  subst h
  unfold fX10_byHooks
  have hm2 : mR (rHooks r v) M_guests M_kind M_figure M_told M_heaps M_holds M_back M_mistakes (nI v) M_letters M_rule := ⟨a1, a2, a3, a4, a5, a6, rfl, a8, a9⟩
  obtain ⟨w, w1, w2, -⟩ := sX10_night hf (ok_hooks hr hv) hm2 M_coming M_comingMany M_going M_goingMany M_minute M_pile M_high M_where M_latest M_lifts M_begun M_left M_has M_lifted M_taken M_above M_allLifts M_busy
  rw [w1, zbs]
  exact ⟨_, rfl, by rw [hkG_eq hv]; exact w2, rfl⟩
theorem sX10_bestHooks_L8 {r : SR} {k : Nat} (fuel : Nat) (M_guests : Int32) (M_kind : Nat → Int32) (M_figure : Nat → Int32) (M_told : Nat → Int32) (M_heaps : Int32) (M_holds : Int32) (M_back : Int32) (M_mistakes : Int32) (M_letters : Int32) (M_rule : Nat → Int32) (p1 : Int32) (M_hooks : Int32) (hf : 10000 < fuel) (hr : okR r) (hm : mR r M_guests M_kind M_figure M_told M_heaps M_holds M_back M_mistakes M_hooks M_letters M_rule) (hk : k ≤ 3) (hp : p1 = nI k) :
    ∀ (m n i : Nat) (b : Option Nat) (le : Int32) (M_coming : Nat → Int32) (M_comingMany : Int32) (M_going : Nat → Int32) (M_goingMany : Int32) (M_minute : Nat → Int32) (M_pile : Nat → Int32) (M_high : Nat → Int32) (M_where : Nat → Int32) (M_latest : Int32) (M_lifts : Nat → Int32) (M_begun : Nat → Int32) (M_left : Nat → Int32) (M_has : Nat → Int32) (M_lifted : Nat → Int32) (M_taken : Nat → Int32) (M_above : Nat → Int32) (M_allLifts : Int32) (M_busy : Int32), i + m = 2 ^ rN r → m < n → (∀ c, b = some c → le = nI (hkG r c) ∧ c < 1024) → ∃ p, fX10_bestHooks_L8 fuel M_guests M_kind M_figure M_told M_heaps M_holds M_back M_mistakes M_letters M_rule p1 n (enc b) le (nI i) M_hooks M_coming M_comingMany M_going M_goingMany M_minute M_pile M_high M_where M_latest M_lifts M_begun M_left M_has M_lifted M_taken M_above M_allLifts M_busy = some p ∧ p.1 = enc (fdS (hkG r) (cand k (List.range' i m)) b) ∧ p.2.1 = M_hooks := by
  have hN := hr.1
  have hpw := pow_le hN
  have hg := hm.1
  subst hp
  intro m
  induction m with
  | zero =>
    intro n i b le M_coming M_comingMany M_going M_goingMany M_minute M_pile M_high M_where M_latest M_lifts M_begun M_left M_has M_lifted M_taken M_above M_allLifts M_busy h1 h2 hb
    obtain ⟨n, rfl⟩ : ∃ k, n = k + 1 := ⟨n - 1, by omega⟩
    rw [fX10_bestHooks_L8, hg, zpow _ hN]
    simp (disch := omega) only [zlit, zz, if_pos, if_neg, if_true, if_false, zgd', zl, zbs, zbz, encz]
    exact ⟨_, rfl, rfl, rfl⟩
  | succ m ih =>
    intro n i b le M_coming M_comingMany M_going M_goingMany M_minute M_pile M_high M_where M_latest M_lifts M_begun M_left M_has M_lifted M_taken M_above M_allLifts M_busy h1 h2 hb
    obtain ⟨n, rfl⟩ : ∃ k, n = k + 1 := ⟨n - 1, by omega⟩
    have hi : i < 1024 := by omega
    have hpi := pop_lt i hi
    have hbt := sX10_bits (fuel := fuel) (v := i) (by omega) (by omega)
    rw [fX10_bestHooks_L8, hg, zpow _ hN, ← hg, List.range'_succ, cand_cons]
    by_cases q : popS i = k
    · obtain ⟨w, w1, w2, w3⟩ := sX10_byHooks fuel M_guests M_kind M_figure M_told M_heaps M_holds M_back M_mistakes M_hooks M_letters M_rule M_coming M_comingMany M_going M_goingMany M_minute M_pile M_high M_where M_latest M_lifts M_begun M_left M_has M_lifted M_taken M_above M_allLifts M_busy (nI i) (show 100 < fuel by omega) hr (show i < 2 ^ 31 by omega) hm rfl
      have hii := hkG_lt hr i
      rw [if_pos q, fd_cons]
      cases b with
      | none =>
        simp (disch := omega) only [zlit, zz, if_pos, if_neg, if_true, if_false, zgd', zl, zbs, zbz, encz, hbt, q, w1, w2, w3, fX10_bestHooks_J48, fX10_bestHooks_J54]
        exact ih n (i + 1) (some i) _ _ _ _ _ _ _ _ _ _ _ _ _ _ _ _ _ _ _ (by omega) (by omega) (fun c hc => by cases hc; exact ⟨rfl, hi⟩)
      | some c =>
        obtain ⟨hle, hc⟩ := hb c rfl
        have hcc := hkG_lt hr c
        have e1 : fdS (hkG r) [i] (some c) = if hkG r i < hkG r c then some i else some c := rfl
        rw [e1]
        by_cases q2 : hkG r i < hkG r c
        · rw [if_pos q2]
          simp (disch := omega) only [zlit, zz, if_pos, if_neg, if_true, if_false, zgd', zl, zbs, zbz, encz, hbt, q, w1, w2, w3, hle, fX10_bestHooks_J48, fX10_bestHooks_J54]
          exact ih n (i + 1) (some i) _ _ _ _ _ _ _ _ _ _ _ _ _ _ _ _ _ _ _ (by omega) (by omega) (fun c hc => by cases hc; exact ⟨rfl, hi⟩)
        · rw [if_neg q2]
          simp (disch := omega) only [zlit, zz, if_pos, if_neg, if_true, if_false, zgd', zl, zbs, zbz, encz, hbt, q, w1, w2, w3, hle, fX10_bestHooks_J54]
          exact ih n (i + 1) (some c) _ _ _ _ _ _ _ _ _ _ _ _ _ _ _ _ _ _ _ (by omega) (by omega) (fun c' hc' => by cases hc'; exact ⟨rfl, hc⟩)
    · rw [if_neg q]
      simp (disch := omega) only [zlit, zz, if_pos, if_neg, if_true, if_false, zgd', zl, zbs, zbz, encz, hbt, fX10_bestHooks_J54]
      exact ih n (i + 1) b _ _ _ _ _ _ _ _ _ _ _ _ _ _ _ _ _ _ _ (by omega) (by omega) hb
theorem sX10_bestHooks {r : SR} {k : Nat} (fuel : Nat) (M_guests : Int32) (M_kind : Nat → Int32) (M_figure : Nat → Int32) (M_told : Nat → Int32) (M_heaps : Int32) (M_holds : Int32) (M_back : Int32) (M_mistakes : Int32) (M_hooks : Int32) (M_letters : Int32) (M_rule : Nat → Int32) (M_coming : Nat → Int32) (M_comingMany : Int32) (M_going : Nat → Int32) (M_goingMany : Int32) (M_minute : Nat → Int32) (M_pile : Nat → Int32) (M_high : Nat → Int32) (M_where : Nat → Int32) (M_latest : Int32) (M_lifts : Nat → Int32) (M_begun : Nat → Int32) (M_left : Nat → Int32) (M_has : Nat → Int32) (M_lifted : Nat → Int32) (M_taken : Nat → Int32) (M_above : Nat → Int32) (M_allLifts : Int32) (M_busy : Int32) (p1 : Int32) (hf : 10000 < fuel) (hr : okR r) (hm : mR r M_guests M_kind M_figure M_told M_heaps M_holds M_back M_mistakes M_hooks M_letters M_rule) (hk : k ≤ 3) (hp : p1 = nI k) : ∃ p, fX10_bestHooks fuel M_guests M_kind M_figure M_told M_heaps M_holds M_back M_mistakes M_hooks M_letters M_rule M_coming M_comingMany M_going M_goingMany M_minute M_pile M_high M_where M_latest M_lifts M_begun M_left M_has M_lifted M_taken M_above M_allLifts M_busy p1 = some p ∧ p.1 = enc (fdS (hkG r) (cand k (List.range (2 ^ rN r))) none) ∧ p.2.1 = M_hooks := by
  unfold fX10_bestHooks
  have hpw := pow_le hr.1
  rw [List.range_eq_range']
  exact sX10_bestHooks_L8 fuel M_guests M_kind M_figure M_told M_heaps M_holds M_back M_mistakes M_letters M_rule p1 M_hooks hf hr hm hk hp (2 ^ rN r) fuel 0 none 0 M_coming M_comingMany M_going M_goingMany M_minute M_pile M_high M_where M_latest M_lifts M_begun M_left M_has M_lifted M_taken M_above M_allLifts M_busy (by omega) (by omega) (fun c hc => by cases hc)
theorem hk_case {fuel N : Nat} (hN : N ≤ 10) (p : Int32) : (∃ k, k ≤ 3 ∧ k ≤ N ∧ p = nI k ∧ fX9_areHooks fuel (nI N) p = some (nI 1) ∧ fX10_isHooks fuel (nI N) p = some (nI 1)) ∨ (fX9_areHooks fuel (nI N) p = some (nI 0) ∧ fX10_isHooks fuel (nI N) p = some (nI 0)) := by
  have e0 : (0 : Int32) = nI 0 := rfl
  have e1 : (1 : Int32) = nI 1 := rfl
  have e3 : (3 : Int32) = nI 3 := rfl
  unfold fX9_areHooks fX10_isHooks
  rw [e0, e1, e3, nI_zmin (by decide) (by omega), zl, sX10_isIn, zbs]
  rcases icase p with h | ⟨k, hk, rfl⟩
  · right
    have : decide (nI 0 ≤ p ∧ p ≤ nI (min 3 N)) = false := decide_eq_false (fun q => by rw [(zneg h).1 0 (by decide)] at q; exact q.1)
    rw [if_pos h, this]
    exact ⟨rfl, rfl⟩
  · by_cases q : k ≤ 3 ∧ k ≤ N
    · left
      refine ⟨k, q.1, q.2, rfl, ?_, ?_⟩
      · simp (disch := omega) only [zlit, zz, if_pos, if_neg, if_true, if_false, zgd', zl, zbs, zbz, encz]
      · have hd : decide (nI 0 ≤ nI k ∧ nI k ≤ nI (min 3 N)) = true := decide_eq_true ⟨(nI_leI (by decide) hk).mpr (Nat.zero_le _), (nI_leI hk (by omega)).mpr (by omega)⟩
        rw [hd]
        rfl
    · right
      refine ⟨?_, ?_⟩
      · by_cases q3 : 3 < k
        · simp (disch := omega) only [zlit, zz, if_pos, if_neg, if_true, if_false, zgd', zl, zbs, zbz, encz]
        · simp (disch := omega) only [zlit, zz, if_pos, if_neg, if_true, if_false, zgd', zl, zbs, zbz, encz]
      · have hd : decide (nI 0 ≤ nI k ∧ nI k ≤ nI (min 3 N)) = false := decide_eq_false (fun h => by have := (nI_leI hk (by omega)).mp h.2; omega)
        rw [hd]
        rfl
theorem fs_case {fuel : Nat} (p : Int32) : ((p = nI 0 ∨ p = nI 1) ∧ fX9_isFirstOrSecond fuel p = some (nI 1) ∧ fX10_isIn fuel p (nI 0) (nI 1) = some (nI 1)) ∨ (fX9_isFirstOrSecond fuel p = some (nI 0) ∧ fX10_isIn fuel p (nI 0) (nI 1) = some (nI 0)) := by
  have e0 : (0 : Int32) = nI 0 := rfl
  have e1 : (1 : Int32) = nI 1 := rfl
  unfold fX9_isFirstOrSecond
  rw [sX10_isIn, e0, e1]
  rcases bcase (p := p) (m := 1) (by decide) with ⟨k, hk, rfl, hd⟩ | hd
  · left
    rw [hd]
    rcases (show k = 0 ∨ k = 1 by omega) with rfl | rfl
    · exact ⟨Or.inl rfl, rfl, rfl⟩
    · exact ⟨Or.inr rfl, rfl, rfl⟩
  · right
    rw [hd]
    have h0 : ¬ p = nI 0 := fun e => by rw [e] at hd; exact absurd hd (by decide)
    have h1 : ¬ p = nI 1 := fun e => by rw [e] at hd; exact absurd hd (by decide)
    rw [if_neg h0, if_neg h1]
    exact ⟨rfl, rfl⟩
theorem cand_ne {k N : Nat} (hk : k ≤ 3) (hkN : k ≤ N) (hN : N ≤ 10) : 2 ^ k - 1 ∈ cand k (List.range (2 ^ N)) := by
  unfold cand
  rw [List.mem_filter, List.mem_range]
  have h1 : 2 ^ k ≤ 2 ^ N := Nat.pow_le_pow_right (by decide) hkN
  have h2 : 0 < 2 ^ k := Nat.pow_pos (by decide)
  refine ⟨by omega, ?_⟩
  rcases (show k = 0 ∨ k = 1 ∨ k = 2 ∨ k = 3 by omega) with rfl | rfl | rfl | rfl <;> decide
theorem cand_lt {k N c : Nat} (hN : N ≤ 10) (h : c ∈ cand k (List.range (2 ^ N))) : c < 1024 := by
  unfold cand at h
  rw [List.mem_filter, List.mem_range] at h
  have := pow_le hN
  omega
theorem u_whom {r : SR} (fuel : Nat) (d_guests : Int32) (d_kinds : Nat → Int32) (d_figures : Nat → Int32) (d_minutes : Nat → Int32) (d_settings : Nat → Int32) (d_hooks : Int32) (d_letters : Nat → Int32) (d_letterCount : Int32) (q_found : Int32) (q_foundLifts : Int32) (t_guests : Int32) (t_kinds : Nat → Int32) (t_figures : Nat → Int32) (t_minutes : Nat → Int32) (t_settings : Nat → Int32) (t_hooks : Int32) (t_letters : Nat → Int32) (t_letterCount : Int32) (m_room : Nat) (m_order : Nat → Int32) (m_weights : Nat → Int32) (m_black : Nat → Int32) (m_lifts : Nat → Int32) (m_begins : Nat → Int32) (m_ends : Nat → Int32) (m_has : Nat → Int32) (m_lifted : Nat → Int32) (m_allLifts : Int32) (m_doneAt : Int32) (z_going : Nat → Int32) (z_coming : Nat → Int32) (z_holds : Int32) (z_latest : Int32) (c_heaps : Int32) (c_piles : Nat → Nat → Int32) (c_heights : Nat → Int32) (c_spots : Nat → Int32) (ad_t : Nat → Nat) (p1 : Int32) (p2 : Int32) (M_guests : Int32) (M_kind : Nat → Int32) (M_figure : Nat → Int32) (M_told : Nat → Int32) (M_heaps : Int32) (M_holds : Int32) (M_back : Int32) (M_mistakes : Int32) (M_hooks : Int32) (M_letters : Int32) (M_rule : Nat → Int32) (M_coming : Nat → Int32) (M_comingMany : Int32) (M_going : Nat → Int32) (M_goingMany : Int32) (M_minute : Nat → Int32) (M_pile : Nat → Int32) (M_high : Nat → Int32) (M_where : Nat → Int32) (M_latest : Int32) (M_lifts : Nat → Int32) (M_begun : Nat → Int32) (M_left : Nat → Int32) (M_has : Nat → Int32) (M_lifted : Nat → Int32) (M_taken : Nat → Int32) (M_above : Nat → Int32) (M_allLifts : Int32) (M_busy : Int32) (hf : 10000 < fuel) (hr : okR r) (hc : cR r d_guests d_kinds d_figures d_minutes d_settings d_hooks d_letters d_letterCount) (hm : mR r M_guests M_kind M_figure M_told M_heaps M_holds M_back M_mistakes M_hooks M_letters M_rule) : ∃ o p, fX9_whom fuel d_guests d_kinds d_figures d_minutes d_settings d_hooks d_letters d_letterCount q_found q_foundLifts t_guests t_kinds t_figures t_minutes t_settings t_hooks t_letters t_letterCount m_room m_order m_weights m_black m_lifts m_begins m_ends m_has m_lifted m_allLifts m_doneAt z_going z_coming z_holds z_latest c_heaps c_piles c_heights c_spots ad_t p1 p2 = some o ∧ fX10_whom fuel M_guests M_kind M_figure M_told M_heaps M_holds M_back M_mistakes M_hooks M_letters M_rule M_coming M_comingMany M_going M_goingMany M_minute M_pile M_high M_where M_latest M_lifts M_begun M_left M_has M_lifted M_taken M_above M_allLifts M_busy p1 p2 = some p ∧ o.1 = p.1 ∧ p.2.1 = M_hooks := by
  unfold fX9_whom fX10_whom
  have e0 : (0 : Int32) = nI 0 := rfl
  have e1 : (1 : Int32) = nI 1 := rfl
  rw [e0, e1]
  rcases hk_case (fuel := fuel) hr.1 p1 with ⟨k, hk, hkN, rfl, a1, a2⟩ | ⟨a1, a2⟩
  · rw [← hc.1] at a1
    rw [← hm.1] at a2
    rw [a1, a2, zbs, zbs, if_neg z10, if_neg z10]
    rcases fs_case (fuel := fuel) p2 with ⟨h01, b1, b2⟩ | ⟨b1, b2⟩
    · rw [b1, b2, zbs, zbs, if_neg z10, if_neg z10]
      obtain ⟨y, y1, y2, y3⟩ := sX8_tryHooks fuel q_found q_foundLifts t_guests t_kinds t_figures t_minutes t_settings t_hooks t_letters t_letterCount m_room m_order m_weights m_black m_lifts m_begins m_ends m_has m_lifted m_allLifts m_doneAt z_going z_coming z_holds z_latest c_heaps c_piles c_heights c_spots d_guests d_kinds d_figures d_minutes d_settings d_hooks d_letters d_letterCount ad_t (nI k) hf hr hc hk rfl
      obtain ⟨w, w1, w2, w3⟩ := sX10_bestHooks fuel M_guests M_kind M_figure M_told M_heaps M_holds M_back M_mistakes M_hooks M_letters M_rule M_coming M_comingMany M_going M_goingMany M_minute M_pile M_high M_where M_latest M_lifts M_begun M_left M_has M_lifted M_taken M_above M_allLifts M_busy (nI k) hf hr hm hk rfl
      rw [y1, w1, zbs, zbs]
      by_cases q : p2 = nI 0
      · rw [if_pos q, if_pos q]
        exact ⟨_, _, rfl, rfl, by rw [y2, w2], w3⟩
      · rw [if_neg q, if_neg q]
        obtain ⟨c, hcc⟩ := fd_ne (f := hkG r) (cand_ne hk hkN hr.1)
        have hcl : c < 1024 := by
          rcases fd_mem _ _ _ hcc with q | q
          · exact cand_lt hr.1 q
          · cases q
        rw [hcc] at w2 y3
        have hmw : mR r M_guests M_kind M_figure M_told M_heaps M_holds M_back M_mistakes w.2.1 M_letters M_rule := by rw [w3]; exact hm
        obtain ⟨v, v1, v2, v3⟩ := sX10_byHooks fuel M_guests M_kind M_figure M_told M_heaps M_holds M_back M_mistakes w.2.1 M_letters M_rule w.2.2.1 w.2.2.2.1 w.2.2.2.2.1 w.2.2.2.2.2.1 w.2.2.2.2.2.2.1 w.2.2.2.2.2.2.2.1 w.2.2.2.2.2.2.2.2.1 w.2.2.2.2.2.2.2.2.2.1 w.2.2.2.2.2.2.2.2.2.2.1 w.2.2.2.2.2.2.2.2.2.2.2.1 w.2.2.2.2.2.2.2.2.2.2.2.2.1 w.2.2.2.2.2.2.2.2.2.2.2.2.2.1 w.2.2.2.2.2.2.2.2.2.2.2.2.2.2.1 w.2.2.2.2.2.2.2.2.2.2.2.2.2.2.2.1 w.2.2.2.2.2.2.2.2.2.2.2.2.2.2.2.2.1 w.2.2.2.2.2.2.2.2.2.2.2.2.2.2.2.2.2.1 w.2.2.2.2.2.2.2.2.2.2.2.2.2.2.2.2.2.2.1 w.2.2.2.2.2.2.2.2.2.2.2.2.2.2.2.2.2.2.2 w.1 (show 100 < fuel by omega) hr (show c < 2 ^ 31 by omega) hmw w2
        rw [v1, zbs]
        exact ⟨_, _, rfl, rfl, by rw [y3, v2]; rfl, v3.trans w3⟩
    · rw [b1, b2, zbs, zbs, if_pos z00, if_pos z00]
      exact ⟨_, _, rfl, rfl, rfl, rfl⟩
  · rw [← hc.1] at a1
    rw [← hm.1] at a2
    rw [a1, a2, zbs, zbs, if_pos z00, if_pos z00]
    exact ⟨_, _, rfl, rfl, rfl, rfl⟩
theorem cand0 : ∀ n, n ≤ 10 → cand 0 (List.range (2 ^ n)) = [0] := by decide +kernel
theorem u_worth {r : SR} (fuel : Nat) (d_guests : Int32) (d_kinds : Nat → Int32) (d_figures : Nat → Int32) (d_minutes : Nat → Int32) (d_settings : Nat → Int32) (d_hooks : Int32) (d_letters : Nat → Int32) (d_letterCount : Int32) (q_found : Int32) (q_foundLifts : Int32) (t_guests : Int32) (t_kinds : Nat → Int32) (t_figures : Nat → Int32) (t_minutes : Nat → Int32) (t_settings : Nat → Int32) (t_hooks : Int32) (t_letters : Nat → Int32) (t_letterCount : Int32) (m_room : Nat) (m_order : Nat → Int32) (m_weights : Nat → Int32) (m_black : Nat → Int32) (m_lifts : Nat → Int32) (m_begins : Nat → Int32) (m_ends : Nat → Int32) (m_has : Nat → Int32) (m_lifted : Nat → Int32) (m_allLifts : Int32) (m_doneAt : Int32) (z_going : Nat → Int32) (z_coming : Nat → Int32) (z_holds : Int32) (z_latest : Int32) (c_heaps : Int32) (c_piles : Nat → Nat → Int32) (c_heights : Nat → Int32) (c_spots : Nat → Int32) (ad_t : Nat → Nat) (p1 : Int32) (M_guests : Int32) (M_kind : Nat → Int32) (M_figure : Nat → Int32) (M_told : Nat → Int32) (M_heaps : Int32) (M_holds : Int32) (M_back : Int32) (M_mistakes : Int32) (M_hooks : Int32) (M_letters : Int32) (M_rule : Nat → Int32) (M_coming : Nat → Int32) (M_comingMany : Int32) (M_going : Nat → Int32) (M_goingMany : Int32) (M_minute : Nat → Int32) (M_pile : Nat → Int32) (M_high : Nat → Int32) (M_where : Nat → Int32) (M_latest : Int32) (M_lifts : Nat → Int32) (M_begun : Nat → Int32) (M_left : Nat → Int32) (M_has : Nat → Int32) (M_lifted : Nat → Int32) (M_taken : Nat → Int32) (M_above : Nat → Int32) (M_allLifts : Int32) (M_busy : Int32) (hf : 10000 < fuel) (hr : okR r) (hc : cR r d_guests d_kinds d_figures d_minutes d_settings d_hooks d_letters d_letterCount) (hm : mR r M_guests M_kind M_figure M_told M_heaps M_holds M_back M_mistakes M_hooks M_letters M_rule) : ∃ o p, fX9_worth fuel d_guests d_kinds d_figures d_minutes d_settings d_hooks d_letters d_letterCount q_found q_foundLifts t_guests t_kinds t_figures t_minutes t_settings t_hooks t_letters t_letterCount m_room m_order m_weights m_black m_lifts m_begins m_ends m_has m_lifted m_allLifts m_doneAt z_going z_coming z_holds z_latest c_heaps c_piles c_heights c_spots ad_t p1 = some o ∧ fX10_worth fuel M_guests M_kind M_figure M_told M_heaps M_holds M_back M_mistakes M_hooks M_letters M_rule M_coming M_comingMany M_going M_goingMany M_minute M_pile M_high M_where M_latest M_lifts M_begun M_left M_has M_lifted M_taken M_above M_allLifts M_busy p1 = some p ∧ o.1 = p.1 ∧ p.2.1 = M_hooks := by
  unfold fX9_worth fX10_worth
  have e0 : (0 : Int32) = nI 0 := rfl
  rw [e0]
  rcases hk_case (fuel := fuel) hr.1 p1 with ⟨k, hk, hkN, rfl, a1, a2⟩ | ⟨a1, a2⟩
  · rw [← hc.1] at a1
    rw [← hm.1] at a2
    rw [a1, a2, zbs, zbs, if_neg z10, if_neg z10]
    obtain ⟨x, x1, x2, x3⟩ := sX8_tryHooks fuel q_found q_foundLifts t_guests t_kinds t_figures t_minutes t_settings t_hooks t_letters t_letterCount m_room m_order m_weights m_black m_lifts m_begins m_ends m_has m_lifted m_allLifts m_doneAt z_going z_coming z_holds z_latest c_heaps c_piles c_heights c_spots d_guests d_kinds d_figures d_minutes d_settings d_hooks d_letters d_letterCount ad_t (nI 0) hf hr hc (Nat.zero_le 3) rfl
    rw [cand0 _ hr.1] at x3
    obtain ⟨y, y1, y2, y3⟩ := sX8_tryHooks fuel x.1 x.2.1 x.2.2.1 x.2.2.2.1 x.2.2.2.2.1 x.2.2.2.2.2.1 x.2.2.2.2.2.2.1 x.2.2.2.2.2.2.2.1 x.2.2.2.2.2.2.2.2.1 x.2.2.2.2.2.2.2.2.2.1 x.2.2.2.2.2.2.2.2.2.2.1 x.2.2.2.2.2.2.2.2.2.2.2.1 x.2.2.2.2.2.2.2.2.2.2.2.2.1 x.2.2.2.2.2.2.2.2.2.2.2.2.2.1 x.2.2.2.2.2.2.2.2.2.2.2.2.2.2.1 x.2.2.2.2.2.2.2.2.2.2.2.2.2.2.2.1 x.2.2.2.2.2.2.2.2.2.2.2.2.2.2.2.2.1 x.2.2.2.2.2.2.2.2.2.2.2.2.2.2.2.2.2.1 x.2.2.2.2.2.2.2.2.2.2.2.2.2.2.2.2.2.2.1 x.2.2.2.2.2.2.2.2.2.2.2.2.2.2.2.2.2.2.2.1 x.2.2.2.2.2.2.2.2.2.2.2.2.2.2.2.2.2.2.2.2.1 x.2.2.2.2.2.2.2.2.2.2.2.2.2.2.2.2.2.2.2.2.2.1 x.2.2.2.2.2.2.2.2.2.2.2.2.2.2.2.2.2.2.2.2.2.2.1 x.2.2.2.2.2.2.2.2.2.2.2.2.2.2.2.2.2.2.2.2.2.2.2.1 x.2.2.2.2.2.2.2.2.2.2.2.2.2.2.2.2.2.2.2.2.2.2.2.2.1 x.2.2.2.2.2.2.2.2.2.2.2.2.2.2.2.2.2.2.2.2.2.2.2.2.2.1 x.2.2.2.2.2.2.2.2.2.2.2.2.2.2.2.2.2.2.2.2.2.2.2.2.2.2.1 x.2.2.2.2.2.2.2.2.2.2.2.2.2.2.2.2.2.2.2.2.2.2.2.2.2.2.2.1 x.2.2.2.2.2.2.2.2.2.2.2.2.2.2.2.2.2.2.2.2.2.2.2.2.2.2.2.2 d_guests d_kinds d_figures d_minutes d_settings d_hooks d_letters d_letterCount ad_t (nI k) hf hr hc hk rfl
    obtain ⟨u, u1, u2, u3⟩ := sX10_byHooks fuel M_guests M_kind M_figure M_told M_heaps M_holds M_back M_mistakes M_hooks M_letters M_rule M_coming M_comingMany M_going M_goingMany M_minute M_pile M_high M_where M_latest M_lifts M_begun M_left M_has M_lifted M_taken M_above M_allLifts M_busy (nI 0) (show 100 < fuel by omega) hr (show 0 < 2 ^ 31 by omega) hm rfl
    have hmu : mR r M_guests M_kind M_figure M_told M_heaps M_holds M_back M_mistakes u.2.1 M_letters M_rule := by rw [u3]; exact hm
    obtain ⟨w, w1, w2, w3⟩ := sX10_bestHooks fuel M_guests M_kind M_figure M_told M_heaps M_holds M_back M_mistakes u.2.1 M_letters M_rule u.2.2.1 u.2.2.2.1 u.2.2.2.2.1 u.2.2.2.2.2.1 u.2.2.2.2.2.2.1 u.2.2.2.2.2.2.2.1 u.2.2.2.2.2.2.2.2.1 u.2.2.2.2.2.2.2.2.2.1 u.2.2.2.2.2.2.2.2.2.2.1 u.2.2.2.2.2.2.2.2.2.2.2.1 u.2.2.2.2.2.2.2.2.2.2.2.2.1 u.2.2.2.2.2.2.2.2.2.2.2.2.2.1 u.2.2.2.2.2.2.2.2.2.2.2.2.2.2.1 u.2.2.2.2.2.2.2.2.2.2.2.2.2.2.2.1 u.2.2.2.2.2.2.2.2.2.2.2.2.2.2.2.2.1 u.2.2.2.2.2.2.2.2.2.2.2.2.2.2.2.2.2.1 u.2.2.2.2.2.2.2.2.2.2.2.2.2.2.2.2.2.2.1 u.2.2.2.2.2.2.2.2.2.2.2.2.2.2.2.2.2.2.2 (nI k) hf hr hmu hk rfl
    obtain ⟨c, hcc⟩ := fd_ne (f := hkG r) (cand_ne hk hkN hr.1)
    have hcl : c < 1024 := by
      rcases fd_mem _ _ _ hcc with q | q
      · exact cand_lt hr.1 q
      · cases q
    rw [hcc] at w2 y3
    have hmw : mR r M_guests M_kind M_figure M_told M_heaps M_holds M_back M_mistakes w.2.1 M_letters M_rule := by rw [w3]; exact hmu
    obtain ⟨v, v1, v2, v3⟩ := sX10_byHooks fuel M_guests M_kind M_figure M_told M_heaps M_holds M_back M_mistakes w.2.1 M_letters M_rule w.2.2.1 w.2.2.2.1 w.2.2.2.2.1 w.2.2.2.2.2.1 w.2.2.2.2.2.2.1 w.2.2.2.2.2.2.2.1 w.2.2.2.2.2.2.2.2.1 w.2.2.2.2.2.2.2.2.2.1 w.2.2.2.2.2.2.2.2.2.2.1 w.2.2.2.2.2.2.2.2.2.2.2.1 w.2.2.2.2.2.2.2.2.2.2.2.2.1 w.2.2.2.2.2.2.2.2.2.2.2.2.2.1 w.2.2.2.2.2.2.2.2.2.2.2.2.2.2.1 w.2.2.2.2.2.2.2.2.2.2.2.2.2.2.2.1 w.2.2.2.2.2.2.2.2.2.2.2.2.2.2.2.2.1 w.2.2.2.2.2.2.2.2.2.2.2.2.2.2.2.2.2.1 w.2.2.2.2.2.2.2.2.2.2.2.2.2.2.2.2.2.2.1 w.2.2.2.2.2.2.2.2.2.2.2.2.2.2.2.2.2.2.2 w.1 (show 100 < fuel by omega) hr (show c < 2 ^ 31 by omega) hmw w2
    rw [x1, u1, zbs, zbs, y1, w1, zbs, zbs, v1, zbs, zl, zl]
    refine ⟨_, _, rfl, rfl, ?_, v3.trans (w3.trans u3)⟩
    show zmax (nI 0) (x.2.1 - y.2.1) = zmax (nI 0) (u.1 - v.1)
    rw [x3, y3, u2, v2]
    rfl
  · rw [← hc.1] at a1
    rw [← hm.1] at a2
    rw [a1, a2, zbs, zbs, if_pos z00, if_pos z00]
    exact ⟨_, _, rfl, rfl, rfl, rfl⟩
