/-! The calls: orders, mean, reads. -/
theorem ck_step {N w : Nat} {t : List Nat} (h : ckL N (w :: t) = true) : (nxF N (fD N w)).isSome = decide (t ≠ []) ∧ ckL N t = true ∧ ∀ g v t', nxF N (fD N w) = some g → t = v :: t' → (List.range N).map g = ordD N v := by
  cases t with
  | nil =>
    rw [ckL] at h
    have h1 := of_decide_eq_true h
    unfold nxD at h1
    refine ⟨?_, rfl, fun g v t' _ e => by cases e⟩
    cases q : nxF N (fD N w) with
    | none => rfl
    | some g => rw [q] at h1; cases h1
  | cons v t =>
    rw [ckL, Bool.and_eq_true] at h
    have h1 := of_decide_eq_true h.1
    unfold nxD at h1
    cases q : nxF N (fD N w) with
    | none => rw [q] at h1; cases h1
    | some g =>
      rw [q] at h1
      refine ⟨by simp, h.2, fun g' v' t' e1 e2 => ?_⟩
      cases e1
      cases e2
      exact Option.some.inj h1
/-- what stands between two orders -/
def pmI (N : Nat) (l : List Nat) (row : Nat → Int32) : Prop := ckL N l = true ∧ (∀ w ∈ l, w ∈ pmL N) ∧ ∀ w t, l = w :: t → arr row (ordD N w)
theorem pmI_0 {N : Nat} {row : Nat → Int32} (hN : N ≤ 6) (h : arr row (List.range N)) : pmI N (pmL N) row := by
  refine ⟨pm_ck N hN, fun w hw => hw, fun w t e => ?_⟩
  obtain ⟨t2, e1, e2⟩ := pm_hd N hN
  rw [e1] at e
  cases e
  rw [e2]
  exact h
theorem pmI_next {N w : Nat} {t : List Nat} {row r2 : Nat → Int32} (h : pmI N (w :: t) row) (h2 : ∀ g, nxF N (fD N w) = some g → cM r2 g N) : pmI N t r2 := by
  obtain ⟨a, b, c⟩ := h
  obtain ⟨s1, s2, s3⟩ := ck_step a
  refine ⟨s2, fun x hx => b x (List.mem_cons_of_mem _ hx), fun v t' e => ?_⟩
  cases q : nxF N (fD N w) with
  | none => rw [q, e] at s1; simp at s1
  | some g =>
    rw [← s3 g v t' q e]
    exact cM_arr (h2 g q)
theorem okO_ordD {r : SR} {w : Nat} (hN : rN r ≤ 6) (hw : w ∈ pmL (rN r)) : okO r (ordD (rN r) w) := by
  obtain ⟨a, b, c, -⟩ := pm_ok (rN r) hN w hw
  exact ⟨a, ordD_len _ _, fun x => ⟨c x, b x⟩⟩
def prd : Nat → Nat → Nat → Nat
  | 0, _, a => a
  | m + 1, i, a => prd m (i + 1) (a * i)
theorem sX4_howMany_L4 {N : Nat} (hN : N ≤ 10) : ∀ (m n i a : Nat), N + 1 - i = m → m < n → i ≤ 20 → fX4_howMany_L4 (nI N) n (nI a) (nI i) = some (nI (prd m i a)) := by
  intro m
  induction m with
  | zero =>
    intro n i a h1 h2 h3
    obtain ⟨n, rfl⟩ : ∃ k, n = k + 1 := ⟨n - 1, by omega⟩
    rw [fX4_howMany_L4, if_pos ((nI_ltI (by omega) (by omega)).mpr (by omega))]
    rfl
  | succ m ih =>
    intro n i a h1 h2 h3
    obtain ⟨n, rfl⟩ : ∃ k, n = k + 1 := ⟨n - 1, by omega⟩
    rw [fX4_howMany_L4, if_neg (fun h => by have := (nI_ltI (by omega) (by omega)).mp h; omega)]
    simp (disch := omega) only [zlit, zz, if_pos, if_neg, if_true, if_false, zgd', zl, zbs, zbz, encz]
    exact ih n (i + 1) (a * i) (by omega) (by omega) (by omega)
theorem pm_len : ∀ N, N ≤ 6 → (pmL N).length = prd (N + 1 - 2) 2 1 ∧ (pmL N).length ≤ 720 ∧ (N ≤ 5 → (pmL N).length = 1 ∨ (pmL N).length = 2 ∨ (pmL N).length = 6 ∨ (pmL N).length = 24 ∨ (pmL N).length = 120) := by decide +kernel
theorem sX4_howMany {fuel N : Nat} (hf : 100 < fuel) (hN : N ≤ 6) : fX4_howMany fuel (nI N) = some (nI (pmL N).length) := by
  unfold fX4_howMany
  rw [(pm_len N hN).1]
  exact sX4_howMany_L4 (by omega) (N + 1 - 2) fuel 2 1 rfl (by omega) (by omega)
theorem sX4_first {fuel N : Nat} (hf : 100 < fuel) (hN : N ≤ 10) (row : Nat → Int32) : ∃ r2, fX4_first fuel row (nI N) = some r2 ∧ arr r2 (List.range N) := by
  have key : ∀ (m n i : Nat) (row : Nat → Int32), i + m = N → m < n → (∀ j, j < i → row j = nI j) → ∃ r2, fX4_first_L2 (nI N) n (nI i) row = some r2 ∧ ∀ j, j < N → r2 j = nI j := by
    intro m
    induction m with
    | zero =>
      intro n i row h1 h2 h3
      obtain ⟨n, rfl⟩ : ∃ k, n = k + 1 := ⟨n - 1, by omega⟩
      rw [fX4_first_L2]
      simp (disch := omega) only [zlit, zz, if_pos, if_neg, if_true, if_false, zgd', zl, zbs, zbz, encz]
      exact ⟨_, rfl, fun j hj => h3 j (by omega)⟩
    | succ m ih =>
      intro n i row h1 h2 h3
      obtain ⟨n, rfl⟩ : ∃ k, n = k + 1 := ⟨n - 1, by omega⟩
      rw [fX4_first_L2]
      simp (disch := omega) only [zlit, zz, if_pos, if_neg, if_true, if_false, zgd', zl, zbs, zbz, encz]
      refine ih n (i + 1) _ (by omega) (by omega) (fun j hj => ?_)
      unfold upd
      by_cases q : j = i
      · rw [if_pos q, q]
      · rw [if_neg q]; exact h3 j (by omega)
  obtain ⟨r2, e1, e2⟩ := key N fuel 0 row (by omega) (by omega) (fun j hj => absurd hj (Nat.not_lt_zero j))
  refine ⟨r2, e1, fun i x hx => ?_⟩
  have hi : i < N := by have := (List.getElem?_eq_some_iff.mp hx).1; simpa using this
  rw [List.getElem?_range hi] at hx
  cases hx
  exact e2 i hi
/-- all lifts by an order of going -/
def odT (r : SR) (w : Nat) : Nat := sAll (goR r (layR r (List.range (rN r))) none (ordD (rN r) w))
theorem odT_le {r : SR} {w : Nat} (hr : okR r) (hN : rN r ≤ 6) (hw : w ∈ pmL (rN r)) : odT r w ≤ 1000 := by
  have hok := okO_ordD hN hw
  have hpm : (ordD (rN r) w).Perm (List.range (rN r)) := (List.perm_ext_iff_of_nodup hok.1 List.nodup_range).mpr (fun x => by rw [hok.2.2, List.mem_range])
  have := (HI_goR (tp := none) (od := ordD (rN r) w) (rest := []) hr (okC_range hr) (by rw [List.append_nil]; exact hpm) (LI_C hr (okC_range hr))).2.2.2.2.2.2.2.2.1
  unfold odT sAll
  omega
def mnO (b : Option Nat) (t : Nat) : Nat := match b with | none => t | some L => min L t
def stO (T : Nat → Nat) (s : Option Nat × Nat × Nat) (w : Nat) : Option Nat × Nat × Nat := (some (mnO s.1 (T w)), max s.2.1 (T w), s.2.2 + T w)
def encN (b : Option Nat) : Int32 := match b with | none => zNo | some L => nI L
def encM (b : Option Nat) : Int32 := match b with | none => nI 1000000 | some L => nI L
theorem mnO_le {b : Option Nat} {t : Nat} (h : t ≤ 1000) : mnO b t ≤ 1000 := by
  unfold mnO
  cases b with
  | none => exact h
  | some L => exact Nat.le_trans (Nat.min_le_right _ _) h
theorem sX8_findO {fuel t : Nat} {b : Option Nat} {f x : Int32} (hb : ∀ L, b = some L → L ≤ 1000) (ht : t ≤ 1000) : ∃ f', fX8_findIfFewer fuel f (encN b) x (nI t) = some (f', encN (some (mnO b t))) := by
  cases b with
  | none => exact ⟨x, rfl⟩
  | some L =>
    have hL := hb L rfl
    unfold fX8_findIfFewer fX8_findIfFewer_J17
    have e4 : (-4 : Int32) = zNo := rfl
    rw [e4, if_neg (show ¬ encN (some L) = zNo from nI_m4 (by omega))]
    by_cases q : L ≤ t
    · rw [if_pos (show encN (some L) ≤ nI t from (nI_leI (by omega) (by omega)).mpr q)]
      refine ⟨f, ?_⟩
      show some (f, nI L) = some (f, nI (min L t))
      rw [Nat.min_eq_left q]
    · rw [if_neg (show ¬ encN (some L) ≤ nI t from fun h => q ((nI_leI (by omega) (by omega)).mp h))]
      refine ⟨x, ?_⟩
      show some (x, nI t) = some (x, nI (min L t))
      rw [Nat.min_eq_right (by omega)]
theorem sX8_goings_L46 {r : SR} {cap : Nat} (fuel : Nat) (r_guests : Int32) (r_settings : Nat → Int32) (r_hooks : Int32) (r_letters : Nat → Int32) (r_letterCount : Int32) {r_kinds r_figures r_minutes : Nat → Int32} (hf : 100 < fuel) (hr : okR r) (hc : cR r r_guests r_kinds r_figures r_minutes r_settings r_hooks r_letters r_letterCount) (hN6 : rN r ≤ 6) (hcap : cap ≤ 1000) :
    ∀ (l : List Nat) (n k mx sm : Nat) (b : Option Nat) (q_found : Int32) (q_foundLifts : Int32) (q_mostLifts : Int32) (q_sumOfLifts : Int32) (n_order : Nat → Int32) (n_weights : Nat → Int32) (n_black : Nat → Int32) (n_lifts : Nat → Int32) (n_begins : Nat → Int32) (n_ends : Nat → Int32) (n_has : Nat → Int32) (n_lifted : Nat → Int32) (n_allLifts : Int32) (n_doneAt : Int32) (y_going : Nat → Int32) (y_coming : Nat → Int32) (y_holds : Int32) (y_latest : Int32) (b_heaps : Int32) (b_piles : Nat → Nat → Int32) (b_heights : Nat → Int32) (b_spots : Nat → Int32), k + l.length = cap → l.length < n → pmI (rN r) l n_order → q_foundLifts = encN b → (∀ L, b = some L → L ≤ 1000) → q_mostLifts = nI mx → mx ≤ 1000 → q_sumOfLifts = nI sm → bgR r n_weights n_black y_going → arr y_coming (List.range (rN r)) →
      ∃ o, fX8_tryAllGoings_L46 fuel r_guests r_settings r_hooks r_letters r_letterCount n (nI cap) (nI k) q_found q_foundLifts q_mostLifts q_sumOfLifts n_order n_weights n_black n_lifts n_begins n_ends n_has n_lifted n_allLifts n_doneAt y_going y_coming y_holds y_latest b_heaps b_piles b_heights b_spots = some o ∧ o.2.1 = encN (l.foldl (stO (odT r)) (b, mx, sm)).1 ∧ o.2.2.1 = nI (l.foldl (stO (odT r)) (b, mx, sm)).2.1 ∧ o.2.2.2.1 = nI (l.foldl (stO (odT r)) (b, mx, sm)).2.2 := by
  have hN := hr.1
  intro l
  induction l with
  | nil =>
    intro n k mx sm b q_found q_foundLifts q_mostLifts q_sumOfLifts n_order n_weights n_black n_lifts n_begins n_ends n_has n_lifted n_allLifts n_doneAt y_going y_coming y_holds y_latest b_heaps b_piles b_heights b_spots h1 h2 h3 h4 h5 h6 h7 h8 h9 h10
    obtain ⟨n, rfl⟩ : ∃ k, n = k + 1 := ⟨n - 1, by omega⟩
    rw [List.length_nil] at h1
    rw [fX8_tryAllGoings_L46, if_pos ((nI_leI (by omega) (by omega)).mpr (by omega))]
    exact ⟨_, rfl, h4, h6, h8⟩
  | cons w t ih =>
    intro n k mx sm b q_found q_foundLifts q_mostLifts q_sumOfLifts n_order n_weights n_black n_lifts n_begins n_ends n_has n_lifted n_allLifts n_doneAt y_going y_coming y_holds y_latest b_heaps b_piles b_heights b_spots h1 h2 h3 h4 h5 h6 h7 h8 h9 h10
    obtain ⟨n, rfl⟩ : ∃ k, n = k + 1 := ⟨n - 1, by omega⟩
    subst h4 h6 h8
    rw [List.length_cons] at h1 h2
    have hw := h3.2.1 w List.mem_cons_self
    have had := h3.2.2 w t rfl
    have hle := odT_le hr hN6 hw
    obtain ⟨o, o1, o2⟩ := sX8_liftsInOrder (tp := none) fuel n_order n_weights n_black n_lifts n_begins n_ends n_has n_lifted n_allLifts n_doneAt y_going y_coming y_holds y_latest b_heaps b_piles b_heights b_spots r_guests r_settings r_hooks r_letters r_letterCount (-4) hf hr hc h9 (okO_range r) (okO_ordD hN6 hw) h10 had (fun t ht => by cases ht) rfl
    have o2' : o.1 = nI (odT r w) := o2
    obtain ⟨f', f1⟩ := sX8_findO (fuel := fuel) (f := q_found) (x := nI k) h5 hle
    obtain ⟨r2, x1, x2⟩ := sX4_next (fuel := fuel) hf hN (ordD_cM had)
    rw [← hc.1] at x1
    rw [fX8_tryAllGoings_L46, if_neg (fun e => by have := (nI_leI (by omega) (by omega)).mp e; omega), o1, zbs, o2', zl, zl, f1, zbs, x1, zbs, zl, nI_add, nI_zmax (by omega) (by omega), show (1 : Int32) = nI 1 from rfl, nI_add, List.foldl_cons]
    exact ih n (k + 1) (max mx (odT r w)) (sm + odT r w) (some (mnO b (odT r w))) _ _ _ _ _ _ _ _ _ _ _ _ _ _ _ _ _ _ _ _ _ _ (by omega) (by omega) (pmI_next h3 x2) rfl (fun L hL => by cases hL; exact mnO_le hle) rfl (by omega) rfl h9 h10
theorem sX8_tryAllGoings {r : SR} (fuel : Nat) (q_found : Int32) (q_foundLifts : Int32) (q_mostLifts : Int32) (q_sumOfLifts : Int32) (n_order : Nat → Int32) (n_weights : Nat → Int32) (n_black : Nat → Int32) (n_lifts : Nat → Int32) (n_begins : Nat → Int32) (n_ends : Nat → Int32) (n_has : Nat → Int32) (n_lifted : Nat → Int32) (n_allLifts : Int32) (n_doneAt : Int32) (y_going : Nat → Int32) (y_coming : Nat → Int32) (y_holds : Int32) (y_latest : Int32) (b_heaps : Int32) (b_piles : Nat → Nat → Int32) (b_heights : Nat → Int32) (b_spots : Nat → Int32) (r_guests : Int32) (r_kinds : Nat → Int32) (r_figures : Nat → Int32) (r_minutes : Nat → Int32) (r_settings : Nat → Int32) (r_hooks : Int32) (r_letters : Nat → Int32) (r_letterCount : Int32) (hf : 1000 < fuel) (hr : okR r) (hc : cR r r_guests r_kinds r_figures r_minutes r_settings r_hooks r_letters r_letterCount) (hN6 : rN r ≤ 6) :
    ∃ o, fX8_tryAllGoings fuel q_found q_foundLifts q_mostLifts q_sumOfLifts n_order n_weights n_black n_lifts n_begins n_ends n_has n_lifted n_allLifts n_doneAt y_going y_coming y_holds y_latest b_heaps b_piles b_heights b_spots r_guests r_kinds r_figures r_minutes r_settings r_hooks r_letters r_letterCount = some o ∧ o.2.1 = encN ((pmL (rN r)).foldl (stO (odT r)) (none, 0, 0)).1 ∧ o.2.2.1 = nI ((pmL (rN r)).foldl (stO (odT r)) (none, 0, 0)).2.1 ∧ o.2.2.2.1 = nI ((pmL (rN r)).foldl (stO (odT r)) (none, 0, 0)).2.2 := by
  have hN := hr.1
  unfold fX8_tryAllGoings
  have hfn : fX8_findNothing fuel q_found q_foundLifts = some (zNo, zNo) := rfl
  obtain ⟨q, q1, q2, q3, q4, q5, q6⟩ := sX3_beginR (fuel := fuel) (by omega) hr hc n_order n_weights n_black y_going y_coming
  obtain ⟨f, f1, f2⟩ := sX4_first (fuel := fuel) (by omega) hN q.1
  have hm := sX4_howMany (fuel := fuel) (by omega) hN6
  have hpl := pm_len (rN r) hN6
  rw [← hc.1] at f1 hm
  rw [hfn, zbs, q1, zbs, f1, zbs, hm, zbs, show (0 : Int32) = nI 0 from rfl]
  dsimp only
  exact sX8_goings_L46 (r := r) (cap := (pmL (rN r)).length) fuel r_guests r_settings r_hooks r_letters r_letterCount (by omega) hr hc hN6 (by omega) (pmL (rN r)) fuel 0 0 0 none _ _ _ _ _ _ _ _ _ _ _ _ _ _ _ _ _ _ _ _ _ _ (by omega) (by omega) (pmI_0 hN6 f2) rfl (fun L hL => by cases hL) rfl (by omega) rfl ⟨q3, q4, q5⟩ q6
theorem sX10_orders_L51 {r : SR} (fuel : Nat) (M_guests : Int32) (M_kind : Nat → Int32) (M_figure : Nat → Int32) (M_heaps : Int32) (M_holds : Int32) (M_back : Int32) (M_mistakes : Int32) (M_hooks : Int32) (M_letters : Int32) (M_rule : Nat → Int32) {M_told : Nat → Int32} (hf : 100 < fuel) (hr : okR r) (hm : mR r M_guests M_kind M_figure M_told M_heaps M_holds M_back M_mistakes M_hooks M_letters M_rule) (hN6 : rN r ≤ 6) :
    ∀ (l : List Nat) (n k mx sm : Nat) (b : Option Nat) (M_coming : Nat → Int32) (M_comingMany : Int32) (M_going : Nat → Int32) (M_goingMany : Int32) (M_minute : Nat → Int32) (M_pile : Nat → Int32) (M_high : Nat → Int32) (M_where : Nat → Int32) (M_latest : Int32) (M_lifts : Nat → Int32) (M_begun : Nat → Int32) (M_left : Nat → Int32) (M_has : Nat → Int32) (M_lifted : Nat → Int32) (M_taken : Nat → Int32) (M_above : Nat → Int32) (M_allLifts : Int32) (M_busy : Int32) (M_worst : Int32) (M_best : Int32) (M_orders : Int32) (M_together : Int32), l.length < n → pmI (rN r) l M_going → M_best = encM b → (∀ L, b = some L → L ≤ 1000) → M_worst = nI mx → mx ≤ 1000 → M_together = nI sm → M_orders = nI k → cM M_minute (mnR r) (rN r) → arr M_coming (List.range (rN r)) → M_comingMany = nI (rN r) → M_goingMany = nI (rN r) →
      ∃ o, fX10_allOrders_L51 fuel M_guests M_kind M_figure M_heaps M_holds M_back M_mistakes M_hooks M_letters M_rule n (zb01 (decide (l ≠ []))) M_coming M_comingMany M_going M_goingMany M_minute M_pile M_high M_where M_latest M_lifts M_begun M_left M_has M_lifted M_taken M_above M_allLifts M_busy M_worst M_best M_orders M_together = some o ∧ o.2.2.2.2.2.2.2.2.2.2.2.2.2.2.2.2.2.2.1 = nI (l.foldl (stO (odT r)) (b, mx, sm)).2.1 ∧ o.2.2.2.2.2.2.2.2.2.2.2.2.2.2.2.2.2.2.2.1 = encM (l.foldl (stO (odT r)) (b, mx, sm)).1 ∧ o.2.2.2.2.2.2.2.2.2.2.2.2.2.2.2.2.2.2.2.2.1 = nI (k + l.length) ∧ o.2.2.2.2.2.2.2.2.2.2.2.2.2.2.2.2.2.2.2.2.2 = nI (l.foldl (stO (odT r)) (b, mx, sm)).2.2 := by
  have hN := hr.1
  intro l
  induction l with
  | nil =>
    intro n k mx sm b M_coming M_comingMany M_going M_goingMany M_minute M_pile M_high M_where M_latest M_lifts M_begun M_left M_has M_lifted M_taken M_above M_allLifts M_busy M_worst M_best M_orders M_together h2 h3 h4 h5 h6 h7 h8 h9 h10 h11 h12 h13
    obtain ⟨n, rfl⟩ : ∃ k, n = k + 1 := ⟨n - 1, by omega⟩
    rw [fX10_allOrders_L51, show (0 : Int32) = nI 0 from rfl, if_pos (show zb01 (decide (([] : List Nat) ≠ [])) = nI 0 from rfl)]
    exact ⟨_, rfl, h6, h4, h9, h8⟩
  | cons w t ih =>
    intro n k mx sm b M_coming M_comingMany M_going M_goingMany M_minute M_pile M_high M_where M_latest M_lifts M_begun M_left M_has M_lifted M_taken M_above M_allLifts M_busy M_worst M_best M_orders M_together h2 h3 h4 h5 h6 h7 h8 h9 h10 h11 h12 h13
    obtain ⟨n, rfl⟩ : ∃ k, n = k + 1 := ⟨n - 1, by omega⟩
    subst h4 h6 h8 h9 h12 h13
    rw [List.length_cons] at h2
    have hw := h3.2.1 w List.mem_cons_self
    have had := h3.2.2 w t rfl
    have hle := odT_le hr hN6 hw
    have hok := okO_ordD hN6 hw
    have hpm : (ordD (rN r) w).Perm (List.range (rN r)) := (List.perm_ext_iff_of_nodup hok.1 List.nodup_range).mpr (fun x => by rw [hok.2.2, List.mem_range])
    obtain ⟨y, y1, y2, -⟩ := sX10_layAndGo (fuel := fuel) hf hr ⟨M_told, hm⟩ h10 (okC_range hr) hpm h11 had M_pile M_high M_where M_latest M_lifts M_begun M_left M_has M_lifted M_taken M_above M_allLifts M_busy
    have y2' : y.1 = nI (odT r w) := y2
    rw [List.length_range, ordD_len] at y1
    obtain ⟨r2, x1, x2⟩ := sX10_next_going (fuel := fuel) hf hN (ordD_cM had)
    rw [← hm.1, (ck_step h3.1).1] at x1
    have hzm : zmin (encM b) (nI (odT r w)) = encM (some (mnO b (odT r w))) := by
      cases b with
      | none =>
        show zmin (nI 1000000) (nI (odT r w)) = nI (odT r w)
        rw [nI_zmin (by omega) (by omega), Nat.min_eq_right (by omega)]
      | some L =>
        have := h5 L rfl
        exact nI_zmin (by omega) (by omega)
    rw [fX10_allOrders_L51, show (0 : Int32) = nI 0 from rfl, if_neg (show ¬ zb01 (decide (w :: t ≠ [])) = nI 0 by simp [zb01]; exact z10), y1, zbs, y2', zl, zl, zl, zl, x1, zbs, hzm, nI_zmax (by omega) (by omega), nI_add, show (1 : Int32) = nI 1 from rfl, nI_add, List.foldl_cons, show k + (w :: t).length = k + 1 + t.length by simp; omega]
    dsimp only
    exact ih n (k + 1) (max mx (odT r w)) (sm + odT r w) (some (mnO b (odT r w))) _ _ _ _ _ _ _ _ _ _ _ _ _ _ _ _ _ _ _ _ _ _ (by omega) (pmI_next h3 x2) rfl (fun L hL => by cases hL; exact mnO_le hle) rfl (by omega) rfl rfl h10 h11 rfl rfl
theorem sX10_orders_L28 {N : Nat} (fuel : Nat) (M_guests : Int32) (M_kind : Nat → Int32) (M_figure : Nat → Int32) (M_heaps : Int32) (M_holds : Int32) (M_back : Int32) (M_mistakes : Int32) (M_hooks : Int32) (M_letters : Int32) (M_rule : Nat → Int32) (hN : N ≤ 10) (hg : M_guests = nI N) :
    ∀ (m n i : Nat) (M_coming : Nat → Int32) (M_comingMany : Int32) (M_going : Nat → Int32) (M_goingMany : Int32) (M_minute : Nat → Int32) (M_pile : Nat → Int32) (M_high : Nat → Int32) (M_where : Nat → Int32) (M_latest : Int32) (M_lifts : Nat → Int32) (M_begun : Nat → Int32) (M_left : Nat → Int32) (M_has : Nat → Int32) (M_lifted : Nat → Int32) (M_taken : Nat → Int32) (M_above : Nat → Int32) (M_allLifts : Int32) (M_busy : Int32) (M_worst : Int32) (M_best : Int32) (M_orders : Int32) (M_together : Int32), i + m = N → m < n → (∀ j, j < i → M_going j = nI j) →
      ∃ r2, fX10_allOrders_L28 fuel M_guests M_kind M_figure M_heaps M_holds M_back M_mistakes M_hooks M_letters M_rule n (nI i) M_coming M_comingMany M_going M_goingMany M_minute M_pile M_high M_where M_latest M_lifts M_begun M_left M_has M_lifted M_taken M_above M_allLifts M_busy M_worst M_best M_orders M_together = fX10_allOrders_J49 fuel M_guests M_kind M_figure M_heaps M_holds M_back M_mistakes M_hooks M_letters M_rule M_coming M_comingMany r2 M_goingMany M_minute M_pile M_high M_where M_latest M_lifts M_begun M_left M_has M_lifted M_taken M_above M_allLifts M_busy M_worst M_best M_orders M_together ∧ arr r2 (List.range N) := by
  subst hg
  intro m
  induction m with
  | zero =>
    intro n i M_coming M_comingMany M_going M_goingMany M_minute M_pile M_high M_where M_latest M_lifts M_begun M_left M_has M_lifted M_taken M_above M_allLifts M_busy M_worst M_best M_orders M_together h1 h2 h3
    obtain ⟨n, rfl⟩ : ∃ k, n = k + 1 := ⟨n - 1, by omega⟩
    rw [fX10_allOrders_L28, if_pos ((nI_leI (by omega) (by omega)).mpr (by omega))]
    refine ⟨_, rfl, fun j x hx => ?_⟩
    have hj : j < N := by have := (List.getElem?_eq_some_iff.mp hx).1; simpa using this
    rw [List.getElem?_range hj] at hx
    cases hx
    exact h3 j (by omega)
  | succ m ih =>
    intro n i M_coming M_comingMany M_going M_goingMany M_minute M_pile M_high M_where M_latest M_lifts M_begun M_left M_has M_lifted M_taken M_above M_allLifts M_busy M_worst M_best M_orders M_together h1 h2 h3
    obtain ⟨n, rfl⟩ : ∃ k, n = k + 1 := ⟨n - 1, by omega⟩
    rw [fX10_allOrders_L28]
    simp (disch := omega) only [zlit, zz, if_pos, if_neg, if_true, if_false, zgd', zl, zbs, zbz, encz]
    apply ih
    · omega
    · omega
    · intro j hj
      unfold upd
      by_cases q : j = i
      · rw [if_pos q, q]
      · rw [if_neg q]; exact h3 j (by omega)
theorem sX10_allOrders {r : SR} (fuel : Nat) (M_guests : Int32) (M_kind : Nat → Int32) (M_figure : Nat → Int32) (M_told : Nat → Int32) (M_heaps : Int32) (M_holds : Int32) (M_back : Int32) (M_mistakes : Int32) (M_hooks : Int32) (M_letters : Int32) (M_rule : Nat → Int32) (M_coming : Nat → Int32) (M_comingMany : Int32) (M_going : Nat → Int32) (M_goingMany : Int32) (M_minute : Nat → Int32) (M_pile : Nat → Int32) (M_high : Nat → Int32) (M_where : Nat → Int32) (M_latest : Int32) (M_lifts : Nat → Int32) (M_begun : Nat → Int32) (M_left : Nat → Int32) (M_has : Nat → Int32) (M_lifted : Nat → Int32) (M_taken : Nat → Int32) (M_above : Nat → Int32) (M_allLifts : Int32) (M_busy : Int32) (M_worst : Int32) (M_best : Int32) (M_orders : Int32) (M_together : Int32) (hf : 1000 < fuel) (hr : okR r) (hm : mR r M_guests M_kind M_figure M_told M_heaps M_holds M_back M_mistakes M_hooks M_letters M_rule) (hN6 : rN r ≤ 6) :
    ∃ o, fX10_allOrders fuel M_guests M_kind M_figure M_told M_heaps M_holds M_back M_mistakes M_hooks M_letters M_rule M_coming M_comingMany M_going M_goingMany M_minute M_pile M_high M_where M_latest M_lifts M_begun M_left M_has M_lifted M_taken M_above M_allLifts M_busy M_worst M_best M_orders M_together = some o ∧ o.2.2.2.2.2.2.2.2.2.2.2.2.2.2.2.2.2.2.1 = nI ((pmL (rN r)).foldl (stO (odT r)) (none, 0, 0)).2.1 ∧ o.2.2.2.2.2.2.2.2.2.2.2.2.2.2.2.2.2.2.2.1 = encM ((pmL (rN r)).foldl (stO (odT r)) (none, 0, 0)).1 ∧ o.2.2.2.2.2.2.2.2.2.2.2.2.2.2.2.2.2.2.2.2.1 = nI (pmL (rN r)).length ∧ o.2.2.2.2.2.2.2.2.2.2.2.2.2.2.2.2.2.2.2.2.2 = nI ((pmL (rN r)).foldl (stO (odT r)) (none, 0, 0)).2.2 := by
  have hN := hr.1
  unfold fX10_allOrders
  obtain ⟨u, u1, u2, u3, u4, u5, u6⟩ := sX10_usualR (fuel := fuel) (by omega) hr hm M_coming M_comingMany M_going M_goingMany M_minute
  obtain ⟨r2, a1, a2⟩ := sX10_orders_L28 (N := rN r) fuel M_guests M_kind M_figure M_heaps M_holds M_back M_mistakes M_hooks M_letters M_rule hN hm.1 (rN r) fuel 0 u.1 u.2.1 u.2.2.1 u.2.2.2.1 u.2.2.2.2 M_pile M_high M_where M_latest M_lifts M_begun M_left M_has M_lifted M_taken M_above M_allLifts M_busy 0 1000000 0 0 (by omega) (by omega) (fun j hj => absurd hj (Nat.not_lt_zero j))
  have hpl := pm_len (rN r) hN6
  rw [u1, zbs]
  have e0 : (0 : Int32) = nI 0 := rfl
  rw [show fX10_allOrders_L28 fuel M_guests M_kind M_figure M_heaps M_holds M_back M_mistakes M_hooks M_letters M_rule fuel 0 u.1 u.2.1 u.2.2.1 u.2.2.2.1 u.2.2.2.2 M_pile M_high M_where M_latest M_lifts M_begun M_left M_has M_lifted M_taken M_above M_allLifts M_busy 0 1000000 0 0 = _ from a1]
  unfold fX10_allOrders_J49
  obtain ⟨o, o1, o2, o3, o4, o5⟩ := sX10_orders_L51 (r := r) fuel M_guests M_kind M_figure M_heaps M_holds M_back M_mistakes M_hooks M_letters M_rule (by omega) hr hm hN6 (pmL (rN r)) fuel 0 0 0 none u.1 u.2.1 r2 u.2.2.2.1 u.2.2.2.2 M_pile M_high M_where M_latest M_lifts M_begun M_left M_has M_lifted M_taken M_above M_allLifts M_busy 0 1000000 0 0 (by omega) (pmI_0 hN6 a2) rfl (fun L hL => by cases hL) rfl (by omega) rfl rfl u6 u2 u3 u5
  obtain ⟨t2, t1, -⟩ := pm_hd (rN r) hN6
  have hne : pmL (rN r) ≠ [] := by rw [t1]; simp
  rw [decide_eq_true hne] at o1
  rw [Nat.zero_add] at o4
  exact ⟨o, o1, o2, o3, o4, o5⟩
theorem fold_some {T : Nat → Nat} : ∀ (l : List Nat) (s : Option Nat × Nat × Nat), (∃ L, s.1 = some L) → ∃ L, (l.foldl (stO T) s).1 = some L
  | [], _, h => h
  | w :: t, s, _ => by rw [List.foldl_cons]; exact fold_some t _ ⟨_, rfl⟩
theorem fold_ne {T : Nat → Nat} {l : List Nat} {s : Option Nat × Nat × Nat} (h : l ≠ []) : ∃ L, (l.foldl (stO T) s).1 = some L := by
  cases l with
  | nil => exact absurd rfl h
  | cons w t => rw [List.foldl_cons]; exact fold_some t _ ⟨_, rfl⟩
theorem fold_sum {T : Nat → Nat} : ∀ (l : List Nat) (s : Option Nat × Nat × Nat), (∀ w ∈ l, T w ≤ 1000) → (l.foldl (stO T) s).2.2 ≤ s.2.2 + 1000 * l.length
  | [], s, _ => by simp
  | w :: t, s, h => by
    rw [List.foldl_cons, List.length_cons]
    have h1 := fold_sum t (stO T s w) (fun x hx => h x (List.mem_cons_of_mem _ hx))
    have h2 := h w List.mem_cons_self
    have h3 : (stO T s w).2.2 = s.2.2 + T w := rfl
    omega
theorem u_orders {r : SR} (fuel : Nat) (d_guests : Int32) (d_kinds : Nat → Int32) (d_figures : Nat → Int32) (d_minutes : Nat → Int32) (d_settings : Nat → Int32) (d_hooks : Int32) (d_letters : Nat → Int32) (d_letterCount : Int32) (q_found : Int32) (q_foundLifts : Int32) (q_mostLifts : Int32) (q_sumOfLifts : Int32) (m_room : Nat) (m_order : Nat → Int32) (m_weights : Nat → Int32) (m_black : Nat → Int32) (m_lifts : Nat → Int32) (m_begins : Nat → Int32) (m_ends : Nat → Int32) (m_has : Nat → Int32) (m_lifted : Nat → Int32) (m_allLifts : Int32) (m_doneAt : Int32) (z_going : Nat → Int32) (z_coming : Nat → Int32) (z_holds : Int32) (z_latest : Int32) (c_heaps : Int32) (c_piles : Nat → Nat → Int32) (c_heights : Nat → Int32) (c_spots : Nat → Int32) (ad_d : Nat → Nat) (p1 : Int32) (M_guests : Int32) (M_kind : Nat → Int32) (M_figure : Nat → Int32) (M_told : Nat → Int32) (M_heaps : Int32) (M_holds : Int32) (M_back : Int32) (M_mistakes : Int32) (M_hooks : Int32) (M_letters : Int32) (M_rule : Nat → Int32) (M_coming : Nat → Int32) (M_comingMany : Int32) (M_going : Nat → Int32) (M_goingMany : Int32) (M_minute : Nat → Int32) (M_pile : Nat → Int32) (M_high : Nat → Int32) (M_where : Nat → Int32) (M_latest : Int32) (M_lifts : Nat → Int32) (M_begun : Nat → Int32) (M_left : Nat → Int32) (M_has : Nat → Int32) (M_lifted : Nat → Int32) (M_taken : Nat → Int32) (M_above : Nat → Int32) (M_allLifts : Int32) (M_busy : Int32) (M_worst : Int32) (M_best : Int32) (M_orders : Int32) (M_together : Int32) (hf : 1000 < fuel) (hr : okR r) (hc : cR r d_guests d_kinds d_figures d_minutes d_settings d_hooks d_letters d_letterCount) (hm : mR r M_guests M_kind M_figure M_told M_heaps M_holds M_back M_mistakes M_hooks M_letters M_rule) : ∃ o p, fX9_orders fuel d_guests d_kinds d_figures d_minutes d_settings d_hooks d_letters d_letterCount q_found q_foundLifts q_mostLifts q_sumOfLifts m_room m_order m_weights m_black m_lifts m_begins m_ends m_has m_lifted m_allLifts m_doneAt z_going z_coming z_holds z_latest c_heaps c_piles c_heights c_spots ad_d p1 = some o ∧ fX10_orders fuel M_guests M_kind M_figure M_told M_heaps M_holds M_back M_mistakes M_hooks M_letters M_rule M_coming M_comingMany M_going M_goingMany M_minute M_pile M_high M_where M_latest M_lifts M_begun M_left M_has M_lifted M_taken M_above M_allLifts M_busy M_worst M_best M_orders M_together p1 = some p ∧ o.1 = p.1 := by
  have hN := hr.1
  unfold fX9_orders fX10_orders
  have c1 := hc.1
  have m1 := hm.1
  have e0 : (0 : Int32) = nI 0 := rfl
  have e1 : (1 : Int32) = nI 1 := rfl
  have e5 : (5 : Int32) = nI 5 := rfl
  rw [e0, e1, e5]
  rcases fs_case (fuel := fuel) p1 with ⟨h01, b1, b2⟩ | ⟨b1, b2⟩
  · rw [b1, b2, zbs, zbs, if_neg z10, if_neg z10]
    by_cases q5 : rN r ≤ 5
    · have hle : nI (rN r) ≤ nI 5 := (nI_leI (by omega) (by decide)).mpr q5
      rw [if_pos (show d_guests ≤ nI 5 by rw [c1]; exact hle), if_pos (show M_guests ≤ nI 5 by rw [m1]; exact hle)]
      obtain ⟨y, y1, y2, y3, y4⟩ := sX8_tryAllGoings fuel q_found q_foundLifts q_mostLifts q_sumOfLifts m_order m_weights m_black m_lifts m_begins m_ends m_has m_lifted m_allLifts m_doneAt z_going z_coming z_holds z_latest c_heaps c_piles c_heights c_spots d_guests d_kinds d_figures d_minutes d_settings d_hooks d_letters d_letterCount hf hr hc (by omega)
      obtain ⟨w, w1, w2, w3, w4, w5⟩ := sX10_allOrders fuel M_guests M_kind M_figure M_told M_heaps M_holds M_back M_mistakes M_hooks M_letters M_rule M_coming M_comingMany M_going M_goingMany M_minute M_pile M_high M_where M_latest M_lifts M_begun M_left M_has M_lifted M_taken M_above M_allLifts M_busy M_worst M_best M_orders M_together hf hr hm (by omega)
      obtain ⟨t2, t1, -⟩ := pm_hd (rN r) (by omega)
      obtain ⟨L, hL⟩ := fold_ne (T := odT r) (l := pmL (rN r)) (s := (none, 0, 0)) (by rw [t1]; simp)
      rw [hL] at y2 w3
      rw [y1, w1, zbs, zbs]
      by_cases q : p1 = nI 0
      · rw [if_pos q, if_pos q]
        exact ⟨_, _, rfl, rfl, by rw [w2]; exact y3⟩
      · rw [if_neg q, if_neg q]
        exact ⟨_, _, rfl, rfl, by rw [w3]; exact y2⟩
    · have hnle : ¬ nI (rN r) ≤ nI 5 := fun h => q5 ((nI_leI (by omega) (by decide)).mp h)
      rw [if_neg (show ¬ d_guests ≤ nI 5 by rw [c1]; exact hnle), if_neg (show ¬ M_guests ≤ nI 5 by rw [m1]; exact hnle)]
      exact ⟨_, _, rfl, rfl, rfl⟩
  · rw [b1, b2, zbs, zbs, if_pos z00, if_pos z00]
    exact ⟨_, _, rfl, rfl, rfl⟩
/-- the greatest divisor -/
def egS : Nat → Nat → Nat → Option Nat
  | 0, _, _ => none
  | m + 1, a, b => if b = 0 then some a else egS m b (a % b)
theorem eg_ck : ∀ b, b = 1 ∨ b = 2 ∨ b = 6 ∨ b = 24 ∨ b = 120 → ∀ c, c < b → ∃ g, egS 40 b c = some g ∧ 1 ≤ g ∧ g ≤ 120 := by
  have key : ∀ b ∈ [1, 2, 6, 24, 120], ∀ c, c < b → ((egS 40 b c).any fun g => decide (1 ≤ g ∧ g ≤ 120)) = true := by decide +kernel
  intro b hb c hc
  have := key b (by rcases hb with rfl | rfl | rfl | rfl | rfl <;> simp) c hc
  cases h : egS 40 b c with
  | none => rw [h] at this; cases this
  | some g =>
    rw [h] at this
    have h2 : decide (1 ≤ g ∧ g ≤ 120) = true := this
    exact ⟨g, rfl, of_decide_eq_true h2⟩
theorem eg_all {a b : Nat} (hb : b = 1 ∨ b = 2 ∨ b = 6 ∨ b = 24 ∨ b = 120) : ∃ g, egS 41 a b = some g ∧ 1 ≤ g ∧ g ≤ 120 := by
  rw [egS, if_neg (by omega)]
  exact eg_ck b hb (a % b) (Nat.mod_lt _ (by omega))
theorem sX4_gcd {g : Nat} : ∀ (m n a b k : Nat), egS m a b = some g → k + m ≤ 100 → m ≤ n → a < 2 ^ 31 → b < 2 ^ 31 → fX4_greatestDivisor_L7 n (nI a) (nI b) (nI k) = some (nI g) := by
  intro m
  induction m with
  | zero => intro n a b k h; cases h
  | succ m ih =>
    intro n a b k h1 h2 h3 h4 h5
    obtain ⟨n, rfl⟩ : ∃ k, n = k + 1 := ⟨n - 1, by omega⟩
    rw [egS] at h1
    rw [fX4_greatestDivisor_L7]
    by_cases q : b = 0
    · rw [if_pos q] at h1
      cases h1
      subst q
      simp (disch := omega) only [zlit, zz, if_pos, if_neg, if_true, if_false, zgd', zl, zbs, zbz, encz]
    · rw [if_neg q] at h1
      have hrm := pk_rem (a := a) (d := b) h4 (by omega) h5
      have hml := Nat.mod_lt a (show 0 < b by omega)
      have hne : ¬ nI b = nI 0 := fun h => q ((nI_eq h5 (by decide)).mp h)
      rw [show (100 : Int32) = nI 100 from rfl, show (0 : Int32) = nI 0 from rfl, if_neg (fun h => by have := (nI_leI (by decide) (by omega)).mp h; omega), if_neg hne, zgd' hne, zl, hrm, zl, show (1 : Int32) = nI 1 from rfl, nI_add]
      exact ih n b (a % b) (k + 1) h1 (by omega) (by omega) h5 (by omega)
theorem sX10_gcd {g : Nat} (p1 : Int32) : ∀ (m n a b : Nat) (M_coming : Nat → Int32) (M_comingMany : Int32) (M_going : Nat → Int32) (M_goingMany : Int32) (M_minute : Nat → Int32) (M_pile : Nat → Int32) (M_high : Nat → Int32) (M_where : Nat → Int32) (M_latest : Int32) (M_lifts : Nat → Int32) (M_begun : Nat → Int32) (M_left : Nat → Int32) (M_has : Nat → Int32) (M_lifted : Nat → Int32) (M_taken : Nat → Int32) (M_above : Nat → Int32) (M_allLifts : Int32) (M_busy : Int32) (M_worst : Int32) (M_best : Int32) (M_orders : Int32) (M_together : Int32), egS m a b = some g → m ≤ n → a < 2 ^ 31 → b < 2 ^ 31 → fX10_mean_L39 p1 n (nI a) (nI b) M_coming M_comingMany M_going M_goingMany M_minute M_pile M_high M_where M_latest M_lifts M_begun M_left M_has M_lifted M_taken M_above M_allLifts M_busy M_worst M_best M_orders M_together = fX10_mean_J56 p1 (nI g) M_coming M_comingMany M_going M_goingMany M_minute M_pile M_high M_where M_latest M_lifts M_begun M_left M_has M_lifted M_taken M_above M_allLifts M_busy M_worst M_best M_orders M_together := by
  intro m
  induction m with
  | zero => intro n a b M_coming M_comingMany M_going M_goingMany M_minute M_pile M_high M_where M_latest M_lifts M_begun M_left M_has M_lifted M_taken M_above M_allLifts M_busy M_worst M_best M_orders M_together h; cases h
  | succ m ih =>
    intro n a b M_coming M_comingMany M_going M_goingMany M_minute M_pile M_high M_where M_latest M_lifts M_begun M_left M_has M_lifted M_taken M_above M_allLifts M_busy M_worst M_best M_orders M_together h1 h3 h4 h5
    obtain ⟨n, rfl⟩ : ∃ k, n = k + 1 := ⟨n - 1, by omega⟩
    rw [egS] at h1
    rw [fX10_mean_L39]
    by_cases q : b = 0
    · rw [if_pos q] at h1
      cases h1
      subst q
      rw [show (0 : Int32) = nI 0 from rfl, if_pos rfl]
    · rw [if_neg q] at h1
      have hrm := pk_rem (a := a) (d := b) h4 (by omega) h5
      have hml := Nat.mod_lt a (show 0 < b by omega)
      have hne : ¬ nI b = nI 0 := fun h => q ((nI_eq h5 (by decide)).mp h)
      rw [show (0 : Int32) = nI 0 from rfl, if_neg hne, zgd' hne, zl, hrm]
      exact ih n b (a % b) M_coming M_comingMany M_going M_goingMany M_minute M_pile M_high M_where M_latest M_lifts M_begun M_left M_has M_lifted M_taken M_above M_allLifts M_busy M_worst M_best M_orders M_together h1 (by omega) h5 (by omega)
theorem u_mean {r : SR} (fuel : Nat) (d_guests : Int32) (d_kinds : Nat → Int32) (d_figures : Nat → Int32) (d_minutes : Nat → Int32) (d_settings : Nat → Int32) (d_hooks : Int32) (d_letters : Nat → Int32) (d_letterCount : Int32) (q_found : Int32) (q_foundLifts : Int32) (q_mostLifts : Int32) (q_sumOfLifts : Int32) (m_room : Nat) (m_order : Nat → Int32) (m_weights : Nat → Int32) (m_black : Nat → Int32) (m_lifts : Nat → Int32) (m_begins : Nat → Int32) (m_ends : Nat → Int32) (m_has : Nat → Int32) (m_lifted : Nat → Int32) (m_allLifts : Int32) (m_doneAt : Int32) (z_going : Nat → Int32) (z_coming : Nat → Int32) (z_holds : Int32) (z_latest : Int32) (c_heaps : Int32) (c_piles : Nat → Nat → Int32) (c_heights : Nat → Int32) (c_spots : Nat → Int32) (ad_d : Nat → Nat) (p1 : Int32) (M_guests : Int32) (M_kind : Nat → Int32) (M_figure : Nat → Int32) (M_told : Nat → Int32) (M_heaps : Int32) (M_holds : Int32) (M_back : Int32) (M_mistakes : Int32) (M_hooks : Int32) (M_letters : Int32) (M_rule : Nat → Int32) (M_coming : Nat → Int32) (M_comingMany : Int32) (M_going : Nat → Int32) (M_goingMany : Int32) (M_minute : Nat → Int32) (M_pile : Nat → Int32) (M_high : Nat → Int32) (M_where : Nat → Int32) (M_latest : Int32) (M_lifts : Nat → Int32) (M_begun : Nat → Int32) (M_left : Nat → Int32) (M_has : Nat → Int32) (M_lifted : Nat → Int32) (M_taken : Nat → Int32) (M_above : Nat → Int32) (M_allLifts : Int32) (M_busy : Int32) (M_worst : Int32) (M_best : Int32) (M_orders : Int32) (M_together : Int32) (hf : 1000 < fuel) (hr : okR r) (hc : cR r d_guests d_kinds d_figures d_minutes d_settings d_hooks d_letters d_letterCount) (hm : mR r M_guests M_kind M_figure M_told M_heaps M_holds M_back M_mistakes M_hooks M_letters M_rule) : ∃ o p, fX9_mean fuel d_guests d_kinds d_figures d_minutes d_settings d_hooks d_letters d_letterCount q_found q_foundLifts q_mostLifts q_sumOfLifts m_room m_order m_weights m_black m_lifts m_begins m_ends m_has m_lifted m_allLifts m_doneAt z_going z_coming z_holds z_latest c_heaps c_piles c_heights c_spots ad_d p1 = some o ∧ fX10_mean fuel M_guests M_kind M_figure M_told M_heaps M_holds M_back M_mistakes M_hooks M_letters M_rule M_coming M_comingMany M_going M_goingMany M_minute M_pile M_high M_where M_latest M_lifts M_begun M_left M_has M_lifted M_taken M_above M_allLifts M_busy M_worst M_best M_orders M_together p1 = some p ∧ o.1 = p.1 := by
  have hN := hr.1
  unfold fX9_mean fX10_mean
  have c1 := hc.1
  have m1 := hm.1
  have e0 : (0 : Int32) = nI 0 := rfl
  have e1 : (1 : Int32) = nI 1 := rfl
  have e5 : (5 : Int32) = nI 5 := rfl
  rw [e0, e1, e5]
  rcases fs_case (fuel := fuel) p1 with ⟨h01, b1, b2⟩ | ⟨b1, b2⟩
  · rw [b1, b2, zbs, zbs, if_neg z10, if_neg z10]
    by_cases q5 : rN r ≤ 5
    · have hle : nI (rN r) ≤ nI 5 := (nI_leI (by omega) (by decide)).mpr q5
      rw [if_pos (show d_guests ≤ nI 5 by rw [c1]; exact hle), if_pos (show M_guests ≤ nI 5 by rw [m1]; exact hle)]
      obtain ⟨y, y1, y2, y3, y4⟩ := sX8_tryAllGoings fuel q_found q_foundLifts q_mostLifts q_sumOfLifts m_order m_weights m_black m_lifts m_begins m_ends m_has m_lifted m_allLifts m_doneAt z_going z_coming z_holds z_latest c_heaps c_piles c_heights c_spots d_guests d_kinds d_figures d_minutes d_settings d_hooks d_letters d_letterCount hf hr hc (by omega)
      obtain ⟨w, w1, w2, w3, w4, w5⟩ := sX10_allOrders fuel M_guests M_kind M_figure M_told M_heaps M_holds M_back M_mistakes M_hooks M_letters M_rule M_coming M_comingMany M_going M_goingMany M_minute M_pile M_high M_where M_latest M_lifts M_begun M_left M_has M_lifted M_taken M_above M_allLifts M_busy M_worst M_best M_orders M_together hf hr hm (by omega)
      have hpl := pm_len (rN r) (by omega)
      have hsum := fold_sum (T := odT r) (pmL (rN r)) (none, 0, 0) (fun x hx => odT_le hr (by omega) hx)
      have hs0 : ((none, 0, 0) : Option Nat × Nat × Nat).2.2 = 0 := rfl
      obtain ⟨g, g1, g2, g3⟩ := eg_all (a := ((pmL (rN r)).foldl (stO (odT r)) (none, 0, 0)).2.2) (hpl.2.2 q5)
      have hhm := sX4_howMany (fuel := fuel) (N := rN r) (by omega) (by omega)
      rw [← c1] at hhm
      have hgd : fX4_greatestDivisor fuel y.2.2.2.1 (nI (pmL (rN r)).length) = some (nI g) := by
        unfold fX4_greatestDivisor
        rw [y4]
        exact sX4_gcd 41 fuel _ _ 0 g1 (by omega) (by omega) (by omega) (by omega)
      have hmd := sX10_gcd p1 41 fuel ((pmL (rN r)).foldl (stO (odT r)) (none, 0, 0)).2.2 (pmL (rN r)).length w.1 w.2.1 w.2.2.1 w.2.2.2.1 w.2.2.2.2.1 w.2.2.2.2.2.1 w.2.2.2.2.2.2.1 w.2.2.2.2.2.2.2.1 w.2.2.2.2.2.2.2.2.1 w.2.2.2.2.2.2.2.2.2.1 w.2.2.2.2.2.2.2.2.2.2.1 w.2.2.2.2.2.2.2.2.2.2.2.1 w.2.2.2.2.2.2.2.2.2.2.2.2.1 w.2.2.2.2.2.2.2.2.2.2.2.2.2.1 w.2.2.2.2.2.2.2.2.2.2.2.2.2.2.1 w.2.2.2.2.2.2.2.2.2.2.2.2.2.2.2.1 w.2.2.2.2.2.2.2.2.2.2.2.2.2.2.2.2.1 w.2.2.2.2.2.2.2.2.2.2.2.2.2.2.2.2.2.1 w.2.2.2.2.2.2.2.2.2.2.2.2.2.2.2.2.2.2.1 w.2.2.2.2.2.2.2.2.2.2.2.2.2.2.2.2.2.2.2.1 w.2.2.2.2.2.2.2.2.2.2.2.2.2.2.2.2.2.2.2.2.1 w.2.2.2.2.2.2.2.2.2.2.2.2.2.2.2.2.2.2.2.2.2 g1 (by omega) (by omega) (by omega)
      have hg0 : ¬ nI g = nI 0 := fun h => by have := (nI_eq (by omega) (by decide)).mp h; omega
      rw [y1, zbs, hhm, zbs, hgd, zbs, w1, zbs]
      rw [w4, w5] at hmd ⊢
      rw [hmd]
      unfold fX10_mean_J56
      rw [if_pos ((nI_leI (by decide) (by omega)).mpr g2), zgd' hg0, zgd' hg0, y4, e0, zgd' hg0, zgd' hg0]
      by_cases q : p1 = nI 0
      · rw [if_pos q, if_pos q]
        exact ⟨_, _, rfl, rfl, rfl⟩
      · rw [if_neg q, if_neg q]
        exact ⟨_, _, rfl, rfl, rfl⟩
    · have hnle : ¬ nI (rN r) ≤ nI 5 := fun h => q5 ((nI_leI (by omega) (by decide)).mp h)
      rw [if_neg (show ¬ d_guests ≤ nI 5 by rw [c1]; exact hnle), if_neg (show ¬ M_guests ≤ nI 5 by rw [m1]; exact hnle)]
      exact ⟨_, _, rfl, rfl, rfl⟩
  · rw [b1, b2, zbs, zbs, if_pos z00, if_pos z00]
    exact ⟨_, _, rfl, rfl, rfl⟩
