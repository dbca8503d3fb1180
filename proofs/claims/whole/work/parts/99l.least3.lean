/-! least: the model. -/
theorem sX10_least_L117 {N : Nat} (fuel : Nat) (M_guests : Int32) (M_heaps : Int32) (k72 : Int32 → Int32 → Int32 → (Nat → Int32) → Int32 → (Nat → Int32) → Int32 → (Nat → Int32) → (Nat → Int32) → (Nat → Int32) → (Nat → Int32) → Int32 → (Nat → Int32) → (Nat → Int32) → (Nat → Int32) → (Nat → Int32) → (Nat → Int32) → (Nat → Int32) → (Nat → Int32) → Int32 → Int32 → (Nat → Int32) → Option (Int32 × (Nat → Int32) × Int32 × (Nat → Int32) × Int32 × (Nat → Int32) × (Nat → Int32) × (Nat → Int32) × (Nat → Int32) × Int32 × (Nat → Int32) × (Nat → Int32) × (Nat → Int32) × (Nat → Int32) × (Nat → Int32) × (Nat → Int32) × (Nat → Int32) × Int32 × Int32 × (Nat → Int32))) (hN : N ≤ 10) (hg : M_guests = nI N) :
    ∀ (w : List Nat) (n i acc : Nat) (v2 : Int32) (v3 : Int32) (v6 : Int32) (M_coming : Nat → Int32) (M_comingMany : Int32) (M_going : Nat → Int32) (M_goingMany : Int32) (M_minute : Nat → Int32) (M_pile : Nat → Int32) (M_high : Nat → Int32) (M_where : Nat → Int32) (M_latest : Int32) (M_lifts : Nat → Int32) (M_begun : Nat → Int32) (M_left : Nat → Int32) (M_has : Nat → Int32) (M_lifted : Nat → Int32) (M_taken : Nat → Int32) (M_above : Nat → Int32) (M_allLifts : Int32) (M_busy : Int32) (M_onto : Nat → Int32), i + w.length = N → w.length < n → v2 = nI acc → v6 = nI i → arrAt M_onto i w →
      fX10_least_L117 fuel M_guests M_heaps k72 n v2 v3 v6 M_coming M_comingMany M_going M_goingMany M_minute M_pile M_high M_where M_latest M_lifts M_begun M_left M_has M_lifted M_taken M_above M_allLifts M_busy M_onto = fX10_least_J145 fuel M_guests M_heaps k72 (nI (w.foldl (fun a x => 10 * a + x) acc)) v3 M_coming M_comingMany M_going M_goingMany M_minute M_pile M_high M_where M_latest M_lifts M_begun M_left M_has M_lifted M_taken M_above M_allLifts M_busy M_onto := by
  subst hg
  intro w
  induction w with
  | nil =>
    intro n i acc v2 v3 v6 M_coming M_comingMany M_going M_goingMany M_minute M_pile M_high M_where M_latest M_lifts M_begun M_left M_has M_lifted M_taken M_above M_allLifts M_busy M_onto h1 h2 h3 h4 h5
    obtain ⟨n, rfl⟩ : ∃ k, n = k + 1 := ⟨n - 1, by omega⟩
    subst h3 h4
    rw [List.length_nil] at h1
    rw [fX10_least_L117, if_pos ((nI_leI (by omega) (by omega)).mpr (by omega))]
    rfl
  | cons x w ih =>
    intro n i acc v2 v3 v6 M_coming M_comingMany M_going M_goingMany M_minute M_pile M_high M_where M_latest M_lifts M_begun M_left M_has M_lifted M_taken M_above M_allLifts M_busy M_onto h1 h2 h3 h4 h5
    obtain ⟨n, rfl⟩ : ∃ k, n = k + 1 := ⟨n - 1, by omega⟩
    subst h3 h4
    rw [List.length_cons] at h1 h2
    have hx : M_onto i = nI x := h5 0 x rfl
    rw [fX10_least_L117]
    simp (disch := omega) only [zlit, zz, if_pos, if_neg, if_true, if_false, zgd', zl, zbs, zbz, encz, hx]
    exact ih n (i + 1) (10 * acc + x) (nI (10 * acc + x)) v3 (nI (i + 1)) M_coming M_comingMany M_going M_goingMany M_minute M_pile M_high M_where M_latest M_lifts M_begun M_left M_has M_lifted M_taken M_above M_allLifts M_busy M_onto (by omega) (by omega) rfl rfl (fun j y hy => by
      have := h5 (j + 1) y (by simpa using hy)
      rw [show i + 1 + j = i + (j + 1) by omega]
      exact this)
theorem sX10_layOnto {r : SR} {w : List Nat} (fuel : Nat) (M_guests : Int32) (M_holds : Int32) (M_pile : Nat → Int32) (M_high : Nat → Int32) (M_where : Nat → Int32) (M_latest : Int32) (M_onto : Nat → Int32) (hf : 100 < fuel) (hr : okR r) (hg : M_guests = nI (rN r)) (hho : M_holds = nI (rHo r)) (hw : dgOk (rHp r) w) (hl : w.length = rN r) (ha : arr M_onto w) :
    ∃ o, fX10_layOnto fuel M_guests M_holds M_pile M_high M_where M_latest M_onto = some o ∧ o.1 = zb01 (fitB (rHo r) (asS w).1) ∧ (fitB (rHo r) (asS w).1 = true → mB (asS w).1 o.2.1 o.2.2.1 ∧ ∀ x, x < rN r → o.2.2.2.1 x = encW ((asS w).2.2 x)) := by
  have hN := hr.1
  subst hg hho
  unfold fX10_layOnto
  rw [sX10_clear hf, zbs, show (0 : Int32) = nI 0 from rfl]
  exact sX10_layOnto_L6 (fuel := fuel) (row := M_onto) hN hr.2.2.2.1 (by have := hr.2.2.2.2.2.1; omega) w fuel 0 (fun _ => [], none, fun _ => 10) M_pile _ M_where zNo (by omega) (by omega) (fun i x hx => by rw [Nat.zero_add]; exact ha i x hx) hw (fun k hk => ⟨by show (if 0 ≤ k ∧ k < 3 then nI 0 else M_high k) = _; rw [if_pos ⟨Nat.zero_le _, hk⟩]; rfl, fun i x hx => by simp at hx⟩) (fun k => by simp) (fun k hk => by simp) (fun x hx => absurd hx (Nat.not_lt_zero x))
theorem sX10_least_L72 {r : SR} {cap : Nat} (fuel : Nat) (M_guests : Int32) (M_kind : Nat → Int32) (M_figure : Nat → Int32) (M_heaps : Int32) (M_holds : Int32) (M_back : Int32) (M_mistakes : Int32) (p1 : Int32) {M_told M_rule : Nat → Int32} {M_hooks M_letters : Int32} (hf : 10000 < fuel) (hr : okR r) (hm : mR r M_guests M_kind M_figure M_told M_heaps M_holds M_back M_mistakes M_hooks M_letters M_rule) (hN6 : rN r ≤ 6) (hcap : cap ≤ 1000) :
    ∀ (m n : Nat) (w : List Nat) (b : Option (Nat × Nat)) (M_coming : Nat → Int32) (M_comingMany : Int32) (M_going : Nat → Int32) (M_goingMany : Int32) (M_minute : Nat → Int32) (M_pile : Nat → Int32) (M_high : Nat → Int32) (M_where : Nat → Int32) (M_latest : Int32) (M_lifts : Nat → Int32) (M_begun : Nat → Int32) (M_left : Nat → Int32) (M_has : Nat → Int32) (M_lifted : Nat → Int32) (M_taken : Nat → Int32) (M_above : Nat → Int32) (M_allLifts : Int32) (M_busy : Int32) (M_onto : Nat → Int32), m < n → (m ≠ 0 → cpR (rHp r) w.reverse = cap ∧ rkR (rHp r) w.reverse + m = cap) → dgOk (rHp r) w → w.length = rN r → arr M_onto w → okB b → cM M_minute (mnR r) (rN r) → arr M_going (odR r) → M_goingMany = nI (rN r) →
      ∃ o, fX10_least_L72 fuel M_guests M_kind M_figure M_heaps M_holds M_back M_mistakes p1 n (encD b) (encQ b) (zb01 (decide (m ≠ 0))) M_coming M_comingMany M_going M_goingMany M_minute M_pile M_high M_where M_latest M_lifts M_begun M_left M_has M_lifted M_taken M_above M_allLifts M_busy M_onto = some o ∧ o.1 = if p1 = nI 0 then encQ (lsS r m w b) else encD (lsS r m w b) := by
  have hN := hr.1
  intro m
  induction m with
  | zero =>
    intro n w b M_coming M_comingMany M_going M_goingMany M_minute M_pile M_high M_where M_latest M_lifts M_begun M_left M_has M_lifted M_taken M_above M_allLifts M_busy M_onto h2 h3 h4 h5 h6 h7 h8 h9 h10
    obtain ⟨n, rfl⟩ : ∃ k, n = k + 1 := ⟨n - 1, by omega⟩
    rw [fX10_least_L72, show (0 : Int32) = nI 0 from rfl, if_pos (show zb01 (decide (0 ≠ 0)) = nI 0 from rfl)]
    unfold fX10_least_J154
    rw [show (0 : Int32) = nI 0 from rfl, lsS]
    by_cases q : p1 = nI 0
    · rw [if_pos q, if_pos q]; exact ⟨_, rfl, rfl⟩
    · rw [if_neg q, if_neg q]; exact ⟨_, rfl, rfl⟩
  | succ m ih =>
    intro n w b M_coming M_comingMany M_going M_goingMany M_minute M_pile M_high M_where M_latest M_lifts M_begun M_left M_has M_lifted M_taken M_above M_allLifts M_busy M_onto h2 h3 h4 h5 h6 h7 h8 h9 h10
    obtain ⟨n, rfl⟩ : ∃ k, n = k + 1 := ⟨n - 1, by omega⟩
    subst h10
    obtain ⟨z1, z2⟩ := h3 (by omega)
    obtain ⟨y1, y2, y3, y4, y5⟩ := nxW_ok hr.2.2.1 hr.2.2.2.1 h4 h5
    have hfl : (nxR (rHp r) w.reverse).1 = decide (m ≠ 0) := by
      rw [y4]
      exact decide_eq_decide.mpr ⟨fun h => by omega, fun h => by omega⟩
    have hnext : m ≠ 0 → cpR (rHp r) (nxW (rHp r) w).reverse = cap ∧ rkR (rHp r) (nxW (rHp r) w).reverse + m = cap := fun hm0 => by
      have h1 : (nxR (rHp r) w.reverse).1 = true := by rw [hfl]; exact decide_eq_true hm0
      rw [y3, y5 h1]
      exact ⟨z1, by omega⟩
    -- what comes behind
    have aft : ∀ (b2 : Option (Nat × Nat)) (co : Nat → Int32) (cm : Int32) (pl hi wr : Nat → Int32) (la : Int32) (li be en ha ld tk ab : Nat → Int32) (al bu : Int32), okB b2 → lsS r (m + 1) w b = lsS r m (nxW (rHp r) w) b2 → ∃ o, fX10_least_J145 fuel M_guests M_heaps (fX10_least_L72 fuel M_guests M_kind M_figure M_heaps M_holds M_back M_mistakes p1 n) (encD b2) (encQ b2) co cm M_going (nI (rN r)) M_minute pl hi wr la li be en ha ld tk ab al bu M_onto = some o ∧ o.1 = if p1 = nI 0 then encQ (lsS r (m + 1) w b) else encD (lsS r (m + 1) w b) := by
      intro b2 co cm pl hi wr la li be en ha ld tk ab al bu hb2 hls
      obtain ⟨r2, x1, x2⟩ := sX10_nextLaying (r := r) (w := w) fuel M_guests M_heaps M_onto (by omega) hr hm.1 hm.2.2.1 h4 h5 h6
      unfold fX10_least_J145
      rw [x1, zbs, hls]
      dsimp only
      rw [hfl]
      exact ih n (nxW (rHp r) w) b2 co cm M_going (nI (rN r)) M_minute pl hi wr la li be en ha ld tk ab al bu r2 (by omega) hnext y1 y2 x2 hb2 h8 h9 rfl
    have hI := okO_asS hr h4 h5
    obtain ⟨o, o1, o2, o3⟩ := sX10_layOnto (r := r) (w := w) fuel M_guests M_holds M_pile M_high M_where M_latest M_onto (by omega) hr hm.1 hm.2.2.2.1 h4 h5 h6
    have hdl := dgS_lt (w := w) (by omega) (dgOk_10 hr.2.2.2.1 h4)
    have htn : none = tpS (mnR r) 1000000 (odR r) := (tpS_never (fun x hx => by have := mnR_lt hr (odR_mem.mp hx); omega)).symm
    rw [fX10_least_L72, show (0 : Int32) = nI 0 from rfl, if_neg (show ¬ zb01 (decide (m + 1 ≠ 0)) = nI 0 by rw [decide_eq_true (by omega)]; exact z10), o1, zbs, o2]
    by_cases qf : fitB (rHo r) (asS w).1 = true
    · obtain ⟨p1', p2'⟩ := o3 qf
      rw [qf, if_neg (show ¬ zb01 true = nI 0 from z10)]
      have hle := vlS_le hr h4 h5
      have hv : vlS r w = some (sAll (goR r (asS w) none (odR r))) := by unfold vlS; rw [if_pos qf]
      obtain ⟨g, g1, g2, g3⟩ := sX10_go (fuel := fuel) (t := 1000000) (rest := []) (S := asS w) (by omega) hr ⟨M_told, hm⟩ h8 (okC_range hr) (by rw [List.append_nil]; exact odR_perm r) hI (fun x hx => p2' x (List.mem_range.mp hx)) (by decide) h9 htn p1' M_lifts M_begun M_left M_has M_lifted M_taken M_above M_allLifts M_busy
      rw [odR_len] at g1
      have e6 : (1000000 : Int32) = nI 1000000 := rfl
      have e4 : (-4 : Int32) = zNo := rfl
      rw [e6, g1, zbs, g2, e4]
      generalize hL : sAll (goR r (asS w) none (odR r)) = L at hle hv
      have hdig : ∀ (co : Nat → Int32) (cm : Int32) (pl hi wr : Nat → Int32) (la : Int32) (li be en ha ld tk ab : Nat → Int32) (al bu : Int32), fX10_least_J109 fuel M_guests M_heaps (fX10_least_L72 fuel M_guests M_kind M_figure M_heaps M_holds M_back M_mistakes p1 n) (nI L) co cm M_going (nI (rN r)) M_minute pl hi wr la li be en ha ld tk ab al bu M_onto = fX10_least_J145 fuel M_guests M_heaps (fX10_least_L72 fuel M_guests M_kind M_figure M_heaps M_holds M_back M_mistakes p1 n) (nI (dgS w)) (nI L) co cm M_going (nI (rN r)) M_minute pl hi wr la li be en ha ld tk ab al bu M_onto := by
        intro co cm pl hi wr la li be en ha ld tk ab al bu
        unfold fX10_least_J109
        exact sX10_least_L117 (N := rN r) fuel M_guests M_heaps (fX10_least_L72 fuel M_guests M_kind M_figure M_heaps M_holds M_back M_mistakes p1 n) hN hm.1 w fuel 0 0 0 (nI L) 0 co cm M_going (nI (rN r)) M_minute pl hi wr la li be en ha ld tk ab al bu M_onto (by omega) (by omega) rfl rfl (fun i x hx => by rw [Nat.zero_add]; exact h6 i x hx)
      cases b with
      | none =>
        rw [if_pos (show encQ none = zNo from rfl), hdig]
        exact aft (some (dgS w, L)) _ _ _ _ _ _ _ _ _ _ _ _ _ _ _ (fun q hq => by cases hq; exact ⟨hdl, hle⟩) (by rw [lsS, hv]; rfl)
      | some q =>
        have hq := h7 q rfl
        rw [if_neg (show ¬ encQ (some q) = zNo from nI_m4 (by omega))]
        have e7 : encQ (some q) = nI q.2 := rfl
        by_cases ql : q.2 ≤ L
        · rw [if_pos (show encQ (some q) ≤ nI L by rw [e7]; exact (nI_leI (by omega) (by omega)).mpr ql)]
          exact aft (some q) _ _ _ _ _ _ _ _ _ _ _ _ _ _ _ h7 (by rw [lsS, hv]; unfold upS; show lsS r m _ (if L < q.2 then some (dgS w, L) else some q) = _; rw [if_neg (by omega)])
        · rw [if_neg (show ¬ encQ (some q) ≤ nI L by rw [e7]; exact fun h => ql ((nI_leI (by omega) (by omega)).mp h)), hdig]
          exact aft (some (dgS w, L)) _ _ _ _ _ _ _ _ _ _ _ _ _ _ _ (fun q' hq' => by cases hq'; exact ⟨hdl, hle⟩) (by rw [lsS, hv]; unfold upS; show lsS r m _ (if L < q.2 then some (dgS w, L) else some q) = _; rw [if_pos (by omega)])
    · have qf' : fitB (rHo r) (asS w).1 = false := by simpa using qf
      rw [qf', if_pos (show zb01 false = nI 0 from rfl)]
      have hv : vlS r w = none := by unfold vlS; rw [if_neg qf]
      exact aft b _ _ _ _ _ _ _ _ _ _ _ _ _ _ _ h7 (by rw [lsS, hv]; rfl)
/-- the first laying -/
def w0S (hk : Nat) (N : Nat) : List Nat := (List.range N).map fun g => if hangS hk g = true then 9 else 0
theorem w0S_len (hk N : Nat) : (w0S hk N).length = N := by simp [w0S]
theorem w0S_get {hk N i : Nat} (h : i < N) : (w0S hk N)[i]? = some (if hangS hk i = true then 9 else 0) := by
  unfold w0S
  rw [List.getElem?_map, List.getElem?_range h]
  rfl
theorem w0S_ok {hk N hp : Nat} (h0 : 0 < hp) : dgOk hp (w0S hk N) := fun x hx => by
  obtain ⟨g, -, rfl⟩ := List.mem_map.mp hx
  split
  · exact Or.inr rfl
  · exact Or.inl h0
theorem w0S_rk {hk hp : Nat} : ∀ t : List Nat, (∀ x ∈ t, x = 9 ∨ x = 0) → rkR hp t = 0
  | [], _ => rfl
  | x :: t, h => by
    have ih := w0S_rk (hk := hk) (hp := hp) t (fun y hy => h y (List.mem_cons_of_mem _ hy))
    rw [rkR, ih]
    rcases h x List.mem_cons_self with rfl | rfl
    · rfl
    · simp
theorem cpR_snoc {hp : Nat} : ∀ (t : List Nat) (x : Nat), cpR hp (t ++ [x]) = (if x = 9 then 1 else hp) * cpR hp t
  | [], x => by simp [cpR]
  | y :: t, x => by
    rw [List.cons_append, cpR, cpR, cpR_snoc t x]
    split
    · rfl
    · rw [← Nat.mul_assoc, ← Nat.mul_assoc, Nat.mul_comm hp]
theorem cpR_rev {hp : Nat} (t : List Nat) : cpR hp t.reverse = cpR hp t := by
  induction t with
  | nil => rfl
  | cons x t ih =>
    rw [List.reverse_cons, cpR_snoc, cpR, ih]
    split
    · rw [Nat.one_mul]
    · rfl
theorem sX8_lay_L14 {hk N : Nat} (fuel : Nat) (r_guests : Int32) (r_settings : Nat → Int32) (r_hooks : Int32) (hN : N ≤ 10) (hhk : hk < 2 ^ 31) (hg : r_guests = nI N) (hh : r_hooks = nI hk) :
    ∀ (m n i : Nat) (q_row : Nat → Int32) (q_found : Int32) (q_foundLifts : Int32) (n_order : Nat → Int32) (n_weights : Nat → Int32) (n_black : Nat → Int32) (n_lifts : Nat → Int32) (n_begins : Nat → Int32) (n_ends : Nat → Int32) (n_has : Nat → Int32) (n_lifted : Nat → Int32) (n_allLifts : Int32) (n_doneAt : Int32) (y_going : Nat → Int32) (y_coming : Nat → Int32) (b_heaps : Int32) (b_piles : Nat → Nat → Int32) (b_heights : Nat → Int32) (b_spots : Nat → Int32), i + m = N → m < n → (∀ j, j < i → q_row j = nI (if hangS hk j = true then 9 else 0)) →
      ∃ r2, fX8_tryAllLayings_L14 fuel r_guests r_settings r_hooks n (nI i) q_row q_found q_foundLifts n_order n_weights n_black n_lifts n_begins n_ends n_has n_lifted n_allLifts n_doneAt y_going y_coming b_heaps b_piles b_heights b_spots = fX8_tryAllLayings_J48 fuel r_guests r_settings r_hooks r2 q_found q_foundLifts n_order n_weights n_black n_lifts n_begins n_ends n_has n_lifted n_allLifts n_doneAt y_going y_coming b_heaps b_piles b_heights b_spots ∧ arr r2 (w0S hk N) := by
  subst hg hh
  intro m
  induction m with
  | zero =>
    intro n i q_row q_found q_foundLifts n_order n_weights n_black n_lifts n_begins n_ends n_has n_lifted n_allLifts n_doneAt y_going y_coming b_heaps b_piles b_heights b_spots h1 h2 h3
    obtain ⟨n, rfl⟩ : ∃ k, n = k + 1 := ⟨n - 1, by omega⟩
    rw [fX8_tryAllLayings_L14, if_pos ((nI_leI (by omega) (by omega)).mpr (by omega))]
    refine ⟨_, rfl, fun j x hx => ?_⟩
    have hj : j < N := by have := (List.getElem?_eq_some_iff.mp hx).1; rw [w0S_len] at this; exact this
    rw [w0S_get hj] at hx
    cases hx
    exact h3 j (by omega)
  | succ m ih =>
    intro n i q_row q_found q_foundLifts n_order n_weights n_black n_lifts n_begins n_ends n_has n_lifted n_allLifts n_doneAt y_going y_coming b_heaps b_piles b_heights b_spots h1 h2 h3
    obtain ⟨n, rfl⟩ : ∃ k, n = k + 1 := ⟨n - 1, by omega⟩
    have hh := sX5_hasHook (fuel := fuel) (g := i) hhk (by omega)
    rw [fX8_tryAllLayings_L14]
    cases q : hangS hk i with
    | false =>
      rw [q] at hh
      simp (disch := omega) only [zlit, zz, if_pos, if_neg, if_true, if_false, zgd', zl, zbs, zbz, encz, hh]
      apply ih
      · omega
      · omega
      · intro j hj
        unfold upd
        by_cases e : j = i
        · rw [if_pos e, e, q]; rfl
        · rw [if_neg e]; exact h3 j (by omega)
    | true =>
      rw [q] at hh
      simp (disch := omega) only [zlit, zz, if_pos, if_neg, if_true, if_false, zgd', zl, zbs, zbz, encz, hh, z10]
      apply ih
      · omega
      · omega
      · intro j hj
        unfold upd
        by_cases e : j = i
        · rw [if_pos e, e, q]; rfl
        · rw [if_neg e]; exact h3 j (by omega)
theorem sX10_least_L29 {hk N : Nat} (fuel : Nat) (M_guests : Int32) (M_kind : Nat → Int32) (M_figure : Nat → Int32) (M_heaps : Int32) (M_holds : Int32) (M_back : Int32) (M_mistakes : Int32) (M_hooks : Int32) (p1 : Int32) (hN : N ≤ 10) (hhk : hk < 2 ^ 31) (hg : M_guests = nI N) (hh : M_hooks = nI hk) :
    ∀ (m n i : Nat) (M_coming : Nat → Int32) (M_comingMany : Int32) (M_going : Nat → Int32) (M_goingMany : Int32) (M_minute : Nat → Int32) (M_pile : Nat → Int32) (M_high : Nat → Int32) (M_where : Nat → Int32) (M_latest : Int32) (M_lifts : Nat → Int32) (M_begun : Nat → Int32) (M_left : Nat → Int32) (M_has : Nat → Int32) (M_lifted : Nat → Int32) (M_taken : Nat → Int32) (M_above : Nat → Int32) (M_allLifts : Int32) (M_busy : Int32) (M_onto : Nat → Int32), i + m = N → m < n → (∀ j, j < i → M_onto j = nI (if hangS hk j = true then 9 else 0)) →
      ∃ r2, fX10_least_L29 fuel M_guests M_kind M_figure M_heaps M_holds M_back M_mistakes M_hooks p1 n (nI i) M_coming M_comingMany M_going M_goingMany M_minute M_pile M_high M_where M_latest M_lifts M_begun M_left M_has M_lifted M_taken M_above M_allLifts M_busy M_onto = fX10_least_J63 fuel M_guests M_kind M_figure M_heaps M_holds M_back M_mistakes p1 M_coming M_comingMany M_going M_goingMany M_minute M_pile M_high M_where M_latest M_lifts M_begun M_left M_has M_lifted M_taken M_above M_allLifts M_busy r2 ∧ arr r2 (w0S hk N) := by
  subst hg hh
  intro m
  induction m with
  | zero =>
    intro n i M_coming M_comingMany M_going M_goingMany M_minute M_pile M_high M_where M_latest M_lifts M_begun M_left M_has M_lifted M_taken M_above M_allLifts M_busy M_onto h1 h2 h3
    obtain ⟨n, rfl⟩ : ∃ k, n = k + 1 := ⟨n - 1, by omega⟩
    rw [fX10_least_L29, if_pos ((nI_leI (by omega) (by omega)).mpr (by omega))]
    refine ⟨_, rfl, fun j x hx => ?_⟩
    have hj : j < N := by have := (List.getElem?_eq_some_iff.mp hx).1; rw [w0S_len] at this; exact this
    rw [w0S_get hj] at hx
    cases hx
    exact h3 j (by omega)
  | succ m ih =>
    intro n i M_coming M_comingMany M_going M_goingMany M_minute M_pile M_high M_where M_latest M_lifts M_begun M_left M_has M_lifted M_taken M_above M_allLifts M_busy M_onto h1 h2 h3
    obtain ⟨n, rfl⟩ : ∃ k, n = k + 1 := ⟨n - 1, by omega⟩
    have hh := sX10_hangs (fuel := fuel) (g := i) hhk (by omega)
    rw [fX10_least_L29]
    cases q : hangS hk i with
    | false =>
      rw [q] at hh
      simp (disch := omega) only [zlit, zz, if_pos, if_neg, if_true, if_false, zgd', zl, zbs, zbz, encz, hh]
      apply ih
      · omega
      · omega
      · intro j hj
        unfold upd
        by_cases e : j = i
        · rw [if_pos e, e, q]; rfl
        · rw [if_neg e]; exact h3 j (by omega)
    | true =>
      rw [q] at hh
      simp (disch := omega) only [zlit, zz, if_pos, if_neg, if_true, if_false, zgd', zl, zbs, zbz, encz, hh, z10]
      apply ih
      · omega
      · omega
      · intro j hj
        unfold upd
        by_cases e : j = i
        · rw [if_pos e, e, q]; rfl
        · rw [if_neg e]; exact h3 j (by omega)
theorem w0S_succ (hk n : Nat) : w0S hk (n + 1) = w0S hk n ++ [if hangS hk n = true then 9 else 0] := by
  unfold w0S
  rw [List.range_succ, List.map_append]
  rfl
theorem sX8_lay_L52 {hk hp N : Nat} (fuel : Nat) (r_guests : Int32) (r_settings : Nat → Int32) (r_hooks : Int32) (hN : N ≤ 10) (hhk : hk < 2 ^ 31) (hg : r_guests = nI N) (hh : r_hooks = nI hk) (hs : r_settings 0 = nI hp) :
    ∀ (m n i : Nat) (q_row : Nat → Int32) (q_found : Int32) (q_foundLifts : Int32) (n_order : Nat → Int32) (n_weights : Nat → Int32) (n_black : Nat → Int32) (n_lifts : Nat → Int32) (n_begins : Nat → Int32) (n_ends : Nat → Int32) (n_has : Nat → Int32) (n_lifted : Nat → Int32) (n_allLifts : Int32) (n_doneAt : Int32) (y_going : Nat → Int32) (y_coming : Nat → Int32) (b_heaps : Int32) (b_piles : Nat → Nat → Int32) (b_heights : Nat → Int32) (b_spots : Nat → Int32), i + m = N → m < n →
      fX8_tryAllLayings_L52 fuel r_guests r_settings r_hooks n (nI (cpR hp (w0S hk i))) (nI i) q_row q_found q_foundLifts n_order n_weights n_black n_lifts n_begins n_ends n_has n_lifted n_allLifts n_doneAt y_going y_coming b_heaps b_piles b_heights b_spots = fX8_tryAllLayings_J87 fuel r_guests r_settings (nI (cpR hp (w0S hk N))) q_row q_found q_foundLifts n_order n_weights n_black n_lifts n_begins n_ends n_has n_lifted n_allLifts n_doneAt y_going y_coming b_heaps b_piles b_heights b_spots := by
  subst hg hh
  intro m
  induction m with
  | zero =>
    intro n i q_row q_found q_foundLifts n_order n_weights n_black n_lifts n_begins n_ends n_has n_lifted n_allLifts n_doneAt y_going y_coming b_heaps b_piles b_heights b_spots h1 h2
    obtain ⟨n, rfl⟩ : ∃ k, n = k + 1 := ⟨n - 1, by omega⟩
    rw [fX8_tryAllLayings_L52, if_pos ((nI_leI (by omega) (by omega)).mpr (by omega)), show i = N by omega]
  | succ m ih =>
    intro n i q_row q_found q_foundLifts n_order n_weights n_black n_lifts n_begins n_ends n_has n_lifted n_allLifts n_doneAt y_going y_coming b_heaps b_piles b_heights b_spots h1 h2
    obtain ⟨n, rfl⟩ : ∃ k, n = k + 1 := ⟨n - 1, by omega⟩
    have hh := sX5_hasHook (fuel := fuel) (g := i) hhk (by omega)
    have hi := ih n (i + 1) q_row q_found q_foundLifts n_order n_weights n_black n_lifts n_begins n_ends n_has n_lifted n_allLifts n_doneAt y_going y_coming b_heaps b_piles b_heights b_spots (by omega) (by omega)
    rw [fX8_tryAllLayings_L52, if_neg (fun h => by have := (nI_leI (by omega) (by omega)).mp h; omega), hh, zbs, ← hi, w0S_succ, cpR_snoc, show (0 : Int32) = nI 0 from rfl, show (1 : Int32) = nI 1 from rfl]
    cases q : hangS hk i with
    | false =>
      rw [if_pos (show zb01 false = nI 0 from rfl), zl, zl, hs, pk_mul, nI_add]
      simp [Nat.mul_comm]
    | true =>
      rw [if_neg (show ¬ zb01 true = nI 0 from z10), zl, zl, pk_mul, nI_add]
      simp
theorem u_least {r : SR} (fuel : Nat) (d_guests : Int32) (d_kinds : Nat → Int32) (d_figures : Nat → Int32) (d_minutes : Nat → Int32) (d_settings : Nat → Int32) (d_hooks : Int32) (q_row : Nat → Int32) (q_found : Int32) (q_foundLifts : Int32) (m_room : Nat) (m_order : Nat → Int32) (m_weights : Nat → Int32) (m_black : Nat → Int32) (m_lifts : Nat → Int32) (m_begins : Nat → Int32) (m_ends : Nat → Int32) (m_has : Nat → Int32) (m_lifted : Nat → Int32) (m_allLifts : Int32) (m_doneAt : Int32) (z_going : Nat → Int32) (z_coming : Nat → Int32) (c_heaps : Int32) (c_piles : Nat → Nat → Int32) (c_heights : Nat → Int32) (c_spots : Nat → Int32) (ad_d : Nat → Nat) (p1 : Int32) (M_guests : Int32) (M_kind : Nat → Int32) (M_figure : Nat → Int32) (M_told : Nat → Int32) (M_heaps : Int32) (M_holds : Int32) (M_back : Int32) (M_mistakes : Int32) (M_hooks : Int32) (M_coming : Nat → Int32) (M_comingMany : Int32) (M_going : Nat → Int32) (M_goingMany : Int32) (M_minute : Nat → Int32) (M_pile : Nat → Int32) (M_high : Nat → Int32) (M_where : Nat → Int32) (M_latest : Int32) (M_lifts : Nat → Int32) (M_begun : Nat → Int32) (M_left : Nat → Int32) (M_has : Nat → Int32) (M_lifted : Nat → Int32) (M_taken : Nat → Int32) (M_above : Nat → Int32) (M_allLifts : Int32) (M_busy : Int32) (M_onto : Nat → Int32) (d_letters : Nat → Int32) (d_letterCount : Int32) (M_letters : Int32) (M_rule : Nat → Int32) (hf : 10000 < fuel) (hr : okR r) (hc : cR r d_guests d_kinds d_figures d_minutes d_settings d_hooks d_letters d_letterCount) (hm : mR r M_guests M_kind M_figure M_told M_heaps M_holds M_back M_mistakes M_hooks M_letters M_rule) : ∃ o p, fX9_least fuel d_guests d_kinds d_figures d_minutes d_settings d_hooks q_row q_found q_foundLifts m_room m_order m_weights m_black m_lifts m_begins m_ends m_has m_lifted m_allLifts m_doneAt z_going z_coming c_heaps c_piles c_heights c_spots ad_d p1 = some o ∧ fX10_least fuel M_guests M_kind M_figure M_told M_heaps M_holds M_back M_mistakes M_hooks M_coming M_comingMany M_going M_goingMany M_minute M_pile M_high M_where M_latest M_lifts M_begun M_left M_has M_lifted M_taken M_above M_allLifts M_busy M_onto p1 = some p ∧ o.1 = p.1 := by
  have hN := hr.1
  unfold fX9_least fX10_least
  have c1 := hc.1
  have m1 := hm.1
  have e0 : (0 : Int32) = nI 0 := rfl
  have e1 : (1 : Int32) = nI 1 := rfl
  have e6 : (6 : Int32) = nI 6 := rfl
  rw [e0, e1, e6]
  rcases fs_case (fuel := fuel) p1 with ⟨h01, b1, b2⟩ | ⟨b1, b2⟩
  · rw [b1, b2, zbs, zbs, if_neg z10, if_neg z10]
    by_cases q6 : rN r ≤ 6
    · have hle : nI (rN r) ≤ nI 6 := (nI_leI (by omega) (by decide)).mpr q6
      rw [if_pos (show d_guests ≤ nI 6 by rw [c1]; exact hle), if_pos (show M_guests ≤ nI 6 by rw [m1]; exact hle)]
      unfold fX8_tryAllLayings
      have hfn : fX8_findNothing fuel q_found q_foundLifts = some (encD none, encQ none) := rfl
      obtain ⟨q, q1, q2, q3, q4, q5, q6'⟩ := sX3_beginR (fuel := fuel) (by omega) hr hc m_order m_weights m_black z_going z_coming
      obtain ⟨u, u1, u2, u3, u4, u5, u6⟩ := sX10_usualR (fuel := fuel) (by omega) hr hm M_coming M_comingMany M_going M_goingMany M_minute
      have hhk := hr.2.2.2.2.2.2.2.2.1
      obtain ⟨r2, a1, a2⟩ := sX8_lay_L14 (hk := rHk r) (N := rN r) fuel d_guests d_settings d_hooks hN hhk c1 hc.2.2.2.2.2.2.1 (rN r) fuel 0 q_row (encD none) (encQ none) q.1 q.2.1 q.2.2.1 m_lifts m_begins m_ends m_has m_lifted m_allLifts m_doneAt q.2.2.2.1 q.2.2.2.2 c_heaps c_piles c_heights c_spots (by omega) (by omega) (fun j hj => absurd hj (Nat.not_lt_zero j))
      have a3 := sX8_lay_L52 (hk := rHk r) (hp := rHp r) (N := rN r) fuel d_guests d_settings d_hooks hN hhk c1 hc.2.2.2.2.2.2.1 hc.2.2.1 (rN r) fuel 0 r2 (encD none) (encQ none) q.1 q.2.1 q.2.2.1 m_lifts m_begins m_ends m_has m_lifted m_allLifts m_doneAt q.2.2.2.1 q.2.2.2.2 c_heaps c_piles c_heights c_spots (by omega) (by omega)
      have hcap : cpR (rHp r) (w0S (rHk r) (rN r)) ≤ 1000 := by
        have h1 := cpR_le hr.2.2.1 hr.2.2.2.1 (w0S (rHk r) (rN r)) (by rw [w0S_len]; exact q6)
        rw [w0S_len] at h1
        have h2 : 3 ^ rN r ≤ 3 ^ 6 := Nat.pow_le_pow_right (by decide) q6
        omega
      have hrev := cpR_rev (hp := rHp r) (w0S (rHk r) (rN r))
      have hrk : rkR (rHp r) (w0S (rHk r) (rN r)).reverse = 0 := w0S_rk (hk := 0) _ (fun x hx => by
        obtain ⟨g, -, rfl⟩ := List.mem_map.mp (List.mem_reverse.mp hx)
        split
        · exact Or.inl rfl
        · exact Or.inr rfl)
      have hok : dgOk (rHp r) (w0S (rHk r) (rN r)) := w0S_ok hr.2.2.1
      have hob : okB none := fun q hq => by cases hq
      obtain ⟨o, o1, o2, o3⟩ := sX8_lay_L89 (r := r) (cap := cpR (rHp r) (w0S (rHk r) (rN r))) fuel d_guests d_settings hf hr hc q6 hcap (cpR (rHp r) (w0S (rHk r) (rN r))) fuel 0 (w0S (rHk r) (rN r)) none r2 (encD none) (encQ none) q.1 q.2.1 q.2.2.1 m_lifts m_begins m_ends m_has m_lifted m_allLifts m_doneAt q.2.2.2.1 q.2.2.2.2 c_heaps c_piles c_heights c_spots (by omega) (by omega) (fun _ => ⟨hrev, hrk⟩) hok (w0S_len _ _) a2 hob rfl rfl ⟨q3, q4, q5⟩ q2
      obtain ⟨s2, x1, x2⟩ := sX10_least_L29 (hk := rHk r) (N := rN r) fuel M_guests M_kind M_figure M_heaps M_holds M_back M_mistakes M_hooks p1 hN hhk m1 hm.2.2.2.2.2.2.1 (rN r) fuel 0 u.1 u.2.1 u.2.2.1 u.2.2.2.1 u.2.2.2.2 M_pile M_high M_where M_latest M_lifts M_begun M_left M_has M_lifted M_taken M_above M_allLifts M_busy M_onto (by omega) (by omega) (fun j hj => absurd hj (Nat.not_lt_zero j))
      obtain ⟨p, y1, y2⟩ := sX10_least_L72 (r := r) (cap := cpR (rHp r) (w0S (rHk r) (rN r))) fuel M_guests M_kind M_figure M_heaps M_holds M_back M_mistakes p1 hf hr hm q6 hcap (cpR (rHp r) (w0S (rHk r) (rN r))) fuel (w0S (rHk r) (rN r)) none u.1 u.2.1 u.2.2.1 u.2.2.2.1 u.2.2.2.2 M_pile M_high M_where M_latest M_lifts M_begun M_left M_has M_lifted M_taken M_above M_allLifts M_busy s2 (by omega) (fun _ => ⟨hrev, by rw [hrk]; omega⟩) hok (w0S_len _ _) x2 hob u6 u4 u5
      have hcpos : cpR (rHp r) (w0S (rHk r) (rN r)) ≠ 0 := by
        have := (nxR_rk hr.2.2.1 hr.2.2.2.1 (w0S (rHk r) (rN r)) hok).1
        omega
      have ecls : fX8_tryAllLayings_L14 fuel d_guests d_settings d_hooks fuel (nI 0) q_row (encD none) (encQ none) q.1 q.2.1 q.2.2.1 m_lifts m_begins m_ends m_has m_lifted m_allLifts m_doneAt q.2.2.2.1 q.2.2.2.2 c_heaps c_piles c_heights c_spots = some o := by
        rw [a1]
        unfold fX8_tryAllLayings_J48
        have e9 : (1 : Int32) = nI (cpR (rHp r) (w0S (rHk r) 0)) := rfl
        rw [e0, e9, a3]
        unfold fX8_tryAllLayings_J87
        rw [e0]
        exact o1
      have emod : fX10_least_L29 fuel M_guests M_kind M_figure M_heaps M_holds M_back M_mistakes M_hooks p1 fuel (nI 0) u.1 u.2.1 u.2.2.1 u.2.2.2.1 u.2.2.2.2 M_pile M_high M_where M_latest M_lifts M_begun M_left M_has M_lifted M_taken M_above M_allLifts M_busy M_onto = some p := by
        rw [x1]
        unfold fX10_least_J63
        rw [decide_eq_true hcpos] at y1
        exact y1
      rw [hfn, zbs, q1, zbs, u1, zbs, emod, e0]
      dsimp only
      rw [ecls, zbs]
      by_cases q : p1 = nI 0
      · rw [if_pos q]
        rw [if_pos q] at y2
        exact ⟨_, _, rfl, rfl, by rw [y2]; exact o3⟩
      · rw [if_neg q]
        rw [if_neg q] at y2
        exact ⟨_, _, rfl, rfl, by rw [y2]; exact o2⟩
    · have hnle : ¬ nI (rN r) ≤ nI 6 := fun h => q6 ((nI_leI (by omega) (by decide)).mp h)
      rw [if_neg (show ¬ d_guests ≤ nI 6 by rw [c1]; exact hnle), if_neg (show ¬ M_guests ≤ nI 6 by rw [m1]; exact hnle)]
      exact ⟨_, _, rfl, rfl, rfl⟩
  · rw [b1, b2, zbs, zbs, if_pos z00, if_pos z00]
    exact ⟨_, _, rfl, rfl, rfl⟩
