/-! The call: nights. Minutes that are not those told. -/
def rMin (r : SR) (M : Nat → Nat) : SR := (rN r, rK r, rF r, M, rHp r, rHo r, rBa r, rMi r, rHk r, rL r)
theorem ok_min {r : SR} {M : Nat → Nat} (h : okR r) (hM : ∀ i, i < rN r → M i < 200) : okR (rMin r M) := ⟨h.1, fun i hi => ⟨(h.2.1 i hi).1, (h.2.1 i hi).2.1, hM i hi⟩, h.2.2⟩
theorem cR_min {r : SR} {M : Nat → Nat} {gu hk lc : Int32} {ki fi mi mi' se le : Nat → Int32} (h : cR r gu ki fi mi se hk le lc) (hM : ∀ i, i < rN r → mi' i = nI (M i) ∧ M i < 200) : cR (rMin r M) gu ki fi mi' se hk le lc := by
  obtain ⟨c1, c2, c3⟩ := h
  exact ⟨c1, fun i hi => ⟨(c2 i hi).1, (c2 i hi).2.1, (c2 i hi).2.2.1, (c2 i hi).2.2.2.1, hM i hi⟩, c3⟩
theorem mR_min {r : SR} {M : Nat → Nat} {gu hp ho ba mi hk lc : Int32} {ki fi to ru : Nat → Int32} (h : mR r gu ki fi to hp ho ba mi hk lc ru) (hM : ∀ i, i < rN r → M i < 200) : mR (rMin r M) gu ki fi (fun i => nI (M i)) hp ho ba mi hk lc ru := by
  obtain ⟨c1, c2, c3⟩ := h
  exact ⟨c1, fun i hi => ⟨(c2 i hi).1, (c2 i hi).2.1, (c2 i hi).2.2.1, (c2 i hi).2.2.2.1, rfl, hM i hi⟩, c3⟩
/-- a night of the model by minutes that stand -/
theorem sX10_nightM {r : SR} {fuel : Nat} {gu hp ho ba mi hk lc : Int32} {ki fi ru mr : Nat → Int32} (hf : 100 < fuel) (hr : okR r) (hm : mR0 r gu ki fi hp ho ba mi hk lc ru) (hM : cM mr (mnR r) (rN r)) (co : Nat → Int32) (cm : Int32) (go : Nat → Int32) (gm : Int32) (pl hi wr : Nat → Int32) (la : Int32) (li be en ha ld tk ab : Nat → Int32) (al bu : Int32) :
    ∃ c g y, fX10_allCome fuel gu co cm zAw = some c ∧ fX10_allGo fuel c.1 c.2 go gm mr = some g ∧ fX10_layAndGo fuel gu ki fi hp ho ba mi hk lc ru c.1 c.2 g.1 g.2 mr pl hi wr la li be en ha ld tk ab al bu = some y ∧ y.1 = nI (sAll (nightR r)) ∧ (∀ x, x < rN r → y.2.2.2.2.2.1 x = nI ((nightR r).2.2.1 x)) ∧ ∀ x, x < rN r → y.2.2.2.2.2.2.2.1 x = nI ((nightR r).2.2.2.2.1 x) := by
  have hN := hr.1
  have hg : gu = nI (rN r) := by obtain ⟨to, m1, -⟩ := hm; exact m1
  obtain ⟨r2, e2, m2⟩ := sX10_allCome (p1 := zAw) hf hN (but := 100) (fun i hi => (eq_false (nI_m1 (show i < 2 ^ 31 by omega))).trans (eq_false (show ¬ i = 100 by omega)).symm) co cm
  rw [butS_all (by omega)] at e2 m2
  obtain ⟨r3, e3, m3⟩ := sX10_allGo hf hN hM m2 (by simpa using hN) (fun x hx => List.mem_range.mp hx) (range_up (rN r)) go gm
  obtain ⟨y, y1, y2, y3, -, ⟨k1, -⟩, -⟩ := sX10_layAndGo (fuel := fuel) hf hr hm hM (okO_C hr (okO_range r)) (odR_perm r) m2 m3 pl hi wr la li be en ha ld tk ab al bu
  rw [odR_len] at y1
  rw [List.length_range] at e2 e3 y1
  have e2 : fX10_allCome fuel gu co cm zAw = some (r2, nI (rN r)) := by rw [hg]; exact e2
  exact ⟨(r2, nI (rN r)), (r3, nI (rN r)), y, e2, e3, y1, y2, fun x hx => (k1 x (List.mem_range.mpr hx) (by simp)).1, fun x hx => (k1 x (List.mem_range.mpr hx) (by simp)).2.2.2⟩
/-- seeds and what they give -/
def zdr (s : Int32) : Int32 := s * 1103515245 + 12345
def dvS (s : Int32) : Nat := s.toBitVec.toNat % 2 ^ 31 / 65536 % 60
def sdS (s : Int32) : Nat → Int32
  | 0 => s
  | i + 1 => zdr (sdS s i)
theorem dvS_lt (s : Int32) : dvS s < 60 := Nat.mod_lt _ (by decide)
theorem zdv (s : Int32) : (s &&& 2147483647) / 65536 - (s &&& 2147483647) / 65536 / 60 * 60 = nI (dvS s) := by
  have h1 : s &&& 2147483647 = nI (s.toBitVec.toNat % 2 ^ 31) := pk_and s 31 (by decide)
  have hb : s.toBitVec.toNat % 2 ^ 31 < 2 ^ 31 := Nat.mod_lt _ (by decide)
  have h2 : nI (s.toBitVec.toNat % 2 ^ 31) / 65536 = nI (s.toBitVec.toNat % 2 ^ 31 / 65536) := pk_div hb (by decide) (by decide)
  have h3 : nI (s.toBitVec.toNat % 2 ^ 31 / 65536) - nI (s.toBitVec.toNat % 2 ^ 31 / 65536) / 60 * 60 = nI (s.toBitVec.toNat % 2 ^ 31 / 65536 % 60) := pk_rem (Nat.lt_of_le_of_lt (Nat.div_le_self _ _) hb) (by decide) (by decide)
  rw [h1, h2, h3]
  rfl
theorem sX8_draw {fuel : Nat} (s : Int32) : fX8_draw fuel s 60 = some (nI (dvS (zdr s)), zdr s) := by
  unfold fX8_draw
  rw [zl, if_pos (by decide), zgd' (by decide), zl]
  show some ((zdr s &&& 2147483647) / 65536 - (zdr s &&& 2147483647) / 65536 / 60 * 60, zdr s) = _
  rw [zdv]
theorem sX10_draw {fuel : Nat} (s : Int32) : fX10_draw fuel s 60 = some (nI (dvS (zdr s)), zdr s) := by
  unfold fX10_draw
  rw [zl, zgd' (by decide), zl]
  show some ((zdr s &&& 2147483647) / 65536 - (zdr s &&& 2147483647) / 65536 / 60 * 60, zdr s) = _
  rw [zdv]
def drM (s : Int32) : Nat → Nat := fun j => dvS (sdS s (j + 1))
theorem sX8_nights_L35 {N : Nat} (s : Int32) (fuel : Nat) (ad_t : Nat → Nat) (k26 : Int32 → Int32 → Int32 → Int32 → Int32 → (Nat → Int32) → (Nat → Int32) → (Nat → Int32) → (Nat → Int32) → Int32 → (Nat → Int32) → Int32 → (Nat → Int32) → (Nat → Int32) → (Nat → Int32) → (Nat → Int32) → (Nat → Int32) → (Nat → Int32) → (Nat → Int32) → (Nat → Int32) → Int32 → Int32 → (Nat → Int32) → (Nat → Int32) → Int32 → Int32 → Int32 → (Nat → Nat → Int32) → (Nat → Int32) → (Nat → Int32) → Nat → Option (Int32 × Int32 × Int32 × Int32 × (Nat → Int32) × (Nat → Int32) × (Nat → Int32) × (Nat → Int32) × Int32 × (Nat → Int32) × Int32 × Nat × (Nat → Int32) × (Nat → Int32) × (Nat → Int32) × (Nat → Int32) × (Nat → Int32) × (Nat → Int32) × (Nat → Int32) × (Nat → Int32) × Int32 × Int32 × (Nat → Int32) × (Nat → Int32) × Int32 × Int32 × Int32 × (Nat → Nat → Int32) × (Nat → Int32) × (Nat → Int32))) (hN : N ≤ 10) :
    ∀ (m n i : Nat) (v4 : Int32) (v5 : Int32) (q_seed : Int32) (q_sumOfLifts : Int32) (q_sumOfMissers : Int32) (t_guests : Int32) (t_kinds : Nat → Int32) (t_figures : Nat → Int32) (t_minutes : Nat → Int32) (t_settings : Nat → Int32) (t_hooks : Int32) (t_letters : Nat → Int32) (t_letterCount : Int32) (n_order : Nat → Int32) (n_weights : Nat → Int32) (n_black : Nat → Int32) (n_lifts : Nat → Int32) (n_begins : Nat → Int32) (n_ends : Nat → Int32) (n_has : Nat → Int32) (n_lifted : Nat → Int32) (n_allLifts : Int32) (n_doneAt : Int32) (y_going : Nat → Int32) (y_coming : Nat → Int32) (y_holds : Int32) (y_latest : Int32) (b_heaps : Int32) (b_piles : Nat → Nat → Int32) (b_heights : Nat → Int32) (b_spots : Nat → Int32) (n_room : Nat), i + m = N → m < n → v5 = nI i → t_guests = nI N → q_seed = sdS s i → (∀ j, j < i → t_minutes j = nI (drM s j)) →
      ∃ tm, fX8_tryNights_L35 fuel ad_t k26 n v4 v5 q_seed q_sumOfLifts q_sumOfMissers t_guests t_kinds t_figures t_minutes t_settings t_hooks t_letters t_letterCount n_order n_weights n_black n_lifts n_begins n_ends n_has n_lifted n_allLifts n_doneAt y_going y_coming y_holds y_latest b_heaps b_piles b_heights b_spots n_room = fX8_tryNights_J69 fuel ad_t k26 v4 (sdS s N) q_sumOfLifts q_sumOfMissers t_guests t_kinds t_figures tm t_settings t_hooks t_letters t_letterCount n_order n_weights n_black n_lifts n_begins n_ends n_has n_lifted n_allLifts n_doneAt y_going y_coming y_holds y_latest b_heaps b_piles b_heights b_spots n_room ∧ ∀ j, j < N → tm j = nI (drM s j) := by
  intro m
  induction m with
  | zero =>
    intro n i v4 v5 q_seed q_sumOfLifts q_sumOfMissers t_guests t_kinds t_figures t_minutes t_settings t_hooks t_letters t_letterCount n_order n_weights n_black n_lifts n_begins n_ends n_has n_lifted n_allLifts n_doneAt y_going y_coming y_holds y_latest b_heaps b_piles b_heights b_spots n_room h1 h2 h3 h4 h5 h6
    obtain ⟨n, rfl⟩ : ∃ k, n = k + 1 := ⟨n - 1, by omega⟩
    subst h3 h4 h5
    have e : i = N := by omega
    subst e
    rw [fX8_tryNights_L35]
    simp (disch := omega) only [zlit, zz, if_pos, if_neg, if_true, if_false, zgd', zl, zbs, zbz, encz]
    exact ⟨_, rfl, h6⟩
  | succ m ih =>
    intro n i v4 v5 q_seed q_sumOfLifts q_sumOfMissers t_guests t_kinds t_figures t_minutes t_settings t_hooks t_letters t_letterCount n_order n_weights n_black n_lifts n_begins n_ends n_has n_lifted n_allLifts n_doneAt y_going y_coming y_holds y_latest b_heaps b_piles b_heights b_spots n_room h1 h2 h3 h4 h5 h6
    obtain ⟨n, rfl⟩ : ∃ k, n = k + 1 := ⟨n - 1, by omega⟩
    subst h3 h4 h5
    rw [fX8_tryNights_L35, if_neg (fun h => by have := (nI_leI (by omega) (by omega)).mp h; omega), sX8_draw, zbs]
    simp (disch := omega) only [zlit, zz, if_pos, if_neg, if_true, if_false, zgd', zl, zbs, zbz, encz]
    apply ih n (i + 1)
    · omega
    · omega
    · rfl
    · rfl
    · rfl
    · intro j hj
      unfold upd
      by_cases q : j = i
      · rw [if_pos q, q]; rfl
      · rw [if_neg q]; exact h6 j (by omega)
theorem sX10_nights_L44 {r : SR} (s : Int32) (fuel : Nat) (M_guests : Int32) (M_kind : Nat → Int32) (M_figure : Nat → Int32) (M_heaps : Int32) (M_holds : Int32) (M_back : Int32) (M_mistakes : Int32) (M_hooks : Int32) (M_letters : Int32) (M_rule : Nat → Int32) (k35 : Int32 → Int32 → Int32 → (Nat → Int32) → Int32 → (Nat → Int32) → Int32 → (Nat → Int32) → (Nat → Int32) → (Nat → Int32) → (Nat → Int32) → Int32 → (Nat → Int32) → (Nat → Int32) → (Nat → Int32) → (Nat → Int32) → (Nat → Int32) → (Nat → Int32) → (Nat → Int32) → Int32 → Int32 → Int32 → Option (Int32 × (Nat → Int32) × Int32 × (Nat → Int32) × Int32 × (Nat → Int32) × (Nat → Int32) × (Nat → Int32) × (Nat → Int32) × Int32 × (Nat → Int32) × (Nat → Int32) × (Nat → Int32) × (Nat → Int32) × (Nat → Int32) × (Nat → Int32) × (Nat → Int32) × Int32 × Int32 × Int32)) {M_told : Nat → Int32} (hr : okR r) (hm : mR r M_guests M_kind M_figure M_told M_heaps M_holds M_back M_mistakes M_hooks M_letters M_rule) :
    ∀ (m n i : Nat) (v4 : Int32) (v5 : Int32) (v6 : Int32) (v7 : Int32) (M_coming : Nat → Int32) (M_comingMany : Int32) (M_going : Nat → Int32) (M_goingMany : Int32) (M_minute : Nat → Int32) (M_pile : Nat → Int32) (M_high : Nat → Int32) (M_where : Nat → Int32) (M_latest : Int32) (M_lifts : Nat → Int32) (M_begun : Nat → Int32) (M_left : Nat → Int32) (M_has : Nat → Int32) (M_lifted : Nat → Int32) (M_taken : Nat → Int32) (M_above : Nat → Int32) (M_allLifts : Int32) (M_busy : Int32) (M_seed : Int32), i + m = rN r → m < n → v7 = nI i → M_seed = sdS s i → (∀ j, j < i → M_minute j = nI (mnR (rMin r (drM s)) j)) →
      ∃ mr, fX10_nights_L44 fuel M_guests M_kind M_figure M_heaps M_holds M_back M_mistakes M_hooks M_letters M_rule k35 n v4 v5 v6 v7 M_coming M_comingMany M_going M_goingMany M_minute M_pile M_high M_where M_latest M_lifts M_begun M_left M_has M_lifted M_taken M_above M_allLifts M_busy M_seed = fX10_nights_J89 fuel M_guests M_kind M_figure M_heaps M_holds M_back M_mistakes M_hooks M_letters M_rule k35 v4 v5 v6 M_coming M_comingMany M_going M_goingMany mr M_pile M_high M_where M_latest M_lifts M_begun M_left M_has M_lifted M_taken M_above M_allLifts M_busy (sdS s (rN r)) ∧ ∀ j, j < rN r → mr j = nI (mnR (rMin r (drM s)) j) := by
  have hN := hr.1
  intro m
  induction m with
  | zero =>
    intro n i v4 v5 v6 v7 M_coming M_comingMany M_going M_goingMany M_minute M_pile M_high M_where M_latest M_lifts M_begun M_left M_has M_lifted M_taken M_above M_allLifts M_busy M_seed h1 h2 h3 h5 h6
    obtain ⟨n, rfl⟩ : ∃ k, n = k + 1 := ⟨n - 1, by omega⟩
    subst h3 h5
    rw [fX10_nights_L44, hm.1, if_pos ((nI_leI (by omega) (by omega)).mpr (by omega))]
    have e : i = rN r := by omega
    subst e
    exact ⟨_, rfl, h6⟩
  | succ m ih =>
    intro n i v4 v5 v6 v7 M_coming M_comingMany M_going M_goingMany M_minute M_pile M_high M_where M_latest M_lifts M_begun M_left M_has M_lifted M_taken M_above M_allLifts M_busy M_seed h1 h2 h3 h5 h6
    obtain ⟨n, rfl⟩ : ∃ k, n = k + 1 := ⟨n - 1, by omega⟩
    subst h3 h5
    obtain ⟨a1, a2, a3, a4, -, -⟩ := hm.2.1 i (by omega)
    rw [fX10_nights_L44, hm.1, if_neg (fun h => by have := (nI_leI (by omega) (by omega)).mp h; omega), sX10_draw, zbs, zin_nI (by omega), zgd' (by omega), nI_clamp (by omega), a1, a3]
    have hgo := sX10_goesBy (fuel := fuel) (m := drM s i) a2 a4 (by have := dvS_lt (sdS s (i + 1)); unfold drM; omega)
    rw [show dvS (zdr (sdS s i)) = drM s i from rfl, hgo]
    simp (disch := omega) only [zlit, zz, if_pos, if_neg, if_true, if_false, zgd', zl, zbs, zbz, encz]
    rw [← hm.1]
    apply ih n (i + 1)
    · omega
    · omega
    · rfl
    · rfl
    · intro j hj
      unfold upd
      by_cases q : j = i
      · rw [if_pos q, q]; rfl
      · rw [if_neg q]; exact h6 j (by omega)
theorem sX10_nights_L110 {r : SR} {en : Nat → Nat} (fuel : Nat) (M_guests : Int32) (M_kind : Nat → Int32) (M_figure : Nat → Int32) (k35 : Int32 → Int32 → Int32 → (Nat → Int32) → Int32 → (Nat → Int32) → Int32 → (Nat → Int32) → (Nat → Int32) → (Nat → Int32) → (Nat → Int32) → Int32 → (Nat → Int32) → (Nat → Int32) → (Nat → Int32) → (Nat → Int32) → (Nat → Int32) → (Nat → Int32) → (Nat → Int32) → Int32 → Int32 → Int32 → Option (Int32 × (Nat → Int32) × Int32 × (Nat → Int32) × Int32 × (Nat → Int32) × (Nat → Int32) × (Nat → Int32) × (Nat → Int32) × Int32 × (Nat → Int32) × (Nat → Int32) × (Nat → Int32) × (Nat → Int32) × (Nat → Int32) × (Nat → Int32) × (Nat → Int32) × Int32 × Int32 × Int32)) {M_told : Nat → Int32} (hr : okR r) (hg : M_guests = nI (rN r)) (h : kfm (rN r) (rK r) (rF r) (rM r) M_kind M_figure M_told) :
    ∀ (m n i c : Nat) (w : Int32) (v4 : Int32) (v5 : Int32) (v6 : Int32) (v7 : Int32) (M_coming : Nat → Int32) (M_comingMany : Int32) (M_going : Nat → Int32) (M_goingMany : Int32) (M_minute : Nat → Int32) (M_pile : Nat → Int32) (M_high : Nat → Int32) (M_where : Nat → Int32) (M_latest : Int32) (M_lifts : Nat → Int32) (M_begun : Nat → Int32) (M_left : Nat → Int32) (M_has : Nat → Int32) (M_lifted : Nat → Int32) (M_taken : Nat → Int32) (M_above : Nat → Int32) (M_allLifts : Int32) (M_busy : Int32) (M_seed : Int32), i + m = rN r → m < n → v7 = nI i → v5 = w + nI (cntS (msS r en) i) → cM M_minute (mnR r) (rN r) → (∀ x, x < rN r → M_left x = nI (en x) ∧ en x < 2 ^ 30) →
      fX10_nights_L110 fuel M_guests M_kind M_figure k35 n v4 v5 v6 v7 M_coming M_comingMany M_going M_goingMany M_minute M_pile M_high M_where M_latest M_lifts M_begun M_left M_has M_lifted M_taken M_above M_allLifts M_busy M_seed = fX10_nights_J144 k35 v4 (w + nI (cntS (msS r en) (rN r))) v6 M_coming M_comingMany M_going M_goingMany M_minute M_pile M_high M_where M_latest M_lifts M_begun M_left M_has M_lifted M_taken M_above M_allLifts M_busy M_seed := by
  have hN := hr.1
  subst hg
  intro m
  induction m with
  | zero =>
    intro n i c w v4 v5 v6 v7 M_coming M_comingMany M_going M_goingMany M_minute M_pile M_high M_where M_latest M_lifts M_begun M_left M_has M_lifted M_taken M_above M_allLifts M_busy M_seed h1 h2 h3 h4 h5 h6
    obtain ⟨n, rfl⟩ : ∃ k, n = k + 1 := ⟨n - 1, by omega⟩
    subst h3 h4
    rw [fX10_nights_L110, if_pos ((nI_leI (by omega) (by omega)).mpr (by omega)), show i = rN r by omega]
  | succ m ih =>
    intro n i c w v4 v5 v6 v7 M_coming M_comingMany M_going M_goingMany M_minute M_pile M_high M_where M_latest M_lifts M_begun M_left M_has M_lifted M_taken M_above M_allLifts M_busy M_seed h1 h2 h3 h4 h5 h6
    obtain ⟨n, rfl⟩ : ∃ k, n = k + 1 := ⟨n - 1, by omega⟩
    subst h3 h4
    have hi : i < rN r := by omega
    rw [fX10_nights_L110, if_neg (fun h => by have := (nI_leI (by omega) (by omega)).mp h; omega), sX10_misses hr h (h6 i hi).1 (h6 i hi).2 h5 hi, zbs]
    cases q : msS r en i with
    | false =>
      simp (disch := omega) only [zlit, zz, if_pos, if_neg, if_true, if_false, zgd', zl, zbs, zbz, encz, zadd0]
      apply ih n (i + 1) c w
      · omega
      · omega
      · rfl
      · rw [cntS]; simp [q]
      · exact h5
      · exact h6
    | true =>
      simp (disch := omega) only [zlit, zz, if_pos, if_neg, if_true, if_false, zgd', zl, zbs, zbz, encz]
      apply ih n (i + 1) c w
      · omega
      · omega
      · rfl
      · rw [cntS, Int32.add_assoc]; simp [q, nI_add]
      · exact h5
      · exact h6
def ntA (r : SR) (M : Nat → Nat) : Nat := sAll (nightR (rMin r M))
def ntB (r : SR) (M : Nat → Nat) : Nat := cntS (msS (rMin r M) (nightR (rMin r M)).2.2.2.2.1) (rN r)
theorem drM_lt (s : Int32) (j : Nat) : drM s j < 200 := by
  have := dvS_lt (sdS s (j + 1))
  unfold drM
  omega
theorem rMin2 {r : SR} {M0 M : Nat → Nat} : rMin (rMin r M0) M = rMin r M := rfl
theorem sX8_nightJ {r : SR} {M0 M : Nat → Nat} (fuel : Nat) (ad_t : Nat → Nat) (k26 : Int32 → Int32 → Int32 → Int32 → Int32 → (Nat → Int32) → (Nat → Int32) → (Nat → Int32) → (Nat → Int32) → Int32 → (Nat → Int32) → Int32 → (Nat → Int32) → (Nat → Int32) → (Nat → Int32) → (Nat → Int32) → (Nat → Int32) → (Nat → Int32) → (Nat → Int32) → (Nat → Int32) → Int32 → Int32 → (Nat → Int32) → (Nat → Int32) → Int32 → Int32 → Int32 → (Nat → Nat → Int32) → (Nat → Int32) → (Nat → Int32) → Nat → Option (Int32 × Int32 × Int32 × Int32 × (Nat → Int32) × (Nat → Int32) × (Nat → Int32) × (Nat → Int32) × Int32 × (Nat → Int32) × Int32 × Nat × (Nat → Int32) × (Nat → Int32) × (Nat → Int32) × (Nat → Int32) × (Nat → Int32) × (Nat → Int32) × (Nat → Int32) × (Nat → Int32) × Int32 × Int32 × (Nat → Int32) × (Nat → Int32) × Int32 × Int32 × Int32 × (Nat → Nat → Int32) × (Nat → Int32) × (Nat → Int32))) (v4 : Int32) (v5 : Int32) (q_seed : Int32) (q_sumOfLifts : Int32) (q_sumOfMissers : Int32) (t_guests : Int32) (t_kinds : Nat → Int32) (t_figures : Nat → Int32) (t_minutes : Nat → Int32) (t_settings : Nat → Int32) (t_hooks : Int32) (t_letters : Nat → Int32) (t_letterCount : Int32) (n_order : Nat → Int32) (n_weights : Nat → Int32) (n_black : Nat → Int32) (n_lifts : Nat → Int32) (n_begins : Nat → Int32) (n_ends : Nat → Int32) (n_has : Nat → Int32) (n_lifted : Nat → Int32) (n_allLifts : Int32) (n_doneAt : Int32) (y_going : Nat → Int32) (y_coming : Nat → Int32) (y_holds : Int32) (y_latest : Int32) (b_heaps : Int32) (b_piles : Nat → Nat → Int32) (b_heights : Nat → Int32) (b_spots : Nat → Int32) (n_room : Nat) (hf : 100 < fuel) (hr : okR r) (hMl : ∀ j, j < rN r → M j < 200) (hc : cR (rMin r M0) t_guests t_kinds t_figures t_minutes t_settings t_hooks t_letters t_letterCount) (tm : Nat → Int32) (ht : ∀ j, j < rN r → tm j = nI (M j)) :
    ∃ y : Int32 × (Nat → Int32) × (Nat → Int32) × (Nat → Int32) × (Nat → Int32) × (Nat → Int32) × (Nat → Int32) × (Nat → Int32) × (Nat → Int32) × Int32 × Int32 × (Nat → Int32) × (Nat → Int32) × Int32 × Int32 × Int32 × (Nat → Nat → Int32) × (Nat → Int32) × (Nat → Int32), fX8_tryNights_J69 fuel ad_t k26 v4 q_seed q_sumOfLifts q_sumOfMissers t_guests t_kinds t_figures tm t_settings t_hooks t_letters t_letterCount n_order n_weights n_black n_lifts n_begins n_ends n_has n_lifted n_allLifts n_doneAt y_going y_coming y_holds y_latest b_heaps b_piles b_heights b_spots n_room = k26 (v4 + nI 1) q_seed (q_sumOfLifts + nI (ntA r M)) (q_sumOfMissers + nI (ntB r M)) t_guests t_kinds t_figures tm t_settings t_hooks t_letters t_letterCount y.2.1 y.2.2.1 y.2.2.2.1 y.2.2.2.2.1 y.2.2.2.2.2.1 y.2.2.2.2.2.2.1 y.2.2.2.2.2.2.2.1 y.2.2.2.2.2.2.2.2.1 y.2.2.2.2.2.2.2.2.2.1 y.2.2.2.2.2.2.2.2.2.2.1 y.2.2.2.2.2.2.2.2.2.2.2.1 y.2.2.2.2.2.2.2.2.2.2.2.2.1 y.2.2.2.2.2.2.2.2.2.2.2.2.2.1 y.2.2.2.2.2.2.2.2.2.2.2.2.2.2.1 y.2.2.2.2.2.2.2.2.2.2.2.2.2.2.2.1 y.2.2.2.2.2.2.2.2.2.2.2.2.2.2.2.2.1 y.2.2.2.2.2.2.2.2.2.2.2.2.2.2.2.2.2.1 y.2.2.2.2.2.2.2.2.2.2.2.2.2.2.2.2.2.2 (ad_t 0) ∧ cR (rMin r M) t_guests t_kinds t_figures tm t_settings t_hooks t_letters t_letterCount := by
  have hr2 : okR (rMin r M) := ok_min hr hMl
  have hc2 : cR (rMin r M) t_guests t_kinds t_figures tm t_settings t_hooks t_letters t_letterCount := by
    have := cR_min (M := M) hc (fun j hj => ⟨ht j hj, hMl j hj⟩)
    rw [rMin2] at this
    exact this
  obtain ⟨y, y1, y2, y3, y4, -, ⟨g1, g2, g3, -⟩, -⟩ := sX3_pass hf hr2 hc2 n_order n_weights n_black n_lifts n_begins n_ends n_has n_lifted n_allLifts n_doneAt y_going y_coming y_holds y_latest b_heaps b_piles b_heights b_spots
  refine ⟨y, ?_, hc2⟩
  have hH := HI_night hr2
  have hmi := sX3_missers (en := (nightR (rMin r M)).2.2.2.2.1) hf hr2 hc2.2.1 (fun x hx => (g2 x hx (by simp)).2) (fun x _ => by have := hH.2.2.2.1 x; omega) y4
  rw [← hc2.1] at hmi
  have hpb := pop_bset (msS (rMin r M) (nightR (rMin r M)).2.2.2.2.1) (rN (rMin r M)) hr2.1
  have hbc := sJ6_bitCount (fuel := fuel) (bset_1024 (p := msS (rMin r M) (nightR (rMin r M)).2.2.2.2.1) hr2.1)
  rw [hpb] at hbc
  unfold fX8_tryNights_J69
  rw [y1, zbs, zl, hmi, zbs, hbc, zbs, zl, zl, y2]
  rfl
theorem sX10_nightJ {r : SR} {M : Nat → Nat} (fuel : Nat) (M_guests : Int32) (M_kind : Nat → Int32) (M_figure : Nat → Int32) (M_heaps : Int32) (M_holds : Int32) (M_back : Int32) (M_mistakes : Int32) (M_hooks : Int32) (M_letters : Int32) (M_rule : Nat → Int32) (k35 : Int32 → Int32 → Int32 → (Nat → Int32) → Int32 → (Nat → Int32) → Int32 → (Nat → Int32) → (Nat → Int32) → (Nat → Int32) → (Nat → Int32) → Int32 → (Nat → Int32) → (Nat → Int32) → (Nat → Int32) → (Nat → Int32) → (Nat → Int32) → (Nat → Int32) → (Nat → Int32) → Int32 → Int32 → Int32 → Option (Int32 × (Nat → Int32) × Int32 × (Nat → Int32) × Int32 × (Nat → Int32) × (Nat → Int32) × (Nat → Int32) × (Nat → Int32) × Int32 × (Nat → Int32) × (Nat → Int32) × (Nat → Int32) × (Nat → Int32) × (Nat → Int32) × (Nat → Int32) × (Nat → Int32) × Int32 × Int32 × Int32)) (v4 : Int32) (v5 : Int32) (v6 : Int32) (v7 : Int32) (M_coming : Nat → Int32) (M_comingMany : Int32) (M_going : Nat → Int32) (M_goingMany : Int32) (M_minute : Nat → Int32) (M_pile : Nat → Int32) (M_high : Nat → Int32) (M_where : Nat → Int32) (M_latest : Int32) (M_lifts : Nat → Int32) (M_begun : Nat → Int32) (M_left : Nat → Int32) (M_has : Nat → Int32) (M_lifted : Nat → Int32) (M_taken : Nat → Int32) (M_above : Nat → Int32) (M_allLifts : Int32) (M_busy : Int32) (M_seed : Int32) {M_told : Nat → Int32} (hf : 100 < fuel) (hr : okR r) (hMl : ∀ j, j < rN r → M j < 200) (hm : mR r M_guests M_kind M_figure M_told M_heaps M_holds M_back M_mistakes M_hooks M_letters M_rule) (mr : Nat → Int32) (hmr : ∀ j, j < rN r → mr j = nI (mnR (rMin r M) j)) :
    ∃ x : (Nat → Int32) × Int32 × (Nat → Int32) × Int32 × (Nat → Int32) × (Nat → Int32) × (Nat → Int32) × (Nat → Int32) × Int32 × (Nat → Int32) × (Nat → Int32) × (Nat → Int32) × (Nat → Int32) × (Nat → Int32) × (Nat → Int32) × (Nat → Int32) × Int32 × Int32, fX10_nights_J89 fuel M_guests M_kind M_figure M_heaps M_holds M_back M_mistakes M_hooks M_letters M_rule k35 v4 v5 v6 M_coming M_comingMany M_going M_goingMany mr M_pile M_high M_where M_latest M_lifts M_begun M_left M_has M_lifted M_taken M_above M_allLifts M_busy M_seed = k35 (v4 + nI (ntA r M)) (v5 + nI (ntB r M)) (v6 + nI 1) x.1 x.2.1 x.2.2.1 x.2.2.2.1 x.2.2.2.2.1 x.2.2.2.2.2.1 x.2.2.2.2.2.2.1 x.2.2.2.2.2.2.2.1 x.2.2.2.2.2.2.2.2.1 x.2.2.2.2.2.2.2.2.2.1 x.2.2.2.2.2.2.2.2.2.2.1 x.2.2.2.2.2.2.2.2.2.2.2.1 x.2.2.2.2.2.2.2.2.2.2.2.2.1 x.2.2.2.2.2.2.2.2.2.2.2.2.2.1 x.2.2.2.2.2.2.2.2.2.2.2.2.2.2.1 x.2.2.2.2.2.2.2.2.2.2.2.2.2.2.2.1 x.2.2.2.2.2.2.2.2.2.2.2.2.2.2.2.2.1 x.2.2.2.2.2.2.2.2.2.2.2.2.2.2.2.2.2 M_seed := by
  have hr2 : okR (rMin r M) := ok_min hr hMl
  have hm2 := mR_min (M := M) hm hMl
  have hM2 : cM mr (mnR (rMin r M)) (rN (rMin r M)) := fun j hj => ⟨hmr j hj, mnR_lt hr2 hj⟩
  obtain ⟨c, g, w, w1, w2, w3, w4, w5, w6⟩ := sX10_nightM hf hr2 ⟨_, hm2⟩ hM2 M_coming M_comingMany M_going M_goingMany M_pile M_high M_where M_latest M_lifts M_begun M_left M_has M_lifted M_taken M_above M_allLifts M_busy
  have hH := HI_night hr2
  have hl := sX10_nights_L110 (r := rMin r M) (en := (nightR (rMin r M)).2.2.2.2.1) fuel M_guests M_kind M_figure k35 hr2 hm2.1 hm2.2.1 (rN (rMin r M)) fuel 0 0 v5 (v4 + w.1) v5 v6 0 c.1 c.2 g.1 g.2 mr w.2.1 w.2.2.1 w.2.2.2.1 w.2.2.2.2.1 w.2.2.2.2.2.1 w.2.2.2.2.2.2.1 w.2.2.2.2.2.2.2.1 w.2.2.2.2.2.2.2.2.1 w.2.2.2.2.2.2.2.2.2.1 w.2.2.2.2.2.2.2.2.2.2.1 w.2.2.2.2.2.2.2.2.2.2.2.1 w.2.2.2.2.2.2.2.2.2.2.2.2.1 w.2.2.2.2.2.2.2.2.2.2.2.2.2 M_seed (Nat.zero_add _) (by have := hr2.1; omega) rfl (zadd0 v5).symm hM2 (fun x hx => ⟨w6 x hx, by have := hH.2.2.2.1 x; omega⟩)
  have e1 : (-1 : Int32) = zAw := rfl
  unfold fX10_nights_J89
  rw [e1, w1, zbs, w2, zbs, w3, zbs, zl, hl]
  unfold fX10_nights_J144
  rw [zl, w4]
  exact ⟨(c.1, c.2, g.1, g.2, mr, w.2.1, w.2.2.1, w.2.2.2.1, w.2.2.2.2.1, w.2.2.2.2.2.1, w.2.2.2.2.2.2.1, w.2.2.2.2.2.2.2.1, w.2.2.2.2.2.2.2.2.1, w.2.2.2.2.2.2.2.2.2.1, w.2.2.2.2.2.2.2.2.2.2.1, w.2.2.2.2.2.2.2.2.2.2.2.1, w.2.2.2.2.2.2.2.2.2.2.2.2.1, w.2.2.2.2.2.2.2.2.2.2.2.2.2), rfl⟩
theorem u_nights_L {r : SR} {a : Nat} (fuel : Nat) (ad_t : Nat → Nat) (p2 : Int32) (M_guests : Int32) (M_kind : Nat → Int32) (M_figure : Nat → Int32) (M_heaps : Int32) (M_holds : Int32) (M_back : Int32) (M_mistakes : Int32) (M_hooks : Int32) (M_letters : Int32) (M_rule : Nat → Int32) (p1 : Int32) (p3 : Int32) {M_told : Nat → Int32} (hf : 100 < fuel) (hr : okR r) (hm : mR r M_guests M_kind M_figure M_told M_heaps M_holds M_back M_mistakes M_hooks M_letters M_rule) (ha : a ≤ 20) (hp2 : p2 = nI a) (hp1 : p1 = nI a) :
    ∀ (m n i : Nat) (s sl sm : Int32) (M0 : Nat → Nat) (t_guests : Int32) (t_kinds : Nat → Int32) (t_figures : Nat → Int32) (t_minutes : Nat → Int32) (t_settings : Nat → Int32) (t_hooks : Int32) (t_letters : Nat → Int32) (t_letterCount : Int32) (n_order : Nat → Int32) (n_weights : Nat → Int32) (n_black : Nat → Int32) (n_lifts : Nat → Int32) (n_begins : Nat → Int32) (n_ends : Nat → Int32) (n_has : Nat → Int32) (n_lifted : Nat → Int32) (n_allLifts : Int32) (n_doneAt : Int32) (y_going : Nat → Int32) (y_coming : Nat → Int32) (y_holds : Int32) (y_latest : Int32) (b_heaps : Int32) (b_piles : Nat → Nat → Int32) (b_heights : Nat → Int32) (b_spots : Nat → Int32) (n_room : Nat) (M_coming : Nat → Int32) (M_comingMany : Int32) (M_going : Nat → Int32) (M_goingMany : Int32) (M_minute : Nat → Int32) (M_pile : Nat → Int32) (M_high : Nat → Int32) (M_where : Nat → Int32) (M_latest : Int32) (M_lifts : Nat → Int32) (M_begun : Nat → Int32) (M_left : Nat → Int32) (M_has : Nat → Int32) (M_lifted : Nat → Int32) (M_taken : Nat → Int32) (M_above : Nat → Int32) (M_allLifts : Int32) (M_busy : Int32) (M_seed : Int32), i + m = a → m < n → M_seed = s → cR (rMin r M0) t_guests t_kinds t_figures t_minutes t_settings t_hooks t_letters t_letterCount →
      ∃ o p, fX8_tryNights_L26 fuel ad_t p2 n (nI i) s sl sm t_guests t_kinds t_figures t_minutes t_settings t_hooks t_letters t_letterCount n_order n_weights n_black n_lifts n_begins n_ends n_has n_lifted n_allLifts n_doneAt y_going y_coming y_holds y_latest b_heaps b_piles b_heights b_spots n_room = some o ∧ fX10_nights_L35 fuel M_guests M_kind M_figure M_heaps M_holds M_back M_mistakes M_hooks M_letters M_rule p1 p3 n sl sm (nI i) M_coming M_comingMany M_going M_goingMany M_minute M_pile M_high M_where M_latest M_lifts M_begun M_left M_has M_lifted M_taken M_above M_allLifts M_busy M_seed = some p ∧ p.1 = if p3 = nI 0 then o.2.1 else o.2.2.1 := by
  have hN := hr.1
  subst hp1 hp2
  intro m
  induction m with
  | zero =>
    intro n i s sl sm M0 t_guests t_kinds t_figures t_minutes t_settings t_hooks t_letters t_letterCount n_order n_weights n_black n_lifts n_begins n_ends n_has n_lifted n_allLifts n_doneAt y_going y_coming y_holds y_latest b_heaps b_piles b_heights b_spots n_room M_coming M_comingMany M_going M_goingMany M_minute M_pile M_high M_where M_latest M_lifts M_begun M_left M_has M_lifted M_taken M_above M_allLifts M_busy M_seed h1 h2 h3 h4
    obtain ⟨n, rfl⟩ : ∃ k, n = k + 1 := ⟨n - 1, by omega⟩
    subst h3
    rw [fX8_tryNights_L26, fX10_nights_L35]
    simp (disch := omega) only [zlit, zz, if_pos, if_neg, if_true, if_false, zgd', zl, zbs, zbz, encz, fX10_nights_J150]
    by_cases q : p3 = nI 0
    · rw [if_pos q]; exact ⟨_, _, rfl, rfl, by rw [if_pos q]⟩
    · rw [if_neg q]; exact ⟨_, _, rfl, rfl, by rw [if_neg q]⟩
  | succ m ih =>
    intro n i s sl sm M0 t_guests t_kinds t_figures t_minutes t_settings t_hooks t_letters t_letterCount n_order n_weights n_black n_lifts n_begins n_ends n_has n_lifted n_allLifts n_doneAt y_going y_coming y_holds y_latest b_heaps b_piles b_heights b_spots n_room M_coming M_comingMany M_going M_goingMany M_minute M_pile M_high M_where M_latest M_lifts M_begun M_left M_has M_lifted M_taken M_above M_allLifts M_busy M_seed h1 h2 h3 h4
    obtain ⟨n, rfl⟩ : ∃ k, n = k + 1 := ⟨n - 1, by omega⟩
    subst h3
    rw [fX8_tryNights_L26, if_neg (fun h => by have := (nI_leI (by omega) (by omega)).mp h; omega)]
    rw [fX10_nights_L35, if_neg (fun h => by have := (nI_leI (by omega) (by omega)).mp h; omega)]
    obtain ⟨tm, t1, t2⟩ := sX8_nights_L35 (N := rN r) M_seed fuel ad_t (fX8_tryNights_L26 fuel ad_t (nI a) n) hN (rN r) fuel 0 (nI i) 0 M_seed sl sm t_guests t_kinds t_figures t_minutes t_settings t_hooks t_letters t_letterCount n_order n_weights n_black n_lifts n_begins n_ends n_has n_lifted n_allLifts n_doneAt y_going y_coming y_holds y_latest b_heaps b_piles b_heights b_spots n_room (by omega) (by omega) rfl h4.1 rfl (fun j hj => absurd hj (Nat.not_lt_zero j))
    obtain ⟨mr, u1, u2⟩ := sX10_nights_L44 M_seed fuel M_guests M_kind M_figure M_heaps M_holds M_back M_mistakes M_hooks M_letters M_rule (fX10_nights_L35 fuel M_guests M_kind M_figure M_heaps M_holds M_back M_mistakes M_hooks M_letters M_rule (nI a) p3 n) hr hm (rN r) fuel 0 sl sm (nI i) 0 M_coming M_comingMany M_going M_goingMany M_minute M_pile M_high M_where M_latest M_lifts M_begun M_left M_has M_lifted M_taken M_above M_allLifts M_busy M_seed (by omega) (by omega) rfl rfl (fun j hj => absurd hj (Nat.not_lt_zero j))
    obtain ⟨y, y1, y2⟩ := sX8_nightJ (M := drM M_seed) fuel ad_t (fX8_tryNights_L26 fuel ad_t (nI a) n) (nI i) 0 (sdS M_seed (rN r)) sl sm t_guests t_kinds t_figures t_minutes t_settings t_hooks t_letters t_letterCount n_order n_weights n_black n_lifts n_begins n_ends n_has n_lifted n_allLifts n_doneAt y_going y_coming y_holds y_latest b_heaps b_piles b_heights b_spots n_room hf hr (fun j _ => drM_lt M_seed j) h4 tm t2
    obtain ⟨x, x1⟩ := sX10_nightJ (M := drM M_seed) fuel M_guests M_kind M_figure M_heaps M_holds M_back M_mistakes M_hooks M_letters M_rule (fX10_nights_L35 fuel M_guests M_kind M_figure M_heaps M_holds M_back M_mistakes M_hooks M_letters M_rule (nI a) p3 n) sl sm (nI i) 0 M_coming M_comingMany M_going M_goingMany M_minute M_pile M_high M_where M_latest M_lifts M_begun M_left M_has M_lifted M_taken M_above M_allLifts M_busy (sdS M_seed (rN r)) hf hr (fun j _ => drM_lt M_seed j) hm mr u2
    rw [t1, u1, y1, x1, nI_add]
    exact ih n (i + 1) (sdS M_seed (rN r)) (sl + nI (ntA r (drM M_seed))) (sm + nI (ntB r (drM M_seed))) (drM M_seed) t_guests t_kinds t_figures tm t_settings t_hooks t_letters t_letterCount y.2.1 y.2.2.1 y.2.2.2.1 y.2.2.2.2.1 y.2.2.2.2.2.1 y.2.2.2.2.2.2.1 y.2.2.2.2.2.2.2.1 y.2.2.2.2.2.2.2.2.1 y.2.2.2.2.2.2.2.2.2.1 y.2.2.2.2.2.2.2.2.2.2.1 y.2.2.2.2.2.2.2.2.2.2.2.1 y.2.2.2.2.2.2.2.2.2.2.2.2.1 y.2.2.2.2.2.2.2.2.2.2.2.2.2.1 y.2.2.2.2.2.2.2.2.2.2.2.2.2.2.1 y.2.2.2.2.2.2.2.2.2.2.2.2.2.2.2.1 y.2.2.2.2.2.2.2.2.2.2.2.2.2.2.2.2.1 y.2.2.2.2.2.2.2.2.2.2.2.2.2.2.2.2.2.1 y.2.2.2.2.2.2.2.2.2.2.2.2.2.2.2.2.2.2 (ad_t 0) x.1 x.2.1 x.2.2.1 x.2.2.2.1 x.2.2.2.2.1 x.2.2.2.2.2.1 x.2.2.2.2.2.2.1 x.2.2.2.2.2.2.2.1 x.2.2.2.2.2.2.2.2.1 x.2.2.2.2.2.2.2.2.2.1 x.2.2.2.2.2.2.2.2.2.2.1 x.2.2.2.2.2.2.2.2.2.2.2.1 x.2.2.2.2.2.2.2.2.2.2.2.2.1 x.2.2.2.2.2.2.2.2.2.2.2.2.2.1 x.2.2.2.2.2.2.2.2.2.2.2.2.2.2.1 x.2.2.2.2.2.2.2.2.2.2.2.2.2.2.2.1 x.2.2.2.2.2.2.2.2.2.2.2.2.2.2.2.2.1 x.2.2.2.2.2.2.2.2.2.2.2.2.2.2.2.2.2 (sdS M_seed (rN r)) (by omega) (by omega) rfl y2
theorem u_nights {r : SR} (fuel : Nat) (d_guests : Int32) (d_kinds : Nat → Int32) (d_figures : Nat → Int32) (d_minutes : Nat → Int32) (d_settings : Nat → Int32) (d_hooks : Int32) (d_letters : Nat → Int32) (d_letterCount : Int32) (q_seed : Int32) (q_sumOfLifts : Int32) (q_sumOfMissers : Int32) (t_guests : Int32) (t_kinds : Nat → Int32) (t_figures : Nat → Int32) (t_minutes : Nat → Int32) (t_settings : Nat → Int32) (t_hooks : Int32) (t_letters : Nat → Int32) (t_letterCount : Int32) (m_room : Nat) (m_order : Nat → Int32) (m_weights : Nat → Int32) (m_black : Nat → Int32) (m_lifts : Nat → Int32) (m_begins : Nat → Int32) (m_ends : Nat → Int32) (m_has : Nat → Int32) (m_lifted : Nat → Int32) (m_allLifts : Int32) (m_doneAt : Int32) (z_going : Nat → Int32) (z_coming : Nat → Int32) (z_holds : Int32) (z_latest : Int32) (c_heaps : Int32) (c_piles : Nat → Nat → Int32) (c_heights : Nat → Int32) (c_spots : Nat → Int32) (ad_t : Nat → Nat) (p1 : Int32) (p2 : Int32) (p3 : Int32) (M_guests : Int32) (M_kind : Nat → Int32) (M_figure : Nat → Int32) (M_heaps : Int32) (M_holds : Int32) (M_back : Int32) (M_mistakes : Int32) (M_hooks : Int32) (M_letters : Int32) (M_rule : Nat → Int32) (M_coming : Nat → Int32) (M_comingMany : Int32) (M_going : Nat → Int32) (M_goingMany : Int32) (M_minute : Nat → Int32) (M_pile : Nat → Int32) (M_high : Nat → Int32) (M_where : Nat → Int32) (M_latest : Int32) (M_lifts : Nat → Int32) (M_begun : Nat → Int32) (M_left : Nat → Int32) (M_has : Nat → Int32) (M_lifted : Nat → Int32) (M_taken : Nat → Int32) (M_above : Nat → Int32) (M_allLifts : Int32) (M_busy : Int32) (M_seed : Int32) (M_told : Nat → Int32) (hf : 100 < fuel) (hr : okR r) (hc : cR r d_guests d_kinds d_figures d_minutes d_settings d_hooks d_letters d_letterCount) (hm : mR r M_guests M_kind M_figure M_told M_heaps M_holds M_back M_mistakes M_hooks M_letters M_rule) : ∃ o p, fX9_nights fuel d_guests d_kinds d_figures d_minutes d_settings d_hooks d_letters d_letterCount q_seed q_sumOfLifts q_sumOfMissers t_guests t_kinds t_figures t_minutes t_settings t_hooks t_letters t_letterCount m_room m_order m_weights m_black m_lifts m_begins m_ends m_has m_lifted m_allLifts m_doneAt z_going z_coming z_holds z_latest c_heaps c_piles c_heights c_spots ad_t p1 p2 p3 = some o ∧ fX10_nights fuel M_guests M_kind M_figure M_heaps M_holds M_back M_mistakes M_hooks M_letters M_rule M_coming M_comingMany M_going M_goingMany M_minute M_pile M_high M_where M_latest M_lifts M_begun M_left M_has M_lifted M_taken M_above M_allLifts M_busy M_seed p1 p2 p3 = some p ∧ o.1 = p.1 := by
  unfold fX9_nights fX10_nights
  have e0 : (0 : Int32) = nI 0 := rfl
  have e1 : (1 : Int32) = nI 1 := rfl
  have e20 : (20 : Int32) = nI 20 := rfl
  rw [e0, e1, e20, sX10_isIn, zbs]
  rcases icase p1 with h | ⟨k, hk, rfl⟩
  · rw [if_pos ((zneg h).2.2.1 1 (by decide) ▸ trivial), decide_eq_false (fun q => by rw [(zneg h).1 1 (by decide)] at q; exact q.1), if_pos (show zb01 false = nI 0 from rfl)]
    exact ⟨_, _, rfl, rfl, rfl⟩
  · by_cases q1 : k < 1
    · rw [if_pos ((nI_ltI hk (by decide)).mpr q1), decide_eq_false (fun q => by have := (nI_leI (by decide) hk).mp q.1; omega), if_pos (show zb01 false = nI 0 from rfl)]
      exact ⟨_, _, rfl, rfl, rfl⟩
    · rw [if_neg (fun h => q1 ((nI_ltI hk (by decide)).mp h))]
      by_cases q2 : 20 < k
      · rw [if_pos ((nI_ltI (by decide) hk).mpr q2), decide_eq_false (fun q => by have := (nI_leI hk (by decide)).mp q.2; omega), if_pos (show zb01 false = nI 0 from rfl)]
        exact ⟨_, _, rfl, rfl, rfl⟩
      · rw [if_neg (fun h => q2 ((nI_ltI (by decide) hk).mp h)), decide_eq_true ⟨(nI_leI (by decide) hk).mpr (by omega), (nI_leI hk (by decide)).mpr (by omega)⟩, if_neg (show ¬ zb01 true = nI 0 from z10)]
        rcases fs_case (fuel := fuel) p3 with ⟨h01, b1, b2⟩ | ⟨b1, b2⟩
        · rw [b1, b2, zbs, zbs, if_neg z10, if_neg z10]
          unfold fX8_tryNights
          obtain ⟨c, c1, c2⟩ := sX5_copyFrom hr hc fuel t_guests t_kinds t_figures t_minutes t_settings t_hooks t_letters t_letterCount
          rw [c1, zbs]
          obtain ⟨o, p, o1, o2, o3⟩ := u_nights_L (r := r) (a := k) fuel ad_t (nI k) M_guests M_kind M_figure M_heaps M_holds M_back M_mistakes M_hooks M_letters M_rule (nI k) p3 hf hr hm (by omega) rfl rfl k fuel 0 p2 0 0 (rM r) c.1 c.2.1 c.2.2.1 c.2.2.2.1 c.2.2.2.2.1 c.2.2.2.2.2.1 c.2.2.2.2.2.2.1 c.2.2.2.2.2.2.2 m_order m_weights m_black m_lifts m_begins m_ends m_has m_lifted m_allLifts m_doneAt z_going z_coming z_holds z_latest c_heaps c_piles c_heights c_spots m_room M_coming M_comingMany M_going M_goingMany M_minute M_pile M_high M_where M_latest M_lifts M_begun M_left M_has M_lifted M_taken M_above M_allLifts M_busy p2 (by omega) (by omega) rfl c2
          rw [e0] at o1 o2 ⊢
          rw [o1, o2, zbs]
          by_cases q : p3 = nI 0
          · rw [if_pos q]
            rw [if_pos q] at o3
            exact ⟨_, _, rfl, rfl, o3.symm⟩
          · rw [if_neg q]
            rw [if_neg q] at o3
            exact ⟨_, _, rfl, rfl, o3.symm⟩
        · rw [b1, b2, zbs, zbs, if_pos z00, if_pos z00]
          exact ⟨_, _, rfl, rfl, rfl⟩
