/-! The call: two. -/
def rs1 (f g : Nat → Nat) (k c : Nat) : Bool := decide (f k ≤ f (c * 3 + (k - k / 3 * 3))) && decide (g k ≤ g (k / 3 * 3 + c))
def rsA (f g : Nat → Nat) (k : Nat) : Nat → Nat → Bool
  | 0, _ => true
  | m + 1, c => rs1 f g k c && rsA f g k m (c + 1)
theorem sX8_rests_L11 {f g : Nat → Nat} {k : Nat} {qf qo : Nat → Int32} (hk : k < 9) (hF : ∀ j, j < 9 → qf j = nI (f j) ∧ f j ≤ 1000) (hG : ∀ j, j < 9 → qo j = nI (g j) ∧ g j ≤ 1000) :
    ∀ (m n c : Nat), c + m = 3 → m < n → fX8_rests_L11 qf qo (nI k) n (nI (k / 3)) (nI (k - k / 3 * 3)) (nI c) = some (zb01 (rsA f g k m c)) := by
  intro m
  induction m with
  | zero =>
    intro n c h1 h2
    obtain ⟨n, rfl⟩ : ∃ k, n = k + 1 := ⟨n - 1, by omega⟩
    rw [fX8_rests_L11]
    simp (disch := omega) only [zlit, zz, if_pos, if_neg, if_true, if_false, zgd', zl, zbs, zbz, encz]
    rfl
  | succ m ih =>
    intro n c h1 h2
    obtain ⟨n, rfl⟩ : ∃ k, n = k + 1 := ⟨n - 1, by omega⟩
    obtain ⟨f1, f2⟩ := hF (c * 3 + (k - k / 3 * 3)) (by omega)
    obtain ⟨f3, f4⟩ := hF k hk
    obtain ⟨g1, g2⟩ := hG (k / 3 * 3 + c) (by omega)
    obtain ⟨g3, g4⟩ := hG k hk
    rw [fX8_rests_L11, rsA, rs1]
    by_cases q1 : f k ≤ f (c * 3 + (k - k / 3 * 3))
    · by_cases q2 : g k ≤ g (k / 3 * 3 + c)
      · simp (disch := omega) only [zlit, zz, if_pos, if_neg, if_true, if_false, zgd', zl, zbs, zbz, encz, f1, f3, g1, g3]
        rw [ih n (c + 1) (by omega) (by omega)]
        simp [q1, q2]
      · simp (disch := omega) only [zlit, zz, if_pos, if_neg, if_true, if_false, zgd', zl, zbs, zbz, encz, f1, f3, g1, g3]
        simp [q1, q2, zb01]
    · simp (disch := omega) only [zlit, zz, if_pos, if_neg, if_true, if_false, zgd', zl, zbs, zbz, encz, f1, f3, g1, g3]
      simp [q1, zb01]
theorem sX8_rests {fuel k : Nat} {f g : Nat → Nat} {qf qo : Nat → Int32} (hf : 100 < fuel) (hk : k < 9) (hF : ∀ j, j < 9 → qf j = nI (f j) ∧ f j ≤ 1000) (hG : ∀ j, j < 9 → qo j = nI (g j) ∧ g j ≤ 1000) : fX8_rests fuel qf qo (nI k) = some (zb01 (rsA f g k 3 0)) := by
  unfold fX8_rests
  have h1 : nI k / nI 3 = nI (k / 3) := pk_div (by omega) (by decide) (by decide)
  simp (disch := omega) only [zlit, zz, if_pos, if_neg, if_true, if_false, zgd', zl, zbs, zbz, encz, h1]
  exact sX8_rests_L11 hk hF hG 3 fuel 0 (by omega) (by omega)
/-- the pair that is found -/
def prS (P : Nat → Bool) : Nat → Nat → Option Nat
  | 0, _ => none
  | m + 1, k => if P k = true then some k else prS P m (k + 1)
def encP (o : Option Nat) : Int32 := match o with | none => zNo | some k => nI (10 * (k / 3) + (k - k / 3 * 3))
theorem sX8_two_L107 {f g : Nat → Nat} (fuel : Nat) (hf : 100 < fuel) :
    ∀ (m n k : Nat) (q_firstsLifts : Nat → Int32) (q_othersLifts : Nat → Int32) (t_guests : Int32) (t_kinds : Nat → Int32) (t_figures : Nat → Int32) (t_minutes : Nat → Int32) (t_settings : Nat → Int32) (t_hooks : Int32) (t_letters : Nat → Int32) (t_letterCount : Int32) (n_order : Nat → Int32) (n_weights : Nat → Int32) (n_black : Nat → Int32) (n_lifts : Nat → Int32) (n_begins : Nat → Int32) (n_ends : Nat → Int32) (n_has : Nat → Int32) (n_lifted : Nat → Int32) (n_allLifts : Int32) (n_doneAt : Int32) (y_going : Nat → Int32) (y_coming : Nat → Int32) (y_holds : Int32) (y_latest : Int32) (b_heaps : Int32) (b_piles : Nat → Nat → Int32) (b_heights : Nat → Int32) (b_spots : Nat → Int32) (n_room : Nat), k + m = 9 → m < n → (∀ j, j < 9 → q_firstsLifts j = nI (f j) ∧ f j ≤ 1000) → (∀ j, j < 9 → q_othersLifts j = nI (g j) ∧ g j ≤ 1000) →
      ∃ o, fX8_restOfTwo_L107 fuel n (nI k) q_firstsLifts q_othersLifts t_guests t_kinds t_figures t_minutes t_settings t_hooks t_letters t_letterCount n_order n_weights n_black n_lifts n_begins n_ends n_has n_lifted n_allLifts n_doneAt y_going y_coming y_holds y_latest b_heaps b_piles b_heights b_spots n_room = some o ∧ o.1 = encP (prS (fun k => rsA f g k 3 0) m k) := by
  intro m
  induction m with
  | zero =>
    intro n k q_firstsLifts q_othersLifts t_guests t_kinds t_figures t_minutes t_settings t_hooks t_letters t_letterCount n_order n_weights n_black n_lifts n_begins n_ends n_has n_lifted n_allLifts n_doneAt y_going y_coming y_holds y_latest b_heaps b_piles b_heights b_spots n_room h1 h2 hF hG
    obtain ⟨n, rfl⟩ : ∃ k, n = k + 1 := ⟨n - 1, by omega⟩
    rw [fX8_restOfTwo_L107]
    simp (disch := omega) only [zlit, zz, if_pos, if_neg, if_true, if_false, zgd', zl, zbs, zbz, encz]
    exact ⟨_, rfl, rfl⟩
  | succ m ih =>
    intro n k q_firstsLifts q_othersLifts t_guests t_kinds t_figures t_minutes t_settings t_hooks t_letters t_letterCount n_order n_weights n_black n_lifts n_begins n_ends n_has n_lifted n_allLifts n_doneAt y_going y_coming y_holds y_latest b_heaps b_piles b_heights b_spots n_room h1 h2 hF hG
    obtain ⟨n, rfl⟩ : ∃ k, n = k + 1 := ⟨n - 1, by omega⟩
    have hr := sX8_rests (fuel := fuel) (k := k) hf (by omega) hF hG
    have h1' : nI k / nI 3 = nI (k / 3) := pk_div (by omega) (by decide) (by decide)
    rw [fX8_restOfTwo_L107, prS]
    cases q : rsA f g k 3 0 with
    | false =>
      rw [q] at hr
      simp (disch := omega) only [zlit, zz, if_pos, if_neg, if_true, if_false, zgd', zl, zbs, zbz, encz, hr, Bool.false_eq_true]
      apply ih
      · omega
      · omega
      · exact hF
      · exact hG
    | true =>
      rw [q] at hr
      simp (disch := omega) only [zlit, zz, if_pos, if_neg, if_true, if_false, zgd', zl, zbs, zbz, encz, hr, fX8_restOfTwo_J123, h1', z10]
      exact ⟨_, rfl, rfl⟩
theorem sX10_two_L159 {f g : Nat → Nat} {k : Nat} (k147 : Int32 → (Nat → Int32) → Int32 → (Nat → Int32) → Int32 → (Nat → Int32) → (Nat → Int32) → (Nat → Int32) → (Nat → Int32) → Int32 → (Nat → Int32) → (Nat → Int32) → (Nat → Int32) → (Nat → Int32) → (Nat → Int32) → (Nat → Int32) → (Nat → Int32) → Int32 → Int32 → (Nat → Int32) → (Nat → Int32) → Option (Int32 × (Nat → Int32) × Int32 × (Nat → Int32) × Int32 × (Nat → Int32) × (Nat → Int32) × (Nat → Int32) × (Nat → Int32) × Int32 × (Nat → Int32) × (Nat → Int32) × (Nat → Int32) × (Nat → Int32) × (Nat → Int32) × (Nat → Int32) × (Nat → Int32) × Int32 × Int32 × (Nat → Int32) × (Nat → Int32))) (hk : k < 9) :
    ∀ (m n c : Nat) (fl : Bool) (M_coming : Nat → Int32) (M_comingMany : Int32) (M_going : Nat → Int32) (M_goingMany : Int32) (M_minute : Nat → Int32) (M_pile : Nat → Int32) (M_high : Nat → Int32) (M_where : Nat → Int32) (M_latest : Int32) (M_lifts : Nat → Int32) (M_begun : Nat → Int32) (M_left : Nat → Int32) (M_has : Nat → Int32) (M_lifted : Nat → Int32) (M_taken : Nat → Int32) (M_above : Nat → Int32) (M_allLifts : Int32) (M_busy : Int32) (M_ofOne : Nat → Int32) (M_ofOther : Nat → Int32), c + m = 3 → m < n → (∀ j, j < 9 → M_ofOne j = nI (f j) ∧ f j ≤ 1000) → (∀ j, j < 9 → M_ofOther j = nI (g j) ∧ g j ≤ 1000) →
      fX10_two_L159 k147 n (nI k) (zb01 fl) (nI c) M_coming M_comingMany M_going M_goingMany M_minute M_pile M_high M_where M_latest M_lifts M_begun M_left M_has M_lifted M_taken M_above M_allLifts M_busy M_ofOne M_ofOther = fX10_two_J227 k147 (nI k) (zb01 (fl && rsA f g k m c)) M_coming M_comingMany M_going M_goingMany M_minute M_pile M_high M_where M_latest M_lifts M_begun M_left M_has M_lifted M_taken M_above M_allLifts M_busy M_ofOne M_ofOther := by
  intro m
  induction m with
  | zero =>
    intro n c fl M_coming M_comingMany M_going M_goingMany M_minute M_pile M_high M_where M_latest M_lifts M_begun M_left M_has M_lifted M_taken M_above M_allLifts M_busy M_ofOne M_ofOther h1 h2 hF hG
    obtain ⟨n, rfl⟩ : ∃ k, n = k + 1 := ⟨n - 1, by omega⟩
    rw [fX10_two_L159, rsA, Bool.and_true]
    simp (disch := omega) only [zlit, zz, if_pos, if_neg, if_true, if_false, zgd', zl, zbs, zbz, encz]
  | succ m ih =>
    intro n c fl M_coming M_comingMany M_going M_goingMany M_minute M_pile M_high M_where M_latest M_lifts M_begun M_left M_has M_lifted M_taken M_above M_allLifts M_busy M_ofOne M_ofOther h1 h2 hF hG
    obtain ⟨n, rfl⟩ : ∃ k, n = k + 1 := ⟨n - 1, by omega⟩
    obtain ⟨f1, f2⟩ := hF (3 * c + (k - k / 3 * 3)) (by omega)
    obtain ⟨f3, f4⟩ := hF k hk
    obtain ⟨g1, g2⟩ := hG (k / 3 * 3 + c) (by omega)
    obtain ⟨g3, g4⟩ := hG k hk
    have hd : nI k / nI 3 = nI (k / 3) := pk_div (by omega) (by decide) (by decide)
    rw [fX10_two_L159, rsA, rs1, Nat.mul_comm c 3]
    cases fl with
    | false =>
      simp (disch := omega) only [zlit, zz, if_pos, if_neg, if_true, if_false, zgd', zl, zbs, zbz, encz, fX10_two_J218]
      have := ih n (c + 1) false M_coming M_comingMany M_going M_goingMany M_minute M_pile M_high M_where M_latest M_lifts M_begun M_left M_has M_lifted M_taken M_above M_allLifts M_busy M_ofOne M_ofOther (by omega) (by omega) hF hG
      rw [Bool.false_and] at this ⊢
      exact this
    | true =>
      by_cases q1 : f k ≤ f (3 * c + (k - k / 3 * 3))
      · by_cases q2 : g k ≤ g (k / 3 * 3 + c)
        · simp (disch := omega) only [zlit, zz, if_pos, if_neg, if_true, if_false, zgd', zl, zbs, zbz, encz, hd, f1, f3, g1, g3, z10]
          have := ih n (c + 1) true M_coming M_comingMany M_going M_goingMany M_minute M_pile M_high M_where M_latest M_lifts M_begun M_left M_has M_lifted M_taken M_above M_allLifts M_busy M_ofOne M_ofOther (by omega) (by omega) hF hG
          rw [show zb01 true = nI 1 from rfl] at this
          rw [this]
          simp [q1, q2]
        · simp (disch := omega) only [zlit, zz, if_pos, if_neg, if_true, if_false, zgd', zl, zbs, zbz, encz, hd, f1, f3, g1, g3, z10, fX10_two_J218]
          have := ih n (c + 1) false M_coming M_comingMany M_going M_goingMany M_minute M_pile M_high M_where M_latest M_lifts M_begun M_left M_has M_lifted M_taken M_above M_allLifts M_busy M_ofOne M_ofOther (by omega) (by omega) hF hG
          rw [show zb01 false = nI 0 from rfl] at this
          rw [this]
          simp [q1, q2]
      · simp (disch := omega) only [zlit, zz, if_pos, if_neg, if_true, if_false, zgd', zl, zbs, zbz, encz, hd, f1, f3, g1, g3, z10, fX10_two_J218]
        have := ih n (c + 1) false M_coming M_comingMany M_going M_goingMany M_minute M_pile M_high M_where M_latest M_lifts M_begun M_left M_has M_lifted M_taken M_above M_allLifts M_busy M_ofOne M_ofOther (by omega) (by omega) hF hG
        rw [show zb01 false = nI 0 from rfl] at this
        rw [this]
        simp [q1]
theorem sX10_two_L147 {f g : Nat → Nat} (fuel : Nat) (hf : 100 < fuel) :
    ∀ (m n k : Nat) (M_coming : Nat → Int32) (M_comingMany : Int32) (M_going : Nat → Int32) (M_goingMany : Int32) (M_minute : Nat → Int32) (M_pile : Nat → Int32) (M_high : Nat → Int32) (M_where : Nat → Int32) (M_latest : Int32) (M_lifts : Nat → Int32) (M_begun : Nat → Int32) (M_left : Nat → Int32) (M_has : Nat → Int32) (M_lifted : Nat → Int32) (M_taken : Nat → Int32) (M_above : Nat → Int32) (M_allLifts : Int32) (M_busy : Int32) (M_ofOne : Nat → Int32) (M_ofOther : Nat → Int32), k + m = 9 → m < n → (∀ j, j < 9 → M_ofOne j = nI (f j) ∧ f j ≤ 1000) → (∀ j, j < 9 → M_ofOther j = nI (g j) ∧ g j ≤ 1000) →
      ∃ o, fX10_two_L147 fuel n (nI k) M_coming M_comingMany M_going M_goingMany M_minute M_pile M_high M_where M_latest M_lifts M_begun M_left M_has M_lifted M_taken M_above M_allLifts M_busy M_ofOne M_ofOther = some o ∧ o.1 = encP (prS (fun k => rsA f g k 3 0) m k) := by
  intro m
  induction m with
  | zero =>
    intro n k M_coming M_comingMany M_going M_goingMany M_minute M_pile M_high M_where M_latest M_lifts M_begun M_left M_has M_lifted M_taken M_above M_allLifts M_busy M_ofOne M_ofOther h1 h2 hF hG
    obtain ⟨n, rfl⟩ : ∃ k, n = k + 1 := ⟨n - 1, by omega⟩
    rw [fX10_two_L147]
    simp (disch := omega) only [zlit, zz, if_pos, if_neg, if_true, if_false, zgd', zl, zbs, zbz, encz]
    exact ⟨_, rfl, rfl⟩
  | succ m ih =>
    intro n k M_coming M_comingMany M_going M_goingMany M_minute M_pile M_high M_where M_latest M_lifts M_begun M_left M_has M_lifted M_taken M_above M_allLifts M_busy M_ofOne M_ofOther h1 h2 hF hG
    obtain ⟨n, rfl⟩ : ∃ k, n = k + 1 := ⟨n - 1, by omega⟩
    have hd : nI k / nI 3 = nI (k / 3) := pk_div (by omega) (by decide) (by decide)
    have hl := sX10_two_L159 (k := k) (fX10_two_L147 fuel n) (by omega) 3 fuel 0 true M_coming M_comingMany M_going M_goingMany M_minute M_pile M_high M_where M_latest M_lifts M_begun M_left M_has M_lifted M_taken M_above M_allLifts M_busy M_ofOne M_ofOther (by omega) (by omega) hF hG
    rw [fX10_two_L147, prS, if_neg (fun h => by have := (nI_leI (a := 9) (by decide) (by omega)).mp h; omega)]
    rw [show (1 : Int32) = zb01 true from rfl, show (0 : Int32) = nI 0 from rfl, hl, Bool.true_and]
    unfold fX10_two_J227
    cases q : rsA f g k 3 0 with
    | false =>
      simp (disch := omega) only [zlit, zz, if_pos, if_neg, if_true, if_false, zgd', zl, zbs, zbz, encz, Bool.false_eq_true]
      apply ih
      · omega
      · omega
      · exact hF
      · exact hG
    | true =>
      simp (disch := omega) only [zlit, zz, if_pos, if_neg, if_true, if_false, zgd', zl, zbs, zbz, encz, fX10_two_J232, hd, z10]
      exact ⟨_, rfl, rfl⟩
/-- the minutes of a pair of choices -/
def twM (r : SR) (a b k : Nat) : Nat → Nat := fun x => if x = b then rM r b + 5 * (k - k / 3 * 3) else if x = a then rM r a + 5 * (k / 3) else rM r x
def twL (r : SR) (a b x k : Nat) : Nat := (nightR (rMin r (twM r a b k))).2.2.1 x
theorem twM_lt {r : SR} (hr : okT r) {a b k x : Nat} (ha : a < rN r) (hb : b < rN r) (hk : k < 9) (hx : x < rN r) : twM r a b k x < 200 := by
  have h1 := hr.2.1 a ha
  have h2 := hr.2.1 b hb
  have h3 := hr.2.1 x hx
  unfold twM
  split
  · omega
  · split <;> omega
theorem twL_le {r : SR} (hr : okT r) {a b k x : Nat} (ha : a < rN r) (hb : b < rN r) (hk : k < 9) : twL r a b x k ≤ 1000 := (HI_night (ok_min hr.1 (fun i hi => twM_lt hr ha hb hk hi))).2.2.2.2 x
theorem sX8_two_L3 {r : SR} {a b : Nat} (fuel : Nat) (r_guests : Int32) (r_kinds : Nat → Int32) (r_figures : Nat → Int32) (r_minutes : Nat → Int32) (r_settings : Nat → Int32) (r_hooks : Int32) (r_letters : Nat → Int32) (r_letterCount : Int32) (ad_t : Nat → Nat) (p2 : Int32) (p3 : Int32) (hf : 100 < fuel) (hr : okT r) (hc : cR r r_guests r_kinds r_figures r_minutes r_settings r_hooks r_letters r_letterCount) (ha : a < rN r) (hb : b < rN r) (hab : a ≠ b) (h2 : p2 = nI a) (h3 : p3 = nI b) :
    ∀ (m n k : Nat) (q_firstsLifts : Nat → Int32) (q_othersLifts : Nat → Int32) (t_guests : Int32) (t_kinds : Nat → Int32) (t_figures : Nat → Int32) (t_minutes : Nat → Int32) (t_settings : Nat → Int32) (t_hooks : Int32) (t_letters : Nat → Int32) (t_letterCount : Int32) (n_order : Nat → Int32) (n_weights : Nat → Int32) (n_black : Nat → Int32) (n_lifts : Nat → Int32) (n_begins : Nat → Int32) (n_ends : Nat → Int32) (n_has : Nat → Int32) (n_lifted : Nat → Int32) (n_allLifts : Int32) (n_doneAt : Int32) (y_going : Nat → Int32) (y_coming : Nat → Int32) (y_holds : Int32) (y_latest : Int32) (b_heaps : Int32) (b_piles : Nat → Nat → Int32) (b_heights : Nat → Int32) (b_spots : Nat → Int32) (n_room : Nat), k + m = 9 → m < n → (∀ j, j < k → q_firstsLifts j = nI (twL r a b a j)) → (∀ j, j < k → q_othersLifts j = nI (twL r a b b j)) →
      ∃ o, fX8_restOfTwo_L3 fuel r_guests r_kinds r_figures r_minutes r_settings r_hooks r_letters r_letterCount ad_t p2 p3 n (nI k) q_firstsLifts q_othersLifts t_guests t_kinds t_figures t_minutes t_settings t_hooks t_letters t_letterCount n_order n_weights n_black n_lifts n_begins n_ends n_has n_lifted n_allLifts n_doneAt y_going y_coming y_holds y_latest b_heaps b_piles b_heights b_spots n_room = some o ∧ o.1 = encP (prS (fun k => rsA (twL r a b a) (twL r a b b) k 3 0) 9 0) := by
  have hN := hr.1.1
  subst h2 h3
  intro m
  induction m with
  | zero =>
    intro n k q_firstsLifts q_othersLifts t_guests t_kinds t_figures t_minutes t_settings t_hooks t_letters t_letterCount n_order n_weights n_black n_lifts n_begins n_ends n_has n_lifted n_allLifts n_doneAt y_going y_coming y_holds y_latest b_heaps b_piles b_heights b_spots n_room h1 h2 hF hG
    obtain ⟨n, rfl⟩ : ∃ k, n = k + 1 := ⟨n - 1, by omega⟩
    have e : k = 9 := by omega
    subst e
    rw [fX8_restOfTwo_L3]
    simp (disch := omega) only [zlit, zz, if_pos, if_neg, if_true, if_false, zgd', zl, zbs, zbz, encz, fX8_restOfTwo_J104]
    apply sX8_two_L107
    · exact hf
    · rfl
    · omega
    · exact fun j hj => ⟨hF j hj, twL_le hr ha hb hj⟩
    · exact fun j hj => ⟨hG j hj, twL_le hr ha hb hj⟩
  | succ m ih =>
    intro n k q_firstsLifts q_othersLifts t_guests t_kinds t_figures t_minutes t_settings t_hooks t_letters t_letterCount n_order n_weights n_black n_lifts n_begins n_ends n_has n_lifted n_allLifts n_doneAt y_going y_coming y_holds y_latest b_heaps b_piles b_heights b_spots n_room h1 h2 hF hG
    obtain ⟨n, rfl⟩ : ∃ k, n = k + 1 := ⟨n - 1, by omega⟩
    have hk9 : k < 9 := by omega
    have hd : nI k / nI 3 = nI (k / 3) := pk_div (by omega) (by decide) (by decide)
    obtain ⟨c, c1, c2⟩ := sX5_copyFrom hr.1 hc fuel t_guests t_kinds t_figures t_minutes t_settings t_hooks t_letters t_letterCount
    have hma := c2.2.1 a ha
    have hmb := c2.2.1 b hb
    have hlt : ∀ i, i < rN r → twM r a b k i < 200 := fun i hi => twM_lt hr ha hb hk9 hi
    have hc2 : cR (rMin r (twM r a b k)) c.1 c.2.1 c.2.2.1 (upd (upd c.2.2.2.1 a (nI (rM r a + 5 * (k / 3)))) b (nI (rM r b + 5 * (k - k / 3 * 3)))) c.2.2.2.2.1 c.2.2.2.2.2.1 c.2.2.2.2.2.2.1 c.2.2.2.2.2.2.2 := cR_min c2 (fun i hi => by
      refine ⟨?_, hlt i hi⟩
      unfold upd twM
      by_cases q1 : i = b
      · rw [if_pos q1, if_pos q1]
      · rw [if_neg q1, if_neg q1]
        by_cases q2 : i = a
        · rw [if_pos q2, if_pos q2]
        · rw [if_neg q2, if_neg q2]
          exact (c2.2.1 i hi).2.2.2.2.1)
    obtain ⟨y, y1, y2, y3, y4, -, ⟨g1, g2, g3, -⟩, -⟩ := sX3_pass hf (ok_min hr.1 hlt) hc2 n_order n_weights n_black n_lifts n_begins n_ends n_has n_lifted n_allLifts n_doneAt y_going y_coming y_holds y_latest b_heaps b_piles b_heights b_spots
    rw [fX8_restOfTwo_L3, c1, if_neg (fun h => by have := (nI_leI (a := 9) (by decide) (by omega)).mp h; omega), zbs]
    have hub : upd c.2.2.2.1 a (nI (rM r a + 5 * (k / 3))) b = nI (rM r b) := by
      unfold upd
      rw [if_neg (fun h => hab h.symm)]
      exact hmb.2.2.2.2.1
    simp (disch := omega) only [zlit, zz, if_pos, if_neg, if_true, if_false, zgd', zl, zbs, zbz, encz, hd, hma.2.2.2.2.1, hub, y1]
    apply ih
    · omega
    · omega
    · intro j hj
      unfold upd
      by_cases q : j = k
      · rw [if_pos q, q]; exact (g1 a ha).1
      · rw [if_neg q]; exact hF j (by omega)
    · intro j hj
      unfold upd
      by_cases q : j = k
      · rw [if_pos q, q]; exact (g1 b hb).1
      · rw [if_neg q]; exact hG j (by omega)
theorem sX10_two_L25 {r : SR} {a b : Nat} (fuel : Nat) (M_guests : Int32) (M_kind : Nat → Int32) (M_figure : Nat → Int32) (M_told : Nat → Int32) (M_heaps : Int32) (M_holds : Int32) (M_back : Int32) (M_mistakes : Int32) (M_hooks : Int32) (M_letters : Int32) (M_rule : Nat → Int32) (p1 : Int32) (p2 : Int32) (hf : 100 < fuel) (hr : okT r) (hm : mR r M_guests M_kind M_figure M_told M_heaps M_holds M_back M_mistakes M_hooks M_letters M_rule) (ha : a < rN r) (hb : b < rN r) (hab : a ≠ b) (h2 : p1 = nI a) (h3 : p2 = nI b) :
    ∀ (m n k : Nat) (M_coming : Nat → Int32) (M_comingMany : Int32) (M_going : Nat → Int32) (M_goingMany : Int32) (M_minute : Nat → Int32) (M_pile : Nat → Int32) (M_high : Nat → Int32) (M_where : Nat → Int32) (M_latest : Int32) (M_lifts : Nat → Int32) (M_begun : Nat → Int32) (M_left : Nat → Int32) (M_has : Nat → Int32) (M_lifted : Nat → Int32) (M_taken : Nat → Int32) (M_above : Nat → Int32) (M_allLifts : Int32) (M_busy : Int32) (M_ofOne : Nat → Int32) (M_ofOther : Nat → Int32), k + m = 9 → m < n → (∀ j, j < k → M_ofOne j = nI (twL r a b a j)) → (∀ j, j < k → M_ofOther j = nI (twL r a b b j)) →
      ∃ o, fX10_two_L25 fuel M_guests M_kind M_figure M_told M_heaps M_holds M_back M_mistakes M_hooks M_letters M_rule p1 p2 n (nI k) M_coming M_comingMany M_going M_goingMany M_minute M_pile M_high M_where M_latest M_lifts M_begun M_left M_has M_lifted M_taken M_above M_allLifts M_busy M_ofOne M_ofOther = some o ∧ o.1 = encP (prS (fun k => rsA (twL r a b a) (twL r a b b) k 3 0) 9 0) := by
  have hN := hr.1.1
  subst h2 h3
  intro m
  induction m with
  | zero =>
    intro n k M_coming M_comingMany M_going M_goingMany M_minute M_pile M_high M_where M_latest M_lifts M_begun M_left M_has M_lifted M_taken M_above M_allLifts M_busy M_ofOne M_ofOther h1 h2 hF hG
    obtain ⟨n, rfl⟩ : ∃ k, n = k + 1 := ⟨n - 1, by omega⟩
    have e : k = 9 := by omega
    subst e
    rw [fX10_two_L25]
    simp (disch := omega) only [zlit, zz, if_pos, if_neg, if_true, if_false, zgd', zl, zbs, zbz, encz, fX10_two_J145]
    apply sX10_two_L147
    · exact hf
    · rfl
    · omega
    · exact fun j hj => ⟨hF j hj, twL_le hr ha hb hj⟩
    · exact fun j hj => ⟨hG j hj, twL_le hr ha hb hj⟩
  | succ m ih =>
    intro n k M_coming M_comingMany M_going M_goingMany M_minute M_pile M_high M_where M_latest M_lifts M_begun M_left M_has M_lifted M_taken M_above M_allLifts M_busy M_ofOne M_ofOther h1 h2 hF hG
    obtain ⟨n, rfl⟩ : ∃ k, n = k + 1 := ⟨n - 1, by omega⟩
    have hk9 : k < 9 := by omega
    have hd : nI k / nI 3 = nI (k / 3) := pk_div (by omega) (by decide) (by decide)
    have hma := hm.2.1 a ha
    have hmb := hm.2.1 b hb
    have hla := hr.2.1 a ha
    have hlb := hr.2.1 b hb
    have hlt : ∀ i, i < rN r → twM r a b k i < 200 := fun i hi => twM_lt hr ha hb hk9 hi
    obtain ⟨q, q1, q2⟩ := sX10_minutesAsTold hf hN hm.2.1 M_minute
    rw [← hm.1] at q1
    have ga := sX10_goesBy (fuel := fuel) (m := rM r a + 5 * (k / 3)) hma.2.1 hma.2.2.2.1 (by omega)
    have gb := sX10_goesBy (fuel := fuel) (m := rM r b + 5 * (k - k / 3 * 3)) hmb.2.1 hmb.2.2.2.1 (by omega)
    have hr2 := ok_min hr.1 hlt
    have hM2 : cM (upd (upd q a (nI (goS (rK r a) (rF r a) (rM r a + 5 * (k / 3))))) b (nI (goS (rK r b) (rF r b) (rM r b + 5 * (k - k / 3 * 3))))) (mnR (rMin r (twM r a b k))) (rN (rMin r (twM r a b k))) := fun i hi => by
      refine ⟨?_, mnR_lt hr2 hi⟩
      show _ = nI (goS (rK r i) (rF r i) (twM r a b k i))
      unfold upd twM
      by_cases q1 : i = b
      · rw [if_pos q1, if_pos q1, q1]
      · rw [if_neg q1, if_neg q1]
        by_cases q3 : i = a
        · rw [if_pos q3, if_pos q3, q3]
        · rw [if_neg q3, if_neg q3]
          exact (q2 i hi).1
    obtain ⟨c, g, w, w1, w2, w3, w4, w5, w6⟩ := sX10_nightM hf hr2 ⟨_, mR_min hm hlt⟩ hM2 M_coming M_comingMany M_going M_goingMany M_pile M_high M_where M_latest M_lifts M_begun M_left M_has M_lifted M_taken M_above M_allLifts M_busy
    rw [fX10_two_L25, q1, if_neg (fun h => by have := (nI_leI (a := 9) (by decide) (by omega)).mp h; omega), zbs]
    simp (disch := omega) only [zlit, zz, if_pos, if_neg, if_true, if_false, zgd', zl, zbs, zbz, encz, hd, hma.1, hma.2.2.1, hma.2.2.2.2.1, hmb.1, hmb.2.2.1, hmb.2.2.2.2.1, ga, gb, w1, w2, w3]
    apply ih
    · omega
    · omega
    · intro j hj
      unfold upd
      by_cases q : j = k
      · rw [if_pos q, q]; exact w5 a ha
      · rw [if_neg q]; exact hF j (by omega)
    · intro j hj
      unfold upd
      by_cases q : j = k
      · rw [if_pos q, q]; exact w5 b hb
      · rw [if_neg q]; exact hG j (by omega)
theorem u_two {r : SR} (fuel : Nat) (d_guests : Int32) (d_kinds : Nat → Int32) (d_figures : Nat → Int32) (d_minutes : Nat → Int32) (d_settings : Nat → Int32) (d_hooks : Int32) (d_letters : Nat → Int32) (d_letterCount : Int32) (q_firstsLifts : Nat → Int32) (q_othersLifts : Nat → Int32) (t_guests : Int32) (t_kinds : Nat → Int32) (t_figures : Nat → Int32) (t_minutes : Nat → Int32) (t_settings : Nat → Int32) (t_hooks : Int32) (t_letters : Nat → Int32) (t_letterCount : Int32) (m_room : Nat) (m_order : Nat → Int32) (m_weights : Nat → Int32) (m_black : Nat → Int32) (m_lifts : Nat → Int32) (m_begins : Nat → Int32) (m_ends : Nat → Int32) (m_has : Nat → Int32) (m_lifted : Nat → Int32) (m_allLifts : Int32) (m_doneAt : Int32) (z_going : Nat → Int32) (z_coming : Nat → Int32) (z_holds : Int32) (z_latest : Int32) (c_heaps : Int32) (c_piles : Nat → Nat → Int32) (c_heights : Nat → Int32) (c_spots : Nat → Int32) (ad_t : Nat → Nat) (p1 : Int32) (p2 : Int32) (M_guests : Int32) (M_kind : Nat → Int32) (M_figure : Nat → Int32) (M_told : Nat → Int32) (M_heaps : Int32) (M_holds : Int32) (M_back : Int32) (M_mistakes : Int32) (M_hooks : Int32) (M_letters : Int32) (M_rule : Nat → Int32) (M_coming : Nat → Int32) (M_comingMany : Int32) (M_going : Nat → Int32) (M_goingMany : Int32) (M_minute : Nat → Int32) (M_pile : Nat → Int32) (M_high : Nat → Int32) (M_where : Nat → Int32) (M_latest : Int32) (M_lifts : Nat → Int32) (M_begun : Nat → Int32) (M_left : Nat → Int32) (M_has : Nat → Int32) (M_lifted : Nat → Int32) (M_taken : Nat → Int32) (M_above : Nat → Int32) (M_allLifts : Int32) (M_busy : Int32) (M_ofOne : Nat → Int32) (M_ofOther : Nat → Int32) (hf : 100 < fuel) (hr : okT r) (hc : cR r d_guests d_kinds d_figures d_minutes d_settings d_hooks d_letters d_letterCount) (hm : mR r M_guests M_kind M_figure M_told M_heaps M_holds M_back M_mistakes M_hooks M_letters M_rule) : ∃ o p, fX9_two fuel d_guests d_kinds d_figures d_minutes d_settings d_hooks d_letters d_letterCount q_firstsLifts q_othersLifts t_guests t_kinds t_figures t_minutes t_settings t_hooks t_letters t_letterCount m_room m_order m_weights m_black m_lifts m_begins m_ends m_has m_lifted m_allLifts m_doneAt z_going z_coming z_holds z_latest c_heaps c_piles c_heights c_spots ad_t p1 p2 = some o ∧ fX10_two fuel M_guests M_kind M_figure M_told M_heaps M_holds M_back M_mistakes M_hooks M_letters M_rule M_coming M_comingMany M_going M_goingMany M_minute M_pile M_high M_where M_latest M_lifts M_begun M_left M_has M_lifted M_taken M_above M_allLifts M_busy M_ofOne M_ofOther p1 p2 = some p ∧ o.1 = p.1 := by
  have hN := hr.1.1
  unfold fX9_two fX10_two
  have c1 := hc.1
  have m1 := hm.1
  have e0 : (0 : Int32) = nI 0 := rfl
  rcases gcase (fuel := fuel) hN p1 with ⟨a, ha, rfl, a1, a2⟩ | ⟨a1, a2⟩
  · rw [← c1] at a1
    rw [← m1] at a2
    rw [a1, a2, zbs, zbs, e0, if_neg z10, if_neg z10]
    rcases gcase (fuel := fuel) hN p2 with ⟨b, hb, rfl, b1, b2⟩ | ⟨b1, b2⟩
    · rw [← c1] at b1
      rw [← m1] at b2
      rw [b1, b2, zbs, zbs, if_neg z10, if_neg z10]
      by_cases q : a = b
      · rw [if_pos (by rw [q]), if_pos (by rw [q])]
        exact ⟨_, _, rfl, rfl, rfl⟩
      · have hne : ¬ nI a = nI b := fun h => q ((nI_eq (by omega) (by omega)).mp h)
        rw [if_neg hne, if_neg hne]
        unfold fX8_restOfTwo
        obtain ⟨o, o1, o2⟩ := sX8_two_L3 (r := r) (a := a) (b := b) fuel d_guests d_kinds d_figures d_minutes d_settings d_hooks d_letters d_letterCount ad_t (nI a) (nI b) hf hr hc ha hb q rfl rfl 9 fuel 0 q_firstsLifts q_othersLifts t_guests t_kinds t_figures t_minutes t_settings t_hooks t_letters t_letterCount m_order m_weights m_black m_lifts m_begins m_ends m_has m_lifted m_allLifts m_doneAt z_going z_coming z_holds z_latest c_heaps c_piles c_heights c_spots m_room (by omega) (by omega) (fun j hj => absurd hj (Nat.not_lt_zero j)) (fun j hj => absurd hj (Nat.not_lt_zero j))
        obtain ⟨p, p1, p2⟩ := sX10_two_L25 (r := r) (a := a) (b := b) fuel M_guests M_kind M_figure M_told M_heaps M_holds M_back M_mistakes M_hooks M_letters M_rule (nI a) (nI b) hf hr hm ha hb q rfl rfl 9 fuel 0 M_coming M_comingMany M_going M_goingMany M_minute M_pile M_high M_where M_latest M_lifts M_begun M_left M_has M_lifted M_taken M_above M_allLifts M_busy M_ofOne M_ofOther (by omega) (by omega) (fun j hj => absurd hj (Nat.not_lt_zero j)) (fun j hj => absurd hj (Nat.not_lt_zero j))
        rw [e0, o1, zbs, p1]
        exact ⟨_, _, rfl, rfl, by rw [p2]; exact o2⟩
    · rw [← c1] at b1
      rw [← m1] at b2
      rw [b1, b2, zbs, zbs, if_pos z00, if_pos z00]
      exact ⟨_, _, rfl, rfl, rfl⟩
  · rw [← c1] at a1
    rw [← m1] at a2
    rw [a1, a2, zbs, zbs, e0, if_pos z00, if_pos z00]
    exact ⟨_, _, rfl, rfl, rfl⟩
