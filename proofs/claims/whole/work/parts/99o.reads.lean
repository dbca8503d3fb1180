/-! The call: reads. -/
def eqL (el : Nat → Int32) : Nat → List Nat → Bool
  | _, [] => true
  | i, x :: t => decide (el i = nI x) && eqL el (i + 1) t
theorem sX8_heapZero_L23 {fuel N si sz : Nat} {H : HP} {pi : Nat → Nat → Int32} {hts : Nat → Int32} {ssz : Nat → Int32} {el : Nat → Nat → Int32} (hB : cB H pi hts) (hk : okH N H) (hs : ssz si = nI sz) (hsz : sz = (H 0).length) :
    ∀ (m n i : Nat), i + m = sz → m < n → fX8_isHeapZero_L23 fuel ssz el pi hts si n (nI i) = some (zb01 (eqL (el si) i ((H 0).drop i))) := by
  have hl := (hk 0).1
  intro m
  induction m with
  | zero =>
    intro n i h1 h2
    obtain ⟨n, rfl⟩ : ∃ k, n = k + 1 := ⟨n - 1, by omega⟩
    rw [fX8_isHeapZero_L23, List.drop_eq_nil_of_le (by omega), hs, if_pos ((nI_leI (by omega) (by omega)).mpr (by omega))]
    rfl
  | succ m ih =>
    intro n i h1 h2
    obtain ⟨n, rfl⟩ : ∃ k, n = k + 1 := ⟨n - 1, by omega⟩
    have hi : i < (H 0).length := by omega
    have hco := sX0_coatAt (fuel := fuel) (h := 0) (k := i) hB hk (by omega) (by omega)
    rw [List.getElem?_eq_getElem hi] at hco
    rw [fX8_isHeapZero_L23, List.drop_eq_getElem_cons hi, eqL, hs, if_neg (fun h => by have := (nI_leI (by omega) (by omega)).mp h; omega), zin_nI (by omega), zgd' (by omega), show (0 : Int32) = nI 0 from rfl, hco, zbs, nI_clamp (by omega), encz.2]
    by_cases q : el si i = nI (H 0)[i]
    · rw [if_pos q, zl, show (1 : Int32) = nI 1 from rfl, nI_add, ih n (i + 1) (by omega) (by omega), decide_eq_true q, Bool.true_and]
    · rw [if_neg q, decide_eq_false q, Bool.false_and]
      rfl
theorem sX8_isHeapZero {fuel N si sz : Nat} {H : HP} {pi : Nat → Nat → Int32} {hts : Nat → Int32} {ssz : Nat → Int32} {el : Nat → Nat → Int32} (hf : 100 < fuel) (hB : cB H pi hts) (hk : okH N H) (hs : ssz si = nI sz) (hsz : sz ≤ 100) : fX8_isHeapZero fuel ssz el pi hts si = some (zb01 (decide (sz = (H 0).length) && eqL (el si) 0 (H 0))) := by
  have hl := (hk 0).1
  have hh := (hB 0 (by omega)).1
  unfold fX8_isHeapZero
  rw [hs, hh]
  by_cases q : sz = (H 0).length
  · rw [if_pos (by rw [q]), decide_eq_true q, Bool.true_and]
    have := sX8_heapZero_L23 (fuel := fuel) (el := el) hB hk hs q sz fuel 0 (by omega) (by omega)
    rw [List.drop_zero] at this
    exact this
  · rw [if_neg (fun h => q ((nI_eq (by omega) (by omega)).mp h)), decide_eq_false q, Bool.false_and]
    rfl
theorem sX10_laidSo_L23 {N d : Nat} {H : HP} {pl hi it : Nat → Int32} (hB : mB H pl hi) (hk : okH N H) (hd : d < 8) :
    ∀ (m n i : Nat) (fl : Bool), i + m = (H 0).length → m < n → fX10_isLaidSo_L23 pl hi it (nI d) n (zb01 fl) (nI i) = some (zb01 (fl && eqL (fun j => it (100 * d + j)) i ((H 0).drop i))) := by
  have hl := (hk 0).1
  obtain ⟨b1, b2⟩ := hB 0 (by omega)
  intro m
  induction m with
  | zero =>
    intro n i fl h1 h2
    obtain ⟨n, rfl⟩ : ∃ k, n = k + 1 := ⟨n - 1, by omega⟩
    rw [fX10_isLaidSo_L23, List.drop_eq_nil_of_le (by omega), b1, if_pos ((nI_leI (by omega) (by omega)).mpr (by omega)), eqL, Bool.and_true]
    cases fl <;> rfl
  | succ m ih =>
    intro n i fl h1 h2
    obtain ⟨n, rfl⟩ : ∃ k, n = k + 1 := ⟨n - 1, by omega⟩
    have hi' : i < (H 0).length := by omega
    have hp := b2 i (H 0)[i] (List.getElem?_eq_getElem hi')
    rw [Nat.mul_zero, Nat.zero_add] at hp
    rw [fX10_isLaidSo_L23, List.drop_eq_getElem_cons hi', eqL, b1, if_neg (fun h => by have := (nI_leI (by omega) (by omega)).mp h; omega)]
    cases fl with
    | false => rw [Bool.false_and]; rfl
    | true =>
      rw [if_neg (show ¬ zb01 true = 0 from z10)]
      have ih1 := ih n (i + 1) true (by omega) (by omega)
      have ih0 := ih n (i + 1) false (by omega) (by omega)
      rw [Bool.true_and] at ih1
      rw [Bool.false_and] at ih0
      have f1 : zb01 true = nI 1 := rfl
      have f0 : zb01 false = nI 0 := rfl
      rw [f1] at ih1
      rw [f0] at ih0
      by_cases q : nI (H 0)[i] = it (100 * d + i)
      · simp (disch := omega) only [zlit, zz, if_pos, if_neg, if_true, if_false, zgd', zl, zbs, zbz, encz, hp, q, ih1]
        simp
      · simp (disch := omega) only [zlit, zz, if_pos, if_neg, if_true, if_false, zgd', zl, zbs, zbz, encz, hp, q, ih0]
        rw [decide_eq_false (fun h => q h.symm)]
        rfl
theorem sX10_isLaidSo {fuel N d sz : Nat} {H : HP} {pl hi ms it : Nat → Int32} (hf : 100 < fuel) (hB : mB H pl hi) (hk : okH N H) (hd : d < 8) (hs : ms d = nI sz) (hsz : sz ≤ 100) : fX10_isLaidSo fuel pl hi ms it (nI d) = some (zb01 (decide (sz = (H 0).length) && eqL (fun j => it (100 * d + j)) 0 (H 0))) := by
  have hl := (hk 0).1
  have hh := (hB 0 (by omega)).1
  unfold fX10_isLaidSo
  rw [zin_nI (by omega), zgd' hd, nI_clamp (by omega), hs, hh]
  have k1 := sX10_laidSo_L23 (it := it) hB hk hd (H 0).length fuel 0 true (by omega) (by omega)
  have k0 := sX10_laidSo_L23 (it := it) hB hk hd (H 0).length fuel 0 false (by omega) (by omega)
  rw [List.drop_zero] at k1 k0
  by_cases q : sz = (H 0).length
  · rw [if_pos (by rw [q]), decide_eq_true q]
    exact k1
  · rw [if_neg (fun h => q ((nI_eq (by omega) (by omega)).mp h).symm), decide_eq_false q]
    exact k0
theorem eqL_congr {e1 e2 : Nat → Int32} : ∀ (l : List Nat) (i : Nat), (∀ j, j < i + l.length → e1 j = e2 j) → eqL e1 i l = eqL e2 i l
  | [], _, _ => rfl
  | x :: t, i, h => by
    rw [List.length_cons] at h
    rw [eqL, eqL, h i (by omega), eqL_congr t (i + 1) (fun j hj => h j (by omega))]
/-- is heap 0 so, by an order of coming -/
def rdQ (r : SR) (sz : Nat) (el : Nat → Int32) (w : Nat) : Bool := decide (sz = ((layR r (ordD (rN r) w)).1 0).length) && eqL el 0 ((layR r (ordD (rN r) w)).1 0)
def stR (Q : Nat → Bool) (s : Nat × Option Nat) (w : Nat) : Nat × Option Nat := if Q w = true then (s.1 + 1, match s.2 with | none => some w | some x => some x) else s
def enc0 (b : Option Nat) : Int32 := match b with | none => zNo | some _ => nI 0
theorem okC_ordD {r : SR} {w : Nat} (hr : okR r) (hN : rN r ≤ 6) (hw : w ∈ pmL (rN r)) : okC r (ordD (rN r) w) := okO_C hr (okO_ordD hN hw)
theorem sX8_comings_L26 {r : SR} {cap sz : Nat} (fuel : Nat) (s_size : Nat → Int32) (s_el : Nat → Nat → Int32) (r_guests : Int32) (r_settings : Nat → Int32) (r_hooks : Int32) (r_letters : Nat → Int32) (r_letterCount : Int32) (si : Nat) {r_kinds r_figures r_minutes : Nat → Int32} (hf : 100 < fuel) (hr : okR r) (hc : cR r r_guests r_kinds r_figures r_minutes r_settings r_hooks r_letters r_letterCount) (hN6 : rN r ≤ 6) (hcap : cap ≤ 1000) (hs : s_size si = nI sz) (hsz : sz ≤ 100) :
    ∀ (l : List Nat) (n k c : Nat) (b : Option Nat) (q_found : Int32) (q_foundLifts : Int32) (n_order : Nat → Int32) (n_weights : Nat → Int32) (n_black : Nat → Int32) (y_going : Nat → Int32) (y_coming : Nat → Int32) (y_holds : Int32) (y_latest : Int32) (b_heaps : Int32) (b_piles : Nat → Nat → Int32) (b_heights : Nat → Int32) (b_spots : Nat → Int32), k + l.length = cap → l.length < n → pmI (rN r) l y_coming → q_found = enc b → q_foundLifts = enc0 b → (∀ x, b = some x → x < 1000000) → cM y_going (mnR r) (rN r) →
      ∃ o, fX8_tryAllComings_L26 fuel s_size s_el r_guests r_settings r_hooks r_letters r_letterCount si n (nI c) (nI cap) (nI k) q_found q_foundLifts n_order n_weights n_black y_going y_coming y_holds y_latest b_heaps b_piles b_heights b_spots = some o ∧ o.1 = nI (l.foldl (stR (rdQ r sz (s_el si))) (c, b)).1 ∧ o.2.1 = enc (l.foldl (stR (rdQ r sz (s_el si))) (c, b)).2 := by
  have hN := hr.1
  intro l
  induction l with
  | nil =>
    intro n k c b q_found q_foundLifts n_order n_weights n_black y_going y_coming y_holds y_latest b_heaps b_piles b_heights b_spots h1 h2 h3 h4 h5 h6 h7
    obtain ⟨n, rfl⟩ : ∃ k, n = k + 1 := ⟨n - 1, by omega⟩
    rw [List.length_nil] at h1
    rw [fX8_tryAllComings_L26, if_pos ((nI_leI (by omega) (by omega)).mpr (by omega))]
    exact ⟨_, rfl, rfl, h4⟩
  | cons w t ih =>
    intro n k c b q_found q_foundLifts n_order n_weights n_black y_going y_coming y_holds y_latest b_heaps b_piles b_heights b_spots h1 h2 h3 h4 h5 h6 h7
    obtain ⟨n, rfl⟩ : ∃ k, n = k + 1 := ⟨n - 1, by omega⟩
    subst h4 h5
    rw [List.length_cons] at h1 h2
    have hw := h3.2.1 w List.mem_cons_self
    have had := h3.2.2 w t rfl
    have hok := pm_ok (rN r) hN6 w hw
    obtain ⟨y, y1, y2, y3, y4⟩ := sX2_layR (fuel := fuel) hf hr hc (okO_ordD hN6 hw) h7 had y_holds y_latest b_heaps b_piles b_heights b_spots
    have hz := sX8_isHeapZero (fuel := fuel) (el := s_el) hf y3 (okH_lay hr (okC_ordD hr hN6 hw)) hs hsz
    have hz' : fX8_isHeapZero fuel s_size s_el y.2.2.2.1 y.2.2.2.2.1 si = some (zb01 (rdQ r sz (s_el si) w)) := hz
    obtain ⟨r2, x1, x2⟩ := sX4_next (fuel := fuel) hf hN (ordD_cM had)
    have hdg := sX4_asDigits (fuel := fuel) hf hN (ordD_len (rN r) w) had
    rw [hok.2.2.2.1] at hdg
    rw [← hc.1] at x1 hdg
    rw [fX8_tryAllComings_L26, if_neg (fun e => by have := (nI_leI (by omega) (by omega)).mp e; omega), y1, zbs, hz', zbs, List.foldl_cons, show (0 : Int32) = nI 0 from rfl]
    cases q : rdQ r sz (s_el si) w with
    | false =>
      have e : stR (rdQ r sz (s_el si)) (c, b) w = (c, b) := by unfold stR; rw [q, if_neg (by decide)]
      rw [if_pos (show zb01 false = nI 0 from rfl), e]
      unfold fX8_tryAllComings_J74
      rw [x1, zbs, zl, show (1 : Int32) = nI 1 from rfl, nI_add]
      exact ih n (k + 1) c b _ _ _ _ _ _ _ _ _ _ _ _ _ (by omega) (by omega) (pmI_next h3 x2) rfl rfl h6 h7
    | true =>
      have e : stR (rdQ r sz (s_el si)) (c, b) w = (c + 1, match b with | none => some w | some x => some x) := by unfold stR; rw [q]; cases b <;> rfl
      rw [if_neg (show ¬ zb01 true = nI 0 from z10), e, zl, show (1 : Int32) = nI 1 from rfl, nI_add, hdg, zbs]
      unfold fX8_tryAllComings_J74
      cases b with
      | none =>
        have hff : fX8_findIfFewer fuel (enc none) (enc0 none) (nI w) (nI 0) = some (nI w, nI 0) := rfl
        rw [hff, zbs, x1, zbs, zl, show (1 : Int32) = nI 1 from rfl, nI_add]
        exact ih n (k + 1) (c + 1) (some w) _ _ _ _ _ _ _ _ _ _ _ _ _ (by omega) (by omega) (pmI_next h3 x2) rfl rfl (fun x hx => by cases hx; exact hok.2.2.2.2) h7
      | some x =>
        have hff : fX8_findIfFewer fuel (enc (some x)) (enc0 (some x)) (nI w) (nI 0) = some (nI x, nI 0) := sX8_findFewer (fuel := fuel) (x := w) (t := 0) (L := 0) (f := nI x) (by decide) (by decide)
        rw [hff, zbs, x1, zbs, zl, show (1 : Int32) = nI 1 from rfl, nI_add]
        exact ih n (k + 1) (c + 1) (some x) _ _ _ _ _ _ _ _ _ _ _ _ _ (by omega) (by omega) (pmI_next h3 x2) rfl rfl h6 h7
theorem sX10_reads_L103 {N : Nat} (fuel : Nat) (M_guests : Int32) (k70 : Int32 → Int32 → Int32 → (Nat → Int32) → Int32 → (Nat → Int32) → Int32 → (Nat → Int32) → (Nat → Int32) → (Nat → Int32) → (Nat → Int32) → Int32 → Option (Int32 × (Nat → Int32) × Int32 × (Nat → Int32) × Int32 × (Nat → Int32) × (Nat → Int32) × (Nat → Int32) × (Nat → Int32) × Int32)) (hN : N ≤ 10) (hg : M_guests = nI N) :
    ∀ (w : List Nat) (n i acc : Nat) (v3 : Int32) (v4 : Int32) (v6 : Int32) (M_coming : Nat → Int32) (M_comingMany : Int32) (M_going : Nat → Int32) (M_goingMany : Int32) (M_minute : Nat → Int32) (M_pile : Nat → Int32) (M_high : Nat → Int32) (M_where : Nat → Int32) (M_latest : Int32), i + w.length = N → w.length < n → v4 = nI acc → v6 = nI i → arrAt M_coming i w →
      fX10_reads_L103 fuel M_guests k70 n v3 v4 v6 M_coming M_comingMany M_going M_goingMany M_minute M_pile M_high M_where M_latest = fX10_reads_J133 fuel M_guests k70 v3 (nI (w.foldl (fun a x => 10 * a + x) acc)) M_coming M_comingMany M_going M_goingMany M_minute M_pile M_high M_where M_latest := by
  subst hg
  intro w
  induction w with
  | nil =>
    intro n i acc v3 v4 v6 M_coming M_comingMany M_going M_goingMany M_minute M_pile M_high M_where M_latest h1 h2 h3 h4 h5
    obtain ⟨n, rfl⟩ : ∃ k, n = k + 1 := ⟨n - 1, by omega⟩
    subst h3 h4
    rw [List.length_nil] at h1
    rw [fX10_reads_L103, if_pos ((nI_leI (by omega) (by omega)).mpr (by omega))]
    rfl
  | cons x w ih =>
    intro n i acc v3 v4 v6 M_coming M_comingMany M_going M_goingMany M_minute M_pile M_high M_where M_latest h1 h2 h3 h4 h5
    obtain ⟨n, rfl⟩ : ∃ k, n = k + 1 := ⟨n - 1, by omega⟩
    subst h3 h4
    rw [List.length_cons] at h1 h2
    have hx : M_coming i = nI x := h5 0 x rfl
    rw [fX10_reads_L103]
    simp (disch := omega) only [zlit, zz, if_pos, if_neg, if_true, if_false, zgd', zl, zbs, zbz, encz, hx]
    exact ih n (i + 1) (10 * acc + x) v3 (nI (10 * acc + x)) (nI (i + 1)) M_coming M_comingMany M_going M_goingMany M_minute M_pile M_high M_where M_latest (by omega) (by omega) rfl rfl (fun j y hy => by
      have := h5 (j + 1) y (by simpa using hy)
      rw [show i + 1 + j = i + (j + 1) by omega]
      exact this)
theorem sX10_reads_L70 {r : SR} {sz d : Nat} {el : Nat → Int32} (fuel : Nat) (M_guests : Int32) (M_heaps : Int32) (M_holds : Int32) (M_hooks : Int32) (M_letters : Int32) (M_rule : Nat → Int32) (M_size : Nat → Int32) (M_items : Nat → Int32) (p1 : Int32) (p2 : Int32) {M_kind M_figure M_told : Nat → Int32} {M_back M_mistakes : Int32} (hf : 100 < fuel) (hr : okR r) (hm : mR r M_guests M_kind M_figure M_told M_heaps M_holds M_back M_mistakes M_hooks M_letters M_rule) (hN6 : rN r ≤ 6) (hd : d < 8) (hp : p1 = nI d) (hs : M_size d = nI sz) (hsz : sz ≤ 100) (hel : ∀ i, i < 100 → el i = M_items (100 * d + i)) :
    ∀ (l : List Nat) (n c : Nat) (b : Option Nat) (M_coming : Nat → Int32) (M_comingMany : Int32) (M_going : Nat → Int32) (M_goingMany : Int32) (M_minute : Nat → Int32) (M_pile : Nat → Int32) (M_high : Nat → Int32) (M_where : Nat → Int32) (M_latest : Int32), l.length < n → pmI (rN r) l M_coming → (∀ x, b = some x → x < 1000000) → cM M_minute (mnR r) (rN r) → M_comingMany = nI (rN r) →
      ∃ o, fX10_reads_L70 fuel M_guests M_heaps M_holds M_hooks M_letters M_rule M_size M_items p1 p2 n (nI c) (enc b) (zb01 (decide (l ≠ []))) M_coming M_comingMany M_going M_goingMany M_minute M_pile M_high M_where M_latest = some o ∧ o.1 = if p2 = nI 0 then nI (l.foldl (stR (rdQ r sz el)) (c, b)).1 else enc (l.foldl (stR (rdQ r sz el)) (c, b)).2 := by
  have hN := hr.1
  subst hp
  intro l
  induction l with
  | nil =>
    intro n c b M_coming M_comingMany M_going M_goingMany M_minute M_pile M_high M_where M_latest h2 h3 h4 h5 h6
    obtain ⟨n, rfl⟩ : ∃ k, n = k + 1 := ⟨n - 1, by omega⟩
    rw [fX10_reads_L70, show (0 : Int32) = nI 0 from rfl, if_pos (show zb01 (decide (([] : List Nat) ≠ [])) = nI 0 from rfl)]
    unfold fX10_reads_J150
    rw [show (0 : Int32) = nI 0 from rfl]
    by_cases q : p2 = nI 0
    · rw [if_pos q, if_pos q]; exact ⟨_, rfl, rfl⟩
    · rw [if_neg q, if_neg q]; exact ⟨_, rfl, rfl⟩
  | cons w t ih =>
    intro n c b M_coming M_comingMany M_going M_goingMany M_minute M_pile M_high M_where M_latest h2 h3 h4 h5 h6
    obtain ⟨n, rfl⟩ : ∃ k, n = k + 1 := ⟨n - 1, by omega⟩
    subst h6
    rw [List.length_cons] at h2
    have hw := h3.2.1 w List.mem_cons_self
    have had := h3.2.2 w t rfl
    have hok := pm_ok (rN r) hN6 w hw
    obtain ⟨y, y1, y2, y3⟩ := sX10_layR (fuel := fuel) hf hr ⟨M_told, hm⟩ h5 (okC_ordD hr hN6 hw) had M_pile M_high M_where M_latest
    rw [ordD_len] at y1
    have hkH := okH_lay hr (okC_ordD hr hN6 hw)
    have hz := sX10_isLaidSo (fuel := fuel) (it := M_items) hf y2 hkH hd hs hsz
    have heq : eqL (fun j => M_items (100 * d + j)) 0 ((layR r (ordD (rN r) w)).1 0) = eqL el 0 ((layR r (ordD (rN r) w)).1 0) := eqL_congr _ 0 (fun j hj => (hel j (by have := (hkH 0).1; omega)).symm)
    rw [heq] at hz
    have hz' : fX10_isLaidSo fuel y.1 y.2.1 M_size M_items (nI d) = some (zb01 (rdQ r sz el w)) := hz
    obtain ⟨r2, x1, x2⟩ := sX10_next_coming (fuel := fuel) hf hN (ordD_cM had)
    rw [← hm.1, (ck_step h3.1).1] at x1
    have aft : ∀ (c2 : Nat) (b2 : Option Nat) (pl hi wr : Nat → Int32) (la : Int32), (∀ x, b2 = some x → x < 1000000) → stR (rdQ r sz el) (c, b) w = (c2, b2) → ∃ o, fX10_reads_J133 fuel M_guests (fX10_reads_L70 fuel M_guests M_heaps M_holds M_hooks M_letters M_rule M_size M_items (nI d) p2 n) (nI c2) (enc b2) M_coming (nI (rN r)) M_going M_goingMany M_minute pl hi wr la = some o ∧ o.1 = if p2 = nI 0 then nI ((w :: t).foldl (stR (rdQ r sz el)) (c, b)).1 else enc ((w :: t).foldl (stR (rdQ r sz el)) (c, b)).2 := by
      intro c2 b2 pl hi wr la hb2 e
      unfold fX10_reads_J133
      rw [x1, zbs, List.foldl_cons, e]
      dsimp only
      exact ih n c2 b2 r2 (nI (rN r)) M_going M_goingMany M_minute pl hi wr la (by omega) (pmI_next h3 x2) hb2 h5 rfl
    rw [fX10_reads_L70, show (0 : Int32) = nI 0 from rfl, if_neg (show ¬ zb01 (decide (w :: t ≠ [])) = nI 0 by simp [zb01]; exact z10), y1, zbs, hz', zbs]
    cases q : rdQ r sz el w with
    | false =>
      rw [if_pos (show zb01 false = nI 0 from rfl)]
      exact aft c b _ _ _ _ h4 (by unfold stR; rw [q, if_neg (by decide)])
    | true =>
      rw [if_neg (show ¬ zb01 true = nI 0 from z10), zl, show (1 : Int32) = nI 1 from rfl, nI_add, show (-4 : Int32) = zNo from rfl]
      cases b with
      | none =>
        rw [if_pos (show enc none = zNo from rfl)]
        have hl := sX10_reads_L103 (N := rN r) fuel M_guests (fX10_reads_L70 fuel M_guests M_heaps M_holds M_hooks M_letters M_rule M_size M_items (nI d) p2 n) hN hm.1 (ordD (rN r) w) fuel 0 0 (nI (c + 1)) (nI 0) (nI 0) M_coming (nI (rN r)) M_going M_goingMany M_minute y.1 y.2.1 y.2.2.1 y.2.2.2 (by rw [ordD_len]; omega) (by rw [ordD_len]; omega) rfl rfl (fun i x hx => by rw [Nat.zero_add]; exact had i x hx)
        rw [hl]
        have hw2 : (ordD (rN r) w).foldl (fun a x => 10 * a + x) 0 = w := hok.2.2.2.1
        rw [hw2]
        exact aft (c + 1) (some w) _ _ _ _ (fun x hx => by cases hx; exact hok.2.2.2.2) (by unfold stR; rw [q, if_pos rfl])
      | some x =>
        have := h4 x rfl
        rw [if_neg (show ¬ enc (some x) = zNo from nI_m4 (by omega))]
        exact aft (c + 1) (some x) _ _ _ _ h4 (by unfold stR; rw [q, if_pos rfl])
theorem u_reads {r : SR} (fuel : Nat) (s_holds : Nat → Int32) (s_size : Nat → Int32) (s_el : Nat → Nat → Int32) (d_guests : Int32) (d_kinds : Nat → Int32) (d_figures : Nat → Int32) (d_minutes : Nat → Int32) (d_settings : Nat → Int32) (d_hooks : Int32) (d_letters : Nat → Int32) (d_letterCount : Int32) (q_found : Int32) (q_foundLifts : Int32) (m_room : Nat) (m_order : Nat → Int32) (m_weights : Nat → Int32) (m_black : Nat → Int32) (z_going : Nat → Int32) (z_coming : Nat → Int32) (z_holds : Int32) (z_latest : Int32) (c_heaps : Int32) (c_piles : Nat → Nat → Int32) (c_heights : Nat → Int32) (c_spots : Nat → Int32) (ad_d : Nat → Nat) (p1 : Int32) (p2 : Int32) (M_guests : Int32) (M_kind : Nat → Int32) (M_figure : Nat → Int32) (M_told : Nat → Int32) (M_heaps : Int32) (M_holds : Int32) (M_hooks : Int32) (M_letters : Int32) (M_rule : Nat → Int32) (M_coming : Nat → Int32) (M_comingMany : Int32) (M_going : Nat → Int32) (M_goingMany : Int32) (M_minute : Nat → Int32) (M_pile : Nat → Int32) (M_high : Nat → Int32) (M_where : Nat → Int32) (M_latest : Int32) (M_held : Nat → Int32) (M_size : Nat → Int32) (M_items : Nat → Int32) (M_back : Int32) (M_mistakes : Int32) (s_kind : Nat → Int32) (s_figure : Nat → Int32) (s_sort : Nat → Int32) (M_kindOn : Nat → Int32) (M_figureOn : Nat → Int32) (M_sorts : Nat → Int32) (hf : 1000 < fuel) (hr : okR r) (hc : cR r d_guests d_kinds d_figures d_minutes d_settings d_hooks d_letters d_letterCount) (hm : mR r M_guests M_kind M_figure M_told M_heaps M_holds M_back M_mistakes M_hooks M_letters M_rule) (hs : cSH s_holds s_kind s_figure s_sort s_size s_el M_held M_kindOn M_figureOn M_sorts M_size M_items) : ∃ o p, fX9_reads fuel s_holds s_size s_el d_guests d_kinds d_figures d_minutes d_settings d_hooks d_letters d_letterCount q_found q_foundLifts m_room m_order m_weights m_black z_going z_coming z_holds z_latest c_heaps c_piles c_heights c_spots ad_d p1 p2 = some o ∧ fX10_reads fuel M_guests M_kind M_figure M_told M_heaps M_holds M_hooks M_letters M_rule M_coming M_comingMany M_going M_goingMany M_minute M_pile M_high M_where M_latest M_held M_size M_items p1 p2 = some p ∧ o.1 = p.1 := by
  have hN := hr.1
  unfold fX9_reads fX10_reads
  have c1 := hc.1
  have m1 := hm.1
  have e0 : (0 : Int32) = nI 0 := rfl
  have e1 : (1 : Int32) = nI 1 := rfl
  have e2 : (2 : Int32) = nI 2 := rfl
  have e6 : (6 : Int32) = nI 6 := rfl
  rw [e0, e1, e2, e6]
  rcases shcase (fuel := fuel) p1 with ⟨d, hd, rfl, a1, a2⟩ | ⟨a1, a2⟩
  · rw [a1, a2, zbs, zbs, if_neg z10, if_neg z10]
    rcases fs_case (fuel := fuel) p2 with ⟨h01, b1, b2⟩ | ⟨b1, b2⟩
    · obtain ⟨h, k1, k2, k3, k4, k5⟩ := hs d hd
      have hz8 : zin (nI d) 8 = true := by rw [zin_nI (by omega)]; simpa using hd
      have hcl : (nI d).toNatClampNeg = d := nI_clamp (by omega)
      rw [b1, b2, zbs, zbs, if_neg z10, if_neg z10, sX9_refusalOf hd k2 k1 (by decide) a1, zbs, hz8, zgt, zgt, hcl, k3]
      by_cases q2 : h = 2
      · obtain ⟨s, n, s1, s2, s3, s4, s5, s6, s7⟩ := k5 q2
        subst q2
        rw [if_neg (show ¬ 2 = 0 by decide), if_pos (show 2 = 2 from rfl), if_pos z00, if_pos (show nI 2 = nI 2 from rfl)]
        by_cases q6 : rN r ≤ 6
        · have hle : nI (rN r) ≤ nI 6 := (nI_leI (by omega) (by decide)).mpr q6
          rw [if_pos (show d_guests ≤ nI 6 by rw [c1]; exact hle), if_pos (show M_guests ≤ nI 6 by rw [m1]; exact hle)]
          unfold fX8_tryAllComings
          have hfn : fX8_findNothing fuel q_found q_foundLifts = some (enc none, enc0 none) := rfl
          obtain ⟨q, q1, q2', q3, q4, q5, q6'⟩ := sX3_beginR (fuel := fuel) (by omega) hr hc m_order m_weights m_black z_going z_coming
          obtain ⟨u, u1, u2, u3, u4, u5, u6⟩ := sX10_usualR (fuel := fuel) (by omega) hr hm M_coming M_comingMany M_going M_goingMany M_minute
          have hhm := sX4_howMany (fuel := fuel) (N := rN r) (by omega) q6
          have hpl := pm_len (rN r) q6
          rw [← c1] at hhm
          obtain ⟨o, o1, o2, o3⟩ := sX8_comings_L26 (r := r) (cap := (pmL (rN r)).length) (sz := n) fuel s_size s_el d_guests d_settings d_hooks d_letters d_letterCount d (by omega) hr hc q6 (by omega) s5 s2 (pmL (rN r)) fuel 0 0 none (enc none) (enc0 none) q.1 q.2.1 q.2.2.1 q.2.2.2.1 q.2.2.2.2 z_holds z_latest c_heaps c_piles c_heights c_spots (by omega) (by omega) (pmI_0 q6 q6') rfl rfl (fun x hx => by cases hx) q5
          obtain ⟨p, p1', p2'⟩ := sX10_reads_L70 (r := r) (sz := n) (d := d) (el := s_el d) fuel M_guests M_heaps M_holds M_hooks M_letters M_rule M_size M_items (nI d) p2 (by omega) hr hm q6 hd rfl s6 s2 s7 (pmL (rN r)) fuel 0 none u.1 u.2.1 u.2.2.1 u.2.2.2.1 u.2.2.2.2 M_pile M_high M_where M_latest (by omega) (pmI_0 q6 u2) (fun x hx => by cases hx) u6 u3
          obtain ⟨t2, t1, -⟩ := pm_hd (rN r) q6
          have hne : pmL (rN r) ≠ [] := by rw [t1]; simp
          rw [decide_eq_true hne] at p1'
          rw [hfn, zbs, q1, zbs, hhm, zbs, u1, zbs, show (-4 : Int32) = enc none from rfl, e0]
          dsimp only
          rw [o1, zbs, show nI 1 = zb01 true from rfl, p1']
          by_cases q : p2 = nI 0
          · rw [if_pos q]
            rw [if_pos q] at p2'
            exact ⟨_, _, rfl, rfl, by rw [p2']; exact o2⟩
          · rw [if_neg q]
            rw [if_neg q] at p2'
            exact ⟨_, _, rfl, rfl, by rw [p2']; exact o3⟩
        · have hnle : ¬ nI (rN r) ≤ nI 6 := fun h => q6 ((nI_leI (by omega) (by decide)).mp h)
          rw [if_neg (show ¬ d_guests ≤ nI 6 by rw [c1]; exact hnle), if_neg (show ¬ M_guests ≤ nI 6 by rw [m1]; exact hnle)]
          exact ⟨_, _, rfl, rfl, rfl⟩
      · rw [if_neg (fun q => q2 ((nI_eq (by omega) (by decide)).mp q))]
        by_cases q0 : h = 0
        · subst q0
          rw [if_pos (show 0 = 0 from rfl), if_neg m11, if_pos z00]
          exact ⟨_, _, rfl, rfl, rfl⟩
        · rw [if_neg q0, if_neg q2, if_neg m12, if_neg (fun q => q0 ((nI_eq (by omega) (by decide)).mp q))]
          exact ⟨_, _, rfl, rfl, rfl⟩
    · rw [b1, b2, zbs, zbs, if_pos z00, if_pos z00]
      exact ⟨_, _, rfl, rfl, rfl⟩
  · rw [a1, a2, zbs, zbs, if_pos z00, if_pos z00]
    exact ⟨_, _, rfl, rfl, rfl⟩
