/-! The calls: fewest, shown. -/
def mxL : List Nat → Nat
  | [] => 0
  | x :: t => max (mxL t) x
theorem mxL_le {B : Nat} : ∀ l : List Nat, (∀ v ∈ l, v ≤ B) → mxL l ≤ B
  | [], _ => Nat.zero_le _
  | x :: t, h => by
    rw [mxL]
    exact Nat.max_le.mpr ⟨mxL_le t (fun v hv => h v (List.mem_cons_of_mem _ hv)), h x List.mem_cons_self⟩
theorem stepS_ge {mn : Nat → Nat} {g : Nat} : ∀ (t : List Nat) (j acc : Nat), acc ≤ stepS mn g j t acc
  | [], _, _ => Nat.le_refl _
  | v :: t, j, acc => by
    rw [stepS]
    refine Nat.le_trans ?_ (stepS_ge t (j + 1) _)
    split
    · exact Nat.le_max_left _ _
    · exact Nat.le_refl _
theorem chL_pos (mn : Nat → Nat) : ∀ (m i : Nat), ∀ v ∈ chL mn m i, 0 < v
  | 0, _, v, h => by simp [chL] at h
  | m + 1, i, v, h => by
    rw [chL] at h
    rcases List.mem_cons.mp h with h | h
    · rw [h]
      exact stepS_ge _ _ _
    · exact chL_pos mn m (i + 1) v h
theorem sX10_chain_L13 {fuel N : Nat} {mn : Nat → Nat} {mr : Nat → Int32} (hf : 100 < fuel) (hN : N ≤ 10) (hM : cM mr mn N) :
    ∀ (i w m : Nat) (row : Nat → Int32), i + m = N → i < w → arrAt row i (chL mn m i) → ∃ r2, fX10_chains_L13 fuel (nI N) w (nI (mxL (chL mn m i))) (ixm i) mr row = some (nI (mxL (chL mn N 0)), mr, r2) ∧ arr r2 (chL mn N 0) := by
  intro i
  induction i with
  | zero =>
    intro w m row h1 h2 had
    obtain ⟨w, rfl⟩ : ∃ k, w = k + 1 := ⟨w - 1, by omega⟩
    have e : m = N := by omega
    subst e
    rw [fX10_chains_L13, ixm_0]
    refine ⟨row, ?_, fun j x hx => ?_⟩
    · simp (disch := omega) only [zlit, zz, if_pos, if_neg, if_true, if_false, zgd', zl, zbs, zbz, encz]
    · have := had j x hx
      rwa [Nat.zero_add] at this
  | succ i ih =>
    intro w m row h1 h2 had
    obtain ⟨w, rfl⟩ : ∃ k, w = k + 1 := ⟨w - 1, by omega⟩
    rw [fX10_chains_L13, ixm_s]
    have hlen := chL_len mn m (i + 1)
    have hmx := mxL_le _ (chL_le mn m (i + 1))
    obtain ⟨r2, e1, e2, e3⟩ := sX10_chain_L28 hN hM (show i < N by omega) (fX10_chains_L13 fuel (nI N) w) (nI (mxL (chL mn m (i + 1)))) (chL mn m (i + 1)) fuel (i + 1) 1 (upd row i (nI 1)) (by omega) (by omega) (by omega) (fun j x hx => by simp only [upd, show ¬ i + 1 + j = i by omega, if_false]; exact had j x hx) (by simp [upd]) (by omega) (fun v hv => by have := chL_le mn m (i + 1) v hv; omega)
    have hst := stepS_le (mn := mn) (g := i) (B := 100) (chL mn m (i + 1)) (i + 1) 1 (fun v hv => by have := chL_le mn m (i + 1) v hv; omega) (by omega)
    obtain ⟨r3, f1, f2⟩ := ih w (m + 1) r2 (by omega) (by omega) (fun j x hx => by
      rw [chL] at hx
      cases j with
      | zero => cases hx; exact e2
      | succ j =>
        have hx' : (chL mn m (i + 1))[j]? = some x := by simpa using hx
        rw [e3 _ (by omega)]
        simp only [upd, show ¬ i + (j + 1) = i by omega, if_false]
        rw [show i + (j + 1) = i + 1 + j by omega]
        exact had j x hx')
    refine ⟨r3, ?_, f2⟩
    rw [← f1]
    have e4 : fX10_chains_J89 (fX10_chains_L13 fuel (nI N) w) (nI (mxL (chL mn m (i + 1)))) (nI i) mr r2 = fX10_chains_L13 fuel (nI N) w (nI (mxL (chL mn (m + 1) i))) (ixm i) mr r2 := by
      unfold fX10_chains_J89
      have e5 : mxL (chL mn (m + 1) i) = max (mxL (chL mn m (i + 1))) (stepS mn i (i + 1) (chL mn m (i + 1)) 1) := rfl
      rw [e5]
      simp (disch := omega) only [zlit, zz, if_pos, if_neg, if_true, if_false, zgd', zl, zbs, zbz, encz, ixm_m1, e2, nI_zmax]
    rw [← e4, ← e1]
    simp (disch := omega) only [zlit, zz, if_pos, if_neg, if_true, if_false, zgd', zl, zbs, zbz, encz]
theorem sX8_fewest_L9 {N : Nat} {l : List Nat} {row no nw nb go co : Nat → Int32} (hN : N ≤ 10) (hl : l.length = N) (hv : ∀ v ∈ l, v ≤ 100) (had : arr row l) :
    ∀ (m w i acc : Nat), i + m = N → m < w → acc ≤ 100 → fX8_fewestHeaps_L9 (nI N) w (nI acc) (nI i) row no nw nb go co = some (nI (max acc (mxL (l.drop i))), row, no, nw, nb, go, co) := by
  intro m
  induction m with
  | zero =>
    intro w i acc h1 h2 h3
    obtain ⟨w, rfl⟩ : ∃ k, w = k + 1 := ⟨w - 1, by omega⟩
    rw [fX8_fewestHeaps_L9, List.drop_eq_nil_of_le (by omega)]
    have e : max acc (mxL []) = acc := by rw [mxL]; omega
    rw [e]
    simp (disch := omega) only [zlit, zz, if_pos, if_neg, if_true, if_false, zgd', zl, zbs, zbz, encz]
  | succ m ih =>
    intro w i acc h1 h2 h3
    obtain ⟨w, rfl⟩ : ∃ k, w = k + 1 := ⟨w - 1, by omega⟩
    have hi : i < l.length := by omega
    have hx := had i l[i] (List.getElem?_eq_getElem hi)
    have hb := hv l[i] (List.getElem_mem hi)
    rw [fX8_fewestHeaps_L9, List.drop_eq_getElem_cons hi, mxL]
    generalize l[i] = c at hx hb ⊢
    simp (disch := omega) only [zlit, zz, if_pos, if_neg, if_true, if_false, zgd', zl, zbs, zbz, encz, hx, nI_zmax]
    rw [ih w (i + 1) (max acc c) (by omega) (by omega) (by omega)]
    congr 3
    omega
theorem sX8_fewestHeaps {r : SR} (fuel : Nat) (q_row : Nat → Int32) (n_order : Nat → Int32) (n_weights : Nat → Int32) (n_black : Nat → Int32) (y_going : Nat → Int32) (y_coming : Nat → Int32) (r_guests : Int32) (r_kinds : Nat → Int32) (r_figures : Nat → Int32) (r_minutes : Nat → Int32) {r_hooks r_letterCount : Int32} {r_settings r_letters : Nat → Int32} (hf : 100 < fuel) (hr : okR r) (hc : cR r r_guests r_kinds r_figures r_minutes r_settings r_hooks r_letters r_letterCount) : ∃ o, fX8_fewestHeaps fuel q_row n_order n_weights n_black y_going y_coming r_guests r_kinds r_figures r_minutes = some o ∧ o.1 = nI (mxL (chL (mnR r) (rN r) 0)) ∧ arr o.2.1 (chL (mnR r) (rN r) 0) ∧ cM o.2.2.2.2.2.1 (mnR r) (rN r) := by
  unfold fX8_fewestHeaps fX8_chainLengths
  obtain ⟨b, b1, b2, b3, b4, b5, b6⟩ := sX3_beginR hf hr hc n_order n_weights n_black y_going y_coming
  rw [b1, zbs]
  have hN := hr.1
  have e1 : r_guests - 1 = ixm (rN r) := by rw [hc.1]; rfl
  obtain ⟨r2, f1, f2⟩ := sX8_chain_L15 (no := b.1) (nw := b.2.1) (nb := b.2.2.1) (co := b.2.2.2.2) hf hN b5 (rN r) fuel 0 q_row (by omega) (by omega) (fun j x hx => by simp [chL] at hx)
  rw [zl, e1, hc.1, f1, zbs]
  have hv : ∀ v ∈ chL (mnR r) (rN r) 0, v ≤ 100 := fun v hv => by have := chL_le _ _ _ v hv; omega
  have := sX8_fewest_L9 (no := b.1) (nw := b.2.1) (nb := b.2.2.1) (go := b.2.2.2.1) (co := b.2.2.2.2) hN (chL_len _ _ _) hv f2 (rN r) fuel 0 0 (by omega) (by omega) (by omega)
  rw [show (0 : Int32) = nI 0 from rfl, this]
  exact ⟨_, rfl, by rw [List.drop_zero, Nat.zero_max], f2, b5⟩
theorem sX10_chains {r : SR} (fuel : Nat) (M_guests : Int32) (M_kind : Nat → Int32) (M_figure : Nat → Int32) (M_told : Nat → Int32) (M_minute : Nat → Int32) (M_longest : Nat → Int32) {M_heaps M_holds M_back M_mistakes M_hooks M_letters : Int32} {M_rule : Nat → Int32} (hf : 100 < fuel) (hr : okR r) (hm : mR r M_guests M_kind M_figure M_told M_heaps M_holds M_back M_mistakes M_hooks M_letters M_rule) : ∃ o, fX10_chains fuel M_guests M_kind M_figure M_told M_minute M_longest = some o ∧ o.1 = nI (mxL (chL (mnR r) (rN r) 0)) ∧ cM o.2.1 (mnR r) (rN r) ∧ arr o.2.2 (chL (mnR r) (rN r) 0) := by
  unfold fX10_chains
  have hN := hr.1
  have e1 : M_guests - 1 = ixm (rN r) := by rw [hm.1]; rfl
  obtain ⟨q, q1, q2⟩ := sX10_minutesAsTold hf hN hm.2.1 M_minute
  rw [hm.1] at e1 ⊢
  rw [q1, zbs, zl, e1]
  obtain ⟨r2, f1, f2⟩ := sX10_chain_L13 hf hN q2 (rN r) fuel 0 M_longest (by omega) (by omega) (fun j x hx => by simp [chL] at hx)
  have e2 : nI (mxL (chL (mnS (rK r) (rF r) (rM r)) 0 (rN r))) = 0 := rfl
  rw [e2] at f1
  rw [f1]
  exact ⟨_, rfl, rfl, q2, f2⟩
theorem u_fewest {r : SR} (fuel : Nat) (d_guests : Int32) (d_kinds : Nat → Int32) (d_figures : Nat → Int32) (d_minutes : Nat → Int32) (q_row : Nat → Int32) (m_order : Nat → Int32) (m_weights : Nat → Int32) (m_black : Nat → Int32) (z_going : Nat → Int32) (z_coming : Nat → Int32) (M_guests : Int32) (M_kind : Nat → Int32) (M_figure : Nat → Int32) (M_told : Nat → Int32) (M_minute : Nat → Int32) (M_longest : Nat → Int32) (d_settings : Nat → Int32) (d_hooks : Int32) (d_letters : Nat → Int32) (d_letterCount : Int32) (M_heaps : Int32) (M_holds : Int32) (M_back : Int32) (M_mistakes : Int32) (M_hooks : Int32) (M_letters : Int32) (M_rule : Nat → Int32) (hf : 100 < fuel) (hr : okR r) (hc : cR r d_guests d_kinds d_figures d_minutes d_settings d_hooks d_letters d_letterCount) (hm : mR r M_guests M_kind M_figure M_told M_heaps M_holds M_back M_mistakes M_hooks M_letters M_rule) : ∃ o p, fX9_fewest fuel d_guests d_kinds d_figures d_minutes q_row m_order m_weights m_black z_going z_coming = some o ∧ fX10_fewest fuel M_guests M_kind M_figure M_told M_minute M_longest = some p ∧ o.1 = p.1 := by
  unfold fX9_fewest fX10_fewest
  obtain ⟨y, y1, y2, y3, y4⟩ := sX8_fewestHeaps fuel q_row m_order m_weights m_black z_going z_coming d_guests d_kinds d_figures d_minutes hf hr hc
  obtain ⟨w, w1, w2, w3, w4⟩ := sX10_chains fuel M_guests M_kind M_figure M_told M_minute M_longest hf hr hm
  rw [y1, w1, zbs, zbs]
  exact ⟨_, _, rfl, rfl, by rw [y2, w2]⟩
/-- the guest shown at a place -/
def shwS (mn : Nat → Nat) (i : Nat) : Nat → List Nat → Nat → Nat → Option Nat → Option Nat
  | _, [], _, _, _ => none
  | g, v :: t, w, k, fr => if v = w ∧ (∀ x, fr = some x → mn x ≤ mn g) then (if k = i then some g else shwS mn i (g + 1) t (w - 1) (k + 1) (some g)) else shwS mn i (g + 1) t w k fr
theorem shwS_none {mn : Nat → Nat} {i : Nat} : ∀ (t : List Nat) (g w k : Nat) (fr : Option Nat), (∀ v ∈ t, 0 < v) → w + k ≤ i → shwS mn i g t w k fr = none
  | [], _, _, _, _, _, _ => rfl
  | v :: t, g, w, k, fr, h1, h2 => by
    have hv := h1 v List.mem_cons_self
    have h1' := fun x hx => h1 x (List.mem_cons_of_mem _ hx)
    rw [shwS]
    split
    · rename_i q
      rw [if_neg (by omega)]
      exact shwS_none t _ _ _ _ h1' (by omega)
    · exact shwS_none t _ _ _ _ h1' h2
theorem nI_lt_aw {k : Nat} (h : k < 2 ^ 31) : (nI k < zAw) = False := eq_false (fun q => by have := Int32.lt_iff_toInt_lt.mp q; rw [zAw_toInt, nI_toInt h] at this; omega)
def encL (mn : Nat → Nat) (fr : Option Nat) : Int32 := match fr with | none => zAw | some x => nI (mn x)
theorem sX8_shown_L15 {N i : Nat} {mn : Nat → Nat} {row no nw nb go co : Nat → Int32} (hN : N ≤ 10) (hi : i < 2 ^ 31) (hM : cM go mn N) :
    ∀ (t : List Nat) (n g w k : Nat) (fr : Option Nat), g + t.length = N → t.length < n → (∀ v ∈ t, 0 < v ∧ v ≤ 100) → arrAt row g t → w ≤ 100 → k + w ≤ 200 → (∀ x, fr = some x → x < N) →
      ∃ o, fX8_shownGuest_L15 (nI N) (nI i) n (nI w) (encL mn fr) (nI k) (nI g) row no nw nb go co = some o ∧ o.1 = enc (shwS mn i g t w k fr) := by
  intro t
  induction t with
  | nil =>
    intro n g w k fr h1 h2 h3 h4 h5 h6 h7
    obtain ⟨n, rfl⟩ : ∃ k, n = k + 1 := ⟨n - 1, by omega⟩
    rw [List.length_nil] at h1
    rw [fX8_shownGuest_L15, shwS]
    simp (disch := omega) only [zlit, zz, if_pos, if_neg, if_true, if_false, zgd', zl, zbs, zbz, encz]
    exact ⟨_, rfl, rfl⟩
  | cons v t ih =>
    intro n g w k fr h1 h2 h3 h4 h5 h6 h7
    obtain ⟨n, rfl⟩ : ∃ k, n = k + 1 := ⟨n - 1, by omega⟩
    rw [List.length_cons] at h1 h2
    have hj : row g = nI v := h4 0 v rfl
    have hv := h3 v List.mem_cons_self
    have h3' : ∀ x ∈ t, 0 < x ∧ x ≤ 100 := fun x hx => h3 x (List.mem_cons_of_mem _ hx)
    have h4' : arrAt row (g + 1) t := fun j x hx => by
      have := h4 (j + 1) x (by simpa using hx)
      rw [show g + 1 + j = g + (j + 1) by omega]
      exact this
    have mg := hM g (by omega)
    have hlt : (nI (mn g) < encL mn fr) = ¬ (∀ x, fr = some x → mn x ≤ mn g) := by
      cases fr with
      | none =>
        show (nI (mn g) < zAw) = _
        rw [nI_lt_aw (by omega)]
        simp
      | some x =>
        show (nI (mn g) < nI (mn x)) = _
        have := (hM x (h7 x rfl)).2
        rw [nI_ltI (by omega) (by omega)]
        simp
    rw [fX8_shownGuest_L15]
    by_cases q1 : v = w
    · by_cases q2 : ∀ x, fr = some x → mn x ≤ mn g
      · have eS : shwS mn i g (v :: t) w k fr = if k = i then some g else shwS mn i (g + 1) t (w - 1) (k + 1) (some g) := by rw [shwS, if_pos ⟨q1, q2⟩]
        rw [eS]
        have hlt' : (nI (mn g) < encL mn fr) = False := by rw [hlt]; exact eq_false (fun h => h q2)
        by_cases q3 : k = i
        · rw [if_pos q3] at eS ⊢
          subst q1 q3
          simp (disch := omega) only [zlit, zz, if_pos, if_neg, if_true, if_false, zgd', zl, zbs, zbz, encz, hj, mg.1, hlt']
          exact ⟨_, rfl, rfl⟩
        · rw [if_neg q3]
          obtain ⟨o, o1, o2⟩ := ih n (g + 1) (w - 1) (k + 1) (some g) (by omega) (by omega) h3' h4' (by omega) (by omega) (fun x hx => by cases hx; omega)
          refine ⟨o, ?_, o2⟩
          rw [← o1]
          subst q1
          simp (disch := omega) only [zlit, zz, if_pos, if_neg, if_true, if_false, zgd', zl, zbs, zbz, encz, hj, mg.1, hlt', fX8_shownGuest_J77]
          rfl
      · have eS : shwS mn i g (v :: t) w k fr = shwS mn i (g + 1) t w k fr := by rw [shwS, if_neg (fun h => q2 h.2)]
        rw [eS]
        have hlt' : (nI (mn g) < encL mn fr) = True := by rw [hlt]; exact eq_true q2
        obtain ⟨o, o1, o2⟩ := ih n (g + 1) w k fr (by omega) (by omega) h3' h4' h5 h6 h7
        refine ⟨o, ?_, o2⟩
        rw [← o1]
        subst q1
        simp (disch := omega) only [zlit, zz, if_pos, if_neg, if_true, if_false, zgd', zl, zbs, zbz, encz, hj, mg.1, hlt', fX8_shownGuest_J77]
    · have eS : shwS mn i g (v :: t) w k fr = shwS mn i (g + 1) t w k fr := by rw [shwS, if_neg (fun h => q1 h.1)]
      rw [eS]
      obtain ⟨o, o1, o2⟩ := ih n (g + 1) w k fr (by omega) (by omega) h3' h4' h5 h6 h7
      refine ⟨o, ?_, o2⟩
      rw [← o1]
      simp (disch := omega) only [zlit, zz, if_pos, if_neg, if_true, if_false, zgd', zl, zbs, zbz, encz, hj, fX8_shownGuest_J77]
theorem sX10_shown_L28 {N i : Nat} {mn : Nat → Nat} {row mr : Nat → Int32} (hN : N ≤ 10) (hi : i < 2 ^ 31) (hM : cM mr mn N) :
    ∀ (t : List Nat) (n g w k : Nat) (fr : Option Nat), g + t.length = N → t.length < n → (∀ v ∈ t, 0 < v ∧ v ≤ 100) → arrAt row g t → w ≤ 100 → k + w ≤ 200 → (∀ x, fr = some x → x < N) →
      ∃ o, fX10_shown_L28 (nI N) (nI i) n (nI w) (enc fr) (nI k) (nI g) mr row = some o ∧ o.1 = enc (shwS mn i g t w k fr) := by
  intro t
  induction t with
  | nil =>
    intro n g w k fr h1 h2 h3 h4 h5 h6 h7
    obtain ⟨n, rfl⟩ : ∃ k, n = k + 1 := ⟨n - 1, by omega⟩
    rw [List.length_nil] at h1
    rw [fX10_shown_L28, shwS]
    simp (disch := omega) only [zlit, zz, if_pos, if_neg, if_true, if_false, zgd', zl, zbs, zbz, encz]
    exact ⟨_, rfl, rfl⟩
  | cons v t ih =>
    intro n g w k fr h1 h2 h3 h4 h5 h6 h7
    obtain ⟨n, rfl⟩ : ∃ k, n = k + 1 := ⟨n - 1, by omega⟩
    rw [List.length_cons] at h1 h2
    have hj : row g = nI v := h4 0 v rfl
    have hv := h3 v List.mem_cons_self
    have h3' : ∀ x ∈ t, 0 < x ∧ x ≤ 100 := fun x hx => h3 x (List.mem_cons_of_mem _ hx)
    have h4' : arrAt row (g + 1) t := fun j x hx => by
      have := h4 (j + 1) x (by simpa using hx)
      rw [show g + 1 + j = g + (j + 1) by omega]
      exact this
    have mg := hM g (by omega)
    rw [fX10_shown_L28]
    have step : ∀ (hit : v = w), ∃ o, fX10_shown_J70 (nI i) (fX10_shown_L28 (nI N) (nI i) n) (nI w) (nI k) (nI g) mr row = some o ∧ o.1 = enc (if k = i then some g else shwS mn i (g + 1) t (w - 1) (k + 1) (some g)) := by
      intro hit
      unfold fX10_shown_J70
      by_cases q3 : k = i
      · rw [if_pos q3]
        subst q3
        simp (disch := omega) only [zlit, zz, if_pos, if_neg, if_true, if_false, zgd', zl, zbs, zbz, encz]
        exact ⟨_, rfl, rfl⟩
      · rw [if_neg q3]
        obtain ⟨o, o1, o2⟩ := ih n (g + 1) (w - 1) (k + 1) (some g) (by omega) (by omega) h3' h4' (by omega) (by omega) (fun x hx => by cases hx; omega)
        refine ⟨o, ?_, o2⟩
        rw [← o1]
        simp (disch := omega) only [zlit, zz, if_pos, if_neg, if_true, if_false, zgd', zl, zbs, zbz, encz, fX10_shown_J88]
    have skip : ∃ o, fX10_shown_J88 (fX10_shown_L28 (nI N) (nI i) n) (nI w) (enc fr) (nI k) (nI g) mr row = some o ∧ o.1 = enc (shwS mn i (g + 1) t w k fr) := by
      obtain ⟨o, o1, o2⟩ := ih n (g + 1) w k fr (by omega) (by omega) h3' h4' h5 h6 h7
      refine ⟨o, ?_, o2⟩
      rw [← o1]
      simp (disch := omega) only [zlit, zz, if_pos, if_neg, if_true, if_false, zgd', zl, zbs, zbz, encz, fX10_shown_J88]
    by_cases q1 : v = w
    · cases fr with
      | none =>
        have eS : shwS mn i g (v :: t) w k none = if k = i then some g else shwS mn i (g + 1) t (w - 1) (k + 1) (some g) := by rw [shwS, if_pos ⟨q1, fun x hx => by cases hx⟩]
        rw [eS]
        obtain ⟨o, o1, o2⟩ := step q1
        refine ⟨o, ?_, o2⟩
        rw [← o1]
        subst q1
        simp (disch := omega) only [zlit, zz, if_pos, if_neg, if_true, if_false, zgd', zl, zbs, zbz, encz, hj]
      | some x =>
        have mx := hM x (h7 x rfl)
        have hxN := h7 x rfl
        by_cases q2 : mn x ≤ mn g
        · have eS : shwS mn i g (v :: t) w k (some x) = if k = i then some g else shwS mn i (g + 1) t (w - 1) (k + 1) (some g) := by rw [shwS, if_pos ⟨q1, fun y hy => by cases hy; exact q2⟩]
          rw [eS]
          obtain ⟨o, o1, o2⟩ := step q1
          refine ⟨o, ?_, o2⟩
          rw [← o1]
          subst q1
          simp (disch := omega) only [zlit, zz, if_pos, if_neg, if_true, if_false, zgd', zl, zbs, zbz, encz, hj, mg.1, mx.1]
        · have eS : shwS mn i g (v :: t) w k (some x) = shwS mn i (g + 1) t w k (some x) := by rw [shwS, if_neg (fun h => q2 (h.2 x rfl))]
          rw [eS]
          obtain ⟨o, o1, o2⟩ := skip
          refine ⟨o, ?_, o2⟩
          rw [← o1]
          subst q1
          simp (disch := omega) only [zlit, zz, if_pos, if_neg, if_true, if_false, zgd', zl, zbs, zbz, encz, hj, mg.1, mx.1]
    · have eS : shwS mn i g (v :: t) w k fr = shwS mn i (g + 1) t w k fr := by rw [shwS, if_neg (fun h => q1 h.1)]
      rw [eS]
      obtain ⟨o, o1, o2⟩ := skip
      refine ⟨o, ?_, o2⟩
      rw [← o1]
      simp (disch := omega) only [zlit, zz, if_pos, if_neg, if_true, if_false, zgd', zl, zbs, zbz, encz, hj]
theorem u_shown {r : SR} (fuel : Nat) (d_guests : Int32) (d_kinds : Nat → Int32) (d_figures : Nat → Int32) (d_minutes : Nat → Int32) (q_row : Nat → Int32) (m_room : Nat) (m_order : Nat → Int32) (m_weights : Nat → Int32) (m_black : Nat → Int32) (z_going : Nat → Int32) (z_coming : Nat → Int32) (ad_d : Nat → Nat) (p1 : Int32) (M_guests : Int32) (M_kind : Nat → Int32) (M_figure : Nat → Int32) (M_told : Nat → Int32) (M_minute : Nat → Int32) (M_longest : Nat → Int32) (d_settings : Nat → Int32) (d_hooks : Int32) (d_letters : Nat → Int32) (d_letterCount : Int32) (M_heaps : Int32) (M_holds : Int32) (M_back : Int32) (M_mistakes : Int32) (M_hooks : Int32) (M_letters : Int32) (M_rule : Nat → Int32) (hf : 100 < fuel) (hr : okR r) (hc : cR r d_guests d_kinds d_figures d_minutes d_settings d_hooks d_letters d_letterCount) (hm : mR r M_guests M_kind M_figure M_told M_heaps M_holds M_back M_mistakes M_hooks M_letters M_rule) : ∃ o p, fX9_shown fuel d_guests d_kinds d_figures d_minutes q_row m_room m_order m_weights m_black z_going z_coming ad_d p1 = some o ∧ fX10_shown fuel M_guests M_kind M_figure M_told M_minute M_longest p1 = some p ∧ o.1 = p.1 := by
  unfold fX9_shown fX10_shown
  have e0 : (0 : Int32) = nI 0 := rfl
  rw [e0]
  rcases icase p1 with h | ⟨i, hi, rfl⟩
  · have h0 := (zneg h).1 0 (by decide)
    rw [if_neg (by rw [h0]; exact fun h => h), if_neg (by rw [h0]; exact fun h => h)]
    exact ⟨_, _, rfl, rfl, rfl⟩
  · have h0 : nI 0 ≤ nI i := (nI_leI (by decide) hi).mpr (Nat.zero_le _)
    rw [if_pos h0, if_pos h0]
    unfold fX8_shownGuest
    have hN := hr.1
    obtain ⟨y, y1, y2, y3, y4⟩ := sX8_fewestHeaps fuel q_row m_order m_weights m_black z_going z_coming d_guests d_kinds d_figures d_minutes hf hr hc
    obtain ⟨w, w1, w2, w3, w4⟩ := sX10_chains fuel M_guests M_kind M_figure M_told M_minute M_longest hf hr hm
    rw [y1, w1, zbs, zbs, y2, w2]
    have hle := chL_le (mnR r) (rN r) 0
    have hpo := chL_pos (mnR r) (rN r) 0
    have hmx := mxL_le _ hle
    have hln := chL_len (mnR r) (rN r) 0
    have hvv : ∀ v ∈ chL (mnR r) (rN r) 0, 0 < v ∧ v ≤ 100 := fun v hv => ⟨hpo v hv, by have := hle v hv; omega⟩
    obtain ⟨o, o1, o2⟩ := sX8_shown_L15 (row := y.2.1) (no := y.2.2.1) (nw := y.2.2.2.1) (nb := y.2.2.2.2.1) (co := y.2.2.2.2.2.2) hN hi y4 (chL (mnR r) (rN r) 0) fuel 0 (mxL (chL (mnR r) (rN r) 0)) 0 none (by omega) (by omega) hvv (fun j x hx => by rw [Nat.zero_add]; exact y3 j x hx) (by omega) (by omega) (fun x hx => by cases hx)
    have e1 : (-1 : Int32) = encL (mnR r) none := rfl
    rw [← hc.1, ← e1] at o1
    rw [e0, o1, zbs]
    by_cases q : i < mxL (chL (mnR r) (rN r) 0)
    · rw [if_pos ((nI_ltI hi (by omega)).mpr q)]
      obtain ⟨p, p1, p2⟩ := sX10_shown_L28 (row := w.2.2) hN hi w3 (chL (mnR r) (rN r) 0) fuel 0 (mxL (chL (mnR r) (rN r) 0)) 0 none (by omega) (by omega) hvv (fun j x hx => by rw [Nat.zero_add]; exact w4 j x hx) (by omega) (by omega) (fun x hx => by cases hx)
      rw [← hm.1] at p1
      have e4 : (-4 : Int32) = enc none := rfl
      rw [e4, p1]
      exact ⟨_, _, rfl, rfl, by rw [p2]; exact o2⟩
    · rw [if_neg (fun h => q ((nI_ltI hi (by omega)).mp h))]
      refine ⟨_, _, rfl, rfl, ?_⟩
      show o.1 = -4
      rw [o2, shwS_none _ _ _ _ _ hpo (by omega)]
      rfl
