/-! The class begins a night; the model's usual. -/
def mnS (K F M : Nat → Nat) : Nat → Nat := fun i => goS (K i) (F i) (M i)
def wtF (K F : Nat → Nat) : Nat → Nat := fun i => wtS (K i) (F i)
theorem vp_nar_zb (b : Bool) : vp_nar .boolean (zb01 b) = zb01 b := by cases b <;> rfl
theorem sX5_goingMinute {fuel N i : Nat} {K F M : Nat → Nat} {ki fi mi : Nat → Int32} (hN : N ≤ 10) (h : kfm N K F M ki fi mi) (hi : i < N) : fX5_goingMinute fuel ki fi mi (nI i) = some (nI (mnS K F M i)) := by
  obtain ⟨h1, h2, h3, h4, h5, h6⟩ := h i hi
  unfold fX5_goingMinute
  simp (disch := omega) only [zlit, zz, if_pos, if_neg, if_true, if_false, zgd', zl, zbs, zbz, encz, h1, h3, h5, sX1_minute h2 h4 (show M i < 1000 by omega)]
  rfl
theorem sX5_weightOf {fuel N i : Nat} {K F M : Nat → Nat} {ki fi mi : Nat → Int32} (hN : N ≤ 10) (h : kfm N K F M ki fi mi) (hi : i < N) : fX5_weightOf fuel ki fi (nI i) = some (nI (wtF K F i)) := by
  obtain ⟨h1, h2, h3, h4, h5, h6⟩ := h i hi
  unfold fX5_weightOf
  simp (disch := omega) only [zlit, zz, if_pos, if_neg, if_true, if_false, zgd', zl, zbs, zbz, encz, h1, h3, sX1_weight h2 h4]
  rfl
theorem sX5_spareOf {fuel N i : Nat} {K F M : Nat → Nat} {ki fi mi : Nat → Int32} (hN : N ≤ 10) (h : kfm N K F M ki fi mi) (hi : i < N) : fX5_spareOf fuel ki fi (nI i) = some (nI (spS (K i) (F i))) := by
  obtain ⟨h1, h2, h3, h4, h5, h6⟩ := h i hi
  unfold fX5_spareOf
  simp (disch := omega) only [zlit, zz, if_pos, if_neg, if_true, if_false, zgd', zl, zbs, zbz, encz, h1, h3, sX1_spare h2 h4]
/-- what a night begins with -/
def begC (N : Nat) (K F M : Nat → Nat) (order weights black going coming : Nat → Int32) : Prop :=
  arr order (ordS (mnS K F M) (List.range N)) ∧ cM weights (wtF K F) N ∧ (∀ i, i < N → black i = zb01 (blS (K i))) ∧ cM going (mnS K F M) N ∧ arr coming (List.range N)
theorem sX3_begin_L7 {fuel N : Nat} {K F M : Nat → Nat} {ki fi mi : Nat → Int32} (hf : 100 < fuel) (hN : N ≤ 10) (h : kfm N K F M ki fi mi) :
    ∀ (m n i : Nat) (o w b go co : Nat → Int32), i + m = N → m < n → cM w (wtF K F) i → (∀ j, j < i → b j = zb01 (blS (K j))) → cM go (mnS K F M) i → (∀ j, j < i → co j = nI j) →
      ∃ r, fX3_begin_L7 fuel (nI N) ki fi mi n (nI i) o w b go co = some r ∧ begC N K F M r.1 r.2.1 r.2.2.1 r.2.2.2.1 r.2.2.2.2 := by
  intro m
  induction m with
  | zero =>
    intro n i o w b go co h1 h2 hw hb hg hc
    obtain ⟨n, rfl⟩ : ∃ k, n = k + 1 := ⟨n - 1, by omega⟩
    have hi : i = N := by omega
    subst hi
    rw [fX3_begin_L7]
    simp (disch := omega) only [zlit, zz, if_pos, if_neg, if_true, if_false, zgd', zl, zbs, zbz, encz, fX3_begin_J77]
    obtain ⟨a', e1, e2⟩ := sX3_sort hf hN hg o
    rw [e1, zbs]
    refine ⟨_, rfl, e2, hw, hb, hg, ?_⟩
    intro j x hx
    have := List.getElem?_eq_some_iff.mp hx
    obtain ⟨q1, q2⟩ := this
    rw [List.length_range] at q1
    rw [List.getElem_range] at q2
    show co j = nI x
    rw [hc j q1, q2]
  | succ m ih =>
    intro n i o w b go co h1 h2 hw hb hg hc
    obtain ⟨n, rfl⟩ : ∃ k, n = k + 1 := ⟨n - 1, by omega⟩
    obtain ⟨k1, k2, k3, k4, k5, k6⟩ := h i (by omega)
    rw [fX3_begin_L7]
    simp (disch := omega) only [zlit, zz, if_pos, if_neg, if_true, if_false, zgd', zl, zbs, zbz, encz, sX5_goingMinute hN h (show i < N by omega), sX5_weightOf hN h (show i < N by omega), k1, sX1_isBlack k2, vp_nar_zb]
    refine ih n (i + 1) _ _ _ _ _ (by omega) (by omega) ?_ ?_ ?_ ?_
    · intro j hj
      unfold upd
      by_cases q : j = i
      · subst q
        rw [if_pos rfl]
        exact ⟨rfl, by have := wtS_le (k := K j) k4; unfold wtF; omega⟩
      · rw [if_neg q]
        exact hw j (by omega)
    · intro j hj
      unfold upd
      by_cases q : j = i
      · subst q
        rw [if_pos rfl]
      · rw [if_neg q]
        exact hb j (by omega)
    · intro j hj
      unfold upd
      by_cases q : j = i
      · subst q
        rw [if_pos rfl]
        exact ⟨rfl, goS_lt (by omega)⟩
      · rw [if_neg q]
        exact hg j (by omega)
    · intro j hj
      unfold upd
      by_cases q : j = i
      · subst q
        rw [if_pos rfl]
      · rw [if_neg q]
        exact hc j (by omega)
theorem sX3_begin {fuel N : Nat} {K F M : Nat → Nat} {ki fi mi : Nat → Int32} (hf : 100 < fuel) (hN : N ≤ 10) (h : kfm N K F M ki fi mi) (o w b go co : Nat → Int32) :
    ∃ r, fX3_begin fuel o w b go co (nI N) ki fi mi = some r ∧ begC N K F M r.1 r.2.1 r.2.2.1 r.2.2.2.1 r.2.2.2.2 :=
  sX3_begin_L7 hf hN h N fuel 0 o w b go co (by omega) (by omega) (fun j hj => absurd hj (Nat.not_lt_zero j)) (fun j hj => absurd hj (Nat.not_lt_zero j)) (fun j hj => absurd hj (Nat.not_lt_zero j)) (fun j hj => absurd hj (Nat.not_lt_zero j))
/-! The model. -/
theorem sX10_minutes_L2 {fuel N : Nat} {K F M : Nat → Nat} {ki fi to : Nat → Int32} (hN : N ≤ 10) (h : kfm N K F M ki fi to) :
    ∀ (m n i : Nat) (mi : Nat → Int32), i + m = N → m < n → cM mi (mnS K F M) i → ∃ r, fX10_minutesAsTold_L2 fuel (nI N) ki fi to n (nI i) mi = some r ∧ cM r (mnS K F M) N := by
  intro m
  induction m with
  | zero =>
    intro n i mi h1 h2 hg
    obtain ⟨n, rfl⟩ : ∃ k, n = k + 1 := ⟨n - 1, by omega⟩
    rw [fX10_minutesAsTold_L2]
    simp (disch := omega) only [zlit, zz, if_pos, if_neg, if_true, if_false, zgd', zl, zbs, zbz, encz]
    rw [show N = i by omega]
    exact ⟨_, rfl, hg⟩
  | succ m ih =>
    intro n i mi h1 h2 hg
    obtain ⟨n, rfl⟩ : ∃ k, n = k + 1 := ⟨n - 1, by omega⟩
    obtain ⟨k1, k2, k3, k4, k5, k6⟩ := h i (by omega)
    rw [fX10_minutesAsTold_L2]
    simp (disch := omega) only [zlit, zz, if_pos, if_neg, if_true, if_false, zgd', zl, zbs, zbz, encz, k1, k3, k5, sX10_goesBy k2 k4 (show M i < 1000 by omega)]
    refine ih n (i + 1) _ (by omega) (by omega) ?_
    intro j hj
    unfold upd
    by_cases q : j = i
    · subst q
      rw [if_pos rfl]
      exact ⟨rfl, goS_lt (by omega)⟩
    · rw [if_neg q]
      exact hg j (by omega)
theorem sX10_minutesAsTold {fuel N : Nat} {K F M : Nat → Nat} {ki fi to : Nat → Int32} (hf : 100 < fuel) (hN : N ≤ 10) (h : kfm N K F M ki fi to) (mi : Nat → Int32) : ∃ r, fX10_minutesAsTold fuel (nI N) ki fi to mi = some r ∧ cM r (mnS K F M) N :=
  sX10_minutes_L2 hN h N fuel 0 mi (by omega) (by omega) (fun j hj => absurd hj (Nat.not_lt_zero j))
/-- all but one (but = N or more: all) -/
def butS (N but : Nat) : List Nat := (List.range N).filter fun g => decide (¬ g = but)
theorem butS_all {N but : Nat} (h : N ≤ but) : butS N but = List.range N := by
  unfold butS
  rw [List.filter_eq_self]
  intro a ha
  have := List.mem_range.mp ha
  simp
  omega
theorem butS_succ (N but : Nat) : butS (N + 1) but = if N = but then butS N but else butS N but ++ [N] := by
  unfold butS
  rw [List.range_succ, List.filter_append]
  by_cases h : N = but <;> simp [h]
theorem butS_le (N but : Nat) : (butS N but).length ≤ N := by
  have := List.length_filter_le (fun g => decide (¬ g = but)) (List.range N)
  rw [List.length_range] at this
  exact this
theorem sX10_allCome_L7 {N but : Nat} {p1 : Int32} (hN : N ≤ 10) (hp : ∀ i, i < N → (nI i = p1) = (i = but)) :
    ∀ (m n i : Nat) (co : Nat → Int32), i + m = N → m < n → arr co (butS i but) → ∃ r, fX10_allCome_L7 (nI N) p1 n (nI i) co (nI (butS i but).length) = some (r, nI (butS N but).length) ∧ arr r (butS N but) := by
  intro m
  induction m with
  | zero =>
    intro n i co h1 h2 h3
    obtain ⟨n, rfl⟩ : ∃ k, n = k + 1 := ⟨n - 1, by omega⟩
    rw [fX10_allCome_L7]
    simp (disch := omega) only [zlit, zz, if_pos, if_neg, if_true, if_false, zgd', zl, zbs, zbz, encz]
    rw [show N = i by omega]
    exact ⟨_, rfl, h3⟩
  | succ m ih =>
    intro n i co h1 h2 h3
    obtain ⟨n, rfl⟩ : ∃ k, n = k + 1 := ⟨n - 1, by omega⟩
    have hle := butS_le i but
    have hs := butS_succ i but
    rw [fX10_allCome_L7]
    simp (disch := omega) only [zlit, zz, if_pos, if_neg, if_true, if_false, zgd', zl, zbs, zbz, encz, fX10_allCome_J40, hp i (by omega)]
    by_cases q : i = but
    · rw [if_pos q]
      rw [if_pos q] at hs
      have := ih n (i + 1) co (by omega) (by omega) (by rw [hs]; exact h3)
      rw [hs] at this
      exact this
    · rw [if_neg q]
      rw [if_neg q] at hs
      have := ih n (i + 1) (upd co (butS i but).length (nI i)) (by omega) (by omega) (by rw [hs]; exact arr_push h3)
      rw [hs, List.length_append, List.length_singleton] at this
      exact this
theorem sX10_allCome {fuel N but : Nat} {p1 : Int32} (hf : 100 < fuel) (hN : N ≤ 10) (hp : ∀ i, i < N → (nI i = p1) = (i = but)) (co : Nat → Int32) (cm : Int32) : ∃ r, fX10_allCome fuel (nI N) co cm p1 = some (r, nI (butS N but).length) ∧ arr r (butS N but) :=
  sX10_allCome_L7 hN hp N fuel 0 co (by omega) (by omega) arr_nil
theorem sX10_goesAhead {fuel N a b : Nat} {mn : Nat → Nat} {mi : Nat → Int32} (hN : N ≤ 10) (hM : cM mi mn N) (ha : a < N) (hb : b < N) : fX10_goesAhead fuel mi (nI a) (nI b) = some (zb01 (decide (mn a < mn b ∨ mn a = mn b ∧ a < b))) := by
  obtain ⟨a1, a2⟩ := hM a ha
  obtain ⟨b1, b2⟩ := hM b hb
  unfold fX10_goesAhead
  simp (disch := omega) only [zlit, zz, if_pos, if_neg, if_true, if_false, zgd', zl, zbs, zbz, encz, a1, b1]
  by_cases h1 : mn a < mn b
  · rw [if_pos h1, decide_eq_true (Or.inl h1)]; rfl
  · rw [if_neg h1]
    by_cases h2 : mn a = mn b
    · rw [if_pos h2]
      by_cases h3 : a < b
      · rw [if_neg (by omega), decide_eq_true (Or.inr ⟨h2, h3⟩)]; rfl
      · rw [if_pos (by omega), decide_eq_false (by omega)]; rfl
    · rw [if_neg h2, decide_eq_false (by omega)]; rfl
theorem sX10_allGo_L27 {fuel N g : Nat} {mn : Nat → Nat} {mi : Nat → Int32} (hN : N ≤ 10) (hM : cM mi mn N) (hg : g < N) (k7 : Int32 → (Nat → Int32) → Int32 → Option ((Nat → Int32) × Int32)) (v1 gm : Nat) (hv : v1 < 100) :
    ∀ (xs d : List Nat) (a : Nat → Int32) (n : Nat), (∀ x ∈ xs, x < g) → xs.length + d.length ≤ 9 → xs.length < n → arr a xs.reverse → arrAt a (xs.length + 1) d → ∃ a', fX10_allGo_L27 fuel mi k7 n (nI v1) (nI g) (nI xs.length) a (nI gm) = k7 (nI (v1 + 1)) a' (nI (gm + 1)) ∧ arr a' ((insR mn g xs).reverse ++ d) := by
  intro xs
  induction xs with
  | nil =>
    intro d a n h1 h2 h3 h4 h5
    obtain ⟨n, rfl⟩ : ∃ k, n = k + 1 := ⟨n - 1, by omega⟩
    rw [fX10_allGo_L27]
    have h2' : d.length ≤ 9 := by simpa using h2
    simp (disch := omega) only [zlit, zz, if_pos, if_neg, if_true, if_false, zgd', zl, zbs, zbz, encz, List.length_nil, fX10_allGo_J67]
    exact ⟨_, rfl, arr_mid (l := []) h4 h5⟩
  | cons x xs ih =>
    intro d a n h1 h2 h3 h4 h5
    obtain ⟨n, rfl⟩ : ∃ k, n = k + 1 := ⟨n - 1, by omega⟩
    rw [List.length_cons] at h2 h3
    have hx := h1 x List.mem_cons_self
    have ha : a xs.length = nI x := h4 xs.length x (by rw [List.reverse_cons, List.getElem?_append_right (by simp)]; simp)
    rw [fX10_allGo_L27, List.length_cons]
    simp (disch := omega) only [zlit, zz, if_pos, if_neg, if_true, if_false, zgd', zl, zbs, zbz, encz, fX10_allGo_J67, Nat.add_sub_cancel, ha, sX10_goesAhead hN hM hg (show x < N by omega)]
    by_cases q : mn g < mn x
    · have e : insR mn g (x :: xs) = x :: insR mn g xs := by rw [insR, if_pos q]
      rw [decide_eq_true (Or.inl q), e]
      simp only [Bool.true_eq_false, if_false]
      obtain ⟨a', e1, e2⟩ := ih (x :: d) (upd a (xs.length + 1) (nI x)) n (fun y hy => h1 y (List.mem_cons_of_mem _ hy)) (by rw [List.length_cons]; omega) (by omega) (by
        intro i y hy
        have hi := (List.getElem?_eq_some_iff.mp hy).1
        rw [List.length_reverse] at hi
        unfold upd
        rw [if_neg (by omega)]
        exact h4 i y (by rw [List.reverse_cons, List.getElem?_append_left (by simpa using hi)]; exact hy)) (by
        intro i y hy
        unfold upd
        cases i with
        | zero => simp at hy; simp [hy]
        | succ i =>
          rw [List.getElem?_cons_succ] at hy
          rw [if_neg (by omega)]
          have := h5 i y hy
          rw [List.length_cons] at this
          rw [← this]
          congr 1
          omega)
      refine ⟨a', e1, ?_⟩
      rw [List.reverse_cons, List.append_assoc]
      exact e2
    · have e : insR mn g (x :: xs) = g :: x :: xs := by rw [insR, if_neg q]
      rw [decide_eq_false (by omega), e]
      simp only [if_true]
      refine ⟨_, rfl, ?_⟩
      rw [List.reverse_cons, List.append_assoc]
      have := arr_mid (g := g) h4 (d := d) (by simpa using h5)
      simpa using this
theorem sX10_allGo_L7 {fuel N : Nat} {mn : Nat → Nat} {mi co : Nat → Int32} {cs : List Nat} (hf : 100 < fuel) (hN : N ≤ 10) (hM : cM mi mn N) (hco : arr co cs) (hcs : cs.length ≤ 10) (hcs2 : ∀ x ∈ cs, x < N) (hup : cs.Pairwise (· < ·)) :
    ∀ (m n i : Nat) (a : Nat → Int32), i + m = cs.length → m < n → arr a (ordS mn (cs.take i)) → ∃ a', fX10_allGo_L7 fuel co (nI cs.length) mi n (nI i) a (nI i) = some (a', nI cs.length) ∧ arr a' (ordS mn cs) := by
  intro m
  induction m with
  | zero =>
    intro n i a h1 h2 h3
    obtain ⟨n, rfl⟩ : ∃ k, n = k + 1 := ⟨n - 1, by omega⟩
    rw [fX10_allGo_L7]
    simp (disch := omega) only [zlit, zz, if_pos, if_neg, if_true, if_false, zgd', zl, zbs, zbz, encz]
    rw [List.take_of_length_le (by omega)] at h3
    rw [show i = cs.length by omega]
    exact ⟨_, rfl, h3⟩
  | succ m ih =>
    intro n i a h1 h2 h3
    obtain ⟨n, rfl⟩ : ∃ k, n = k + 1 := ⟨n - 1, by omega⟩
    have hi : i < cs.length := by omega
    have hc := hco i cs[i] (List.getElem?_eq_getElem hi)
    have hg : cs[i] < N := hcs2 _ (List.getElem_mem hi)
    rw [fX10_allGo_L7]
    simp (disch := omega) only [zlit, zz, if_pos, if_neg, if_true, if_false, zgd', zl, zbs, zbz, encz, hc]
    have hl : (ordR mn (cs.take i)).length = i := by rw [(ordR_perm mn _).length_eq, List.length_take]; omega
    have := sX10_allGo_L27 (fuel := fuel) hN hM hg (fX10_allGo_L7 fuel co (nI cs.length) mi n) i i (by omega) (ordR mn (cs.take i)) [] a fuel (fun x hx => by
      have hx := (ordR_perm mn _).mem_iff.mp hx
      obtain ⟨k, hk, rfl⟩ := List.getElem_of_mem hx
      rw [List.length_take] at hk
      rw [List.getElem_take]
      exact List.pairwise_iff_getElem.mp hup k i (by omega) hi (by omega)) (by rw [hl]; simp; omega) (by omega) h3 (fun i x hx => by simp at hx)
    rw [hl] at this
    obtain ⟨a', e1, e2⟩ := this
    rw [e1]
    refine ih n (i + 1) a' (by omega) (by omega) ?_
    rw [List.append_nil] at e2
    rw [List.take_succ_eq_append_getElem hi, ordS, ordR, List.foldl_append]
    exact e2
theorem sX10_allGo {fuel N : Nat} {mn : Nat → Nat} {mi co : Nat → Int32} {cs : List Nat} (hf : 100 < fuel) (hN : N ≤ 10) (hM : cM mi mn N) (hco : arr co cs) (hcs : cs.length ≤ 10) (hcs2 : ∀ x ∈ cs, x < N) (hup : cs.Pairwise (· < ·)) (go : Nat → Int32) (gm : Int32) :
    ∃ a', fX10_allGo fuel co (nI cs.length) go gm mi = some (a', nI cs.length) ∧ arr a' (ordS mn cs) :=
  sX10_allGo_L7 hf hN hM hco hcs hcs2 hup cs.length fuel 0 go (by omega) (by omega) (by simp [ordS, ordR, arr])
theorem range_up (N : Nat) : (List.range N).Pairwise (· < ·) := List.pairwise_lt_range
theorem butS_up (N but : Nat) : (butS N but).Pairwise (· < ·) := (range_up N).filter _
theorem butS_lt {N but x : Nat} (h : x ∈ butS N but) : x < N := List.mem_range.mp (List.mem_filter.mp h).1
/-- the model's usual: minutes as told, all come, all go -/
theorem sX10_usual {fuel N : Nat} {K F M : Nat → Nat} {ki fi to : Nat → Int32} (hf : 100 < fuel) (hN : N ≤ 10) (h : kfm N K F M ki fi to) (co : Nat → Int32) (cm : Int32) (go : Nat → Int32) (gm : Int32) (mi : Nat → Int32) :
    ∃ o, fX10_usual fuel (nI N) ki fi to co cm go gm mi = some o ∧ arr o.1 (List.range N) ∧ o.2.1 = nI N ∧ arr o.2.2.1 (ordS (mnS K F M) (List.range N)) ∧ o.2.2.2.1 = nI N ∧ cM o.2.2.2.2 (mnS K F M) N := by
  unfold fX10_usual
  obtain ⟨r1, e1, m1⟩ := sX10_minutesAsTold hf hN h mi
  obtain ⟨r2, e2, m2⟩ := sX10_allCome (p1 := -1) hf hN (but := 100) (fun i hi => (eq_false (nI_m1 (show i < 2 ^ 31 by omega))).trans (eq_false (show ¬ i = 100 by omega)).symm) co cm
  rw [butS_all (by omega)] at e2 m2
  obtain ⟨r3, e3, m3⟩ := sX10_allGo hf hN m1 m2 (by simpa using hN) (fun x hx => List.mem_range.mp hx) (range_up N) go gm
  rw [e1, zbs, e2, zbs]
  rw [e3, zbs]
  refine ⟨_, rfl, m2, by simp, m3, by simp, m1⟩
