/-! The call: chain. -/
theorem nd_len : ∀ (N : Nat) (l : List Nat), l.Nodup → (∀ x ∈ l, x < N) → l.length ≤ N
  | 0, [], _, _ => by simp
  | 0, x :: l, _, h => absurd (h x List.mem_cons_self) (Nat.not_lt_zero x)
  | N + 1, l, hnd, h => by
    by_cases q : N ∈ l
    · have := nd_len N (l.erase N) (hnd.erase N) (fun x hx => by
        have h1 := (List.Nodup.mem_erase_iff hnd).mp hx
        have := h x h1.2
        omega)
      rw [List.length_erase_of_mem q] at this
      omega
    · have := nd_len N l hnd (fun x hx => by
        have h1 := h x hx
        have : x ≠ N := fun e => q (e ▸ hx)
        omega)
      omega
def chS (f : Nat → Option Nat) (g : Nat) : Nat → Nat → Nat → Nat
  | 0, _, _ => 0
  | m + 1, a, st => match f a with
    | none => 0
    | some b => if b = g then st else chS f g m b (st + 1)
theorem chS_eq {f : Nat → Option Nat} {g N : Nat} (hN : ∀ x c, f x = some c → x < N ∧ c < N) (hinj : ∀ x y c, f x = some c → f y = some c → x = y) :
    ∀ (d m mm a st : Nat) (vis : List Nat), st + d = N → d < m → d < mm → vis.Nodup → (∀ x ∈ vis, x < N) → vis.length = st → a ∈ vis → (∀ y ∈ vis, y = g ∨ ∃ x ∈ vis, x ≠ a ∧ f x = some y) → chS f g m a st = chS f g mm a st := by
  have step : ∀ (a : Nat) (vis : List Nat) (b : Nat), vis.Nodup → (∀ x ∈ vis, x < N) → a ∈ vis → (∀ y ∈ vis, y = g ∨ ∃ x ∈ vis, x ≠ a ∧ f x = some y) → f a = some b → ¬ b = g → (b :: vis).Nodup ∧ (∀ x ∈ b :: vis, x < N) ∧ (∀ y ∈ b :: vis, y = g ∨ ∃ x ∈ b :: vis, x ≠ b ∧ f x = some y) := by
    intro a vis b hnd hlt ha hv hb hbg
    have hbn : b ∉ vis := by
      intro hm
      rcases hv b hm with q | ⟨x, x1, x2, x3⟩
      · exact hbg q
      · exact x2 (hinj x a b x3 hb)
    refine ⟨List.nodup_cons.mpr ⟨hbn, hnd⟩, fun x hx => ?_, fun y hy => ?_⟩
    · rcases List.mem_cons.mp hx with q | q
      · rw [q]; exact (hN a b hb).2
      · exact hlt x q
    · rcases List.mem_cons.mp hy with q | q
      · right
        exact ⟨a, List.mem_cons_of_mem _ ha, fun e => hbn (e ▸ ha), by rw [q]; exact hb⟩
      · rcases hv y q with e | ⟨x, x1, x2, x3⟩
        · exact Or.inl e
        · exact Or.inr ⟨x, List.mem_cons_of_mem _ x1, fun e => hbn (e ▸ x1), x3⟩
  intro d
  induction d with
  | zero =>
    intro m mm a st vis h1 h2 h3 hnd hlt hlen ha hv
    obtain ⟨m, rfl⟩ : ∃ k, m = k + 1 := ⟨m - 1, by omega⟩
    obtain ⟨mm, rfl⟩ : ∃ k, mm = k + 1 := ⟨mm - 1, by omega⟩
    rw [chS, chS]
    cases hb : f a with
    | none => rfl
    | some b =>
      by_cases hbg : b = g
      · simp [hbg]
      · obtain ⟨s1, s2, -⟩ := step a vis b hnd hlt ha hv hb hbg
        have := nd_len N _ s1 s2
        rw [List.length_cons] at this
        omega
  | succ d ih =>
    intro m mm a st vis h1 h2 h3 hnd hlt hlen ha hv
    obtain ⟨m, rfl⟩ : ∃ k, m = k + 1 := ⟨m - 1, by omega⟩
    obtain ⟨mm, rfl⟩ : ∃ k, mm = k + 1 := ⟨mm - 1, by omega⟩
    rw [chS, chS]
    cases hb : f a with
    | none => rfl
    | some b =>
      by_cases hbg : b = g
      · simp [hbg]
      · simp only [hbg, if_false]
        obtain ⟨s1, s2, s3⟩ := step a vis b hnd hlt ha hv hb hbg
        exact ih m mm b (st + 1) (b :: vis) (by omega) (by omega) (by omega) s1 s2 (by rw [List.length_cons, hlen]) List.mem_cons_self s3
theorem chS_start {f : Nat → Option Nat} {g N : Nat} (hg : g < N) (h10 : N ≤ 10) (hN : ∀ x c, f x = some c → x < N ∧ c < N) (hinj : ∀ x y c, f x = some c → f y = some c → x = y) : chS f g N g 1 = chS f g 11 g 1 :=
  chS_eq hN hinj (N - 1) N 11 g 1 [g] (by omega) (by omega) (by omega) (by simp) (fun x hx => by rw [List.mem_singleton.mp hx]; exact hg) rfl List.mem_cons_self (fun y hy => Or.inl (List.mem_singleton.mp hy))
theorem sX3_stepsRound_L4 {N g : Nat} {f : Nat → Option Nat} {ha : Nat → Int32} (hN : N ≤ 10) (hg : g < N) (hlt : ∀ x c, f x = some c → x < N ∧ c < N) (hh : ∀ x, x < N → ha x = enc (f x)) :
    ∀ (m n a st : Nat), st + m = N + 1 → m < n → a < N → fX3_stepsRound_L4 ha (nI N) (nI g) n (nI a) (nI st) = some (nI (chS f g m a st)) := by
  intro m
  induction m with
  | zero =>
    intro n a st h1 h2 haN
    obtain ⟨n, rfl⟩ : ∃ k, n = k + 1 := ⟨n - 1, by omega⟩
    rw [fX3_stepsRound_L4, chS]
    simp (disch := omega) only [zlit, zz, if_pos, if_neg, if_true, if_false, zgd', zl, zbs, zbz, encz]
  | succ m ih =>
    intro n a st h1 h2 haN
    obtain ⟨n, rfl⟩ : ∃ k, n = k + 1 := ⟨n - 1, by omega⟩
    rw [fX3_stepsRound_L4, chS]
    have h9 := hh a haN
    cases hq : f a with
    | none =>
      rw [hq] at h9
      simp (disch := omega) only [zlit, zz, if_pos, if_neg, if_true, if_false, zgd', zl, zbs, zbz, encz, h9]
    | some b =>
      rw [hq] at h9
      have hb := (hlt a b hq).2
      by_cases qb : b = g
      · simp (disch := omega) only [zlit, zz, if_pos, if_neg, if_true, if_false, zgd', zl, zbs, zbz, encz, h9, qb]
      · simp (disch := omega) only [zlit, zz, if_pos, if_neg, if_true, if_false, zgd', zl, zbs, zbz, encz, h9]
        exact ih n b (st + 1) (by omega) (by omega) hb
theorem sX10_chain_L24 {N g : Nat} {f : Nat → Option Nat} (hN : N ≤ 10) (hg : g < N) (hlt : ∀ x c, f x = some c → x < N ∧ c < N) (v1 : Nat → Int32) (v2 : Int32) (v2' : Nat → Int32) (v4 : Int32) (mr v6 v7 v8 : Nat → Int32) (v9 : Int32) (w1 be lr ha w5 w6 w7 : Nat → Int32) (w8 w9 : Int32) (hh : ∀ x, x < N → ha x = enc (f x)) :
    ∀ (m n a st : Nat), st + m = 11 → m < n → a < N → ∃ p, fX10_chain_L24 (nI g) n (enc (f a)) (nI st) v1 v2 v2' v4 mr v6 v7 v8 v9 w1 be lr ha w5 w6 w7 w8 w9 = some p ∧ p.1 = nI (chS f g (m + 1) a st) := by
  intro m
  induction m with
  | zero =>
    intro n a st h1 h2 haN
    obtain ⟨n, rfl⟩ : ∃ k, n = k + 1 := ⟨n - 1, by omega⟩
    rw [fX10_chain_L24, chS]
    cases hq : f a with
    | none =>
      simp (disch := omega) only [zlit, zz, if_pos, if_neg, if_true, if_false, zgd', zl, zbs, zbz, encz, fX10_chain_J54]
      exact ⟨_, rfl, rfl⟩
    | some b =>
      have hb := (hlt a b hq).2
      by_cases qb : b = g
      · simp (disch := omega) only [zlit, zz, if_pos, if_neg, if_true, if_false, zgd', zl, zbs, zbz, encz, qb, fX10_chain_J54]
        exact ⟨_, rfl, rfl⟩
      · simp (disch := omega) only [zlit, zz, if_pos, if_neg, if_true, if_false, zgd', zl, zbs, zbz, encz, fX10_chain_J54]
        exact ⟨_, rfl, by simp [chS]⟩
  | succ m ih =>
    intro n a st h1 h2 haN
    obtain ⟨n, rfl⟩ : ∃ k, n = k + 1 := ⟨n - 1, by omega⟩
    rw [fX10_chain_L24, chS]
    cases hq : f a with
    | none =>
      simp (disch := omega) only [zlit, zz, if_pos, if_neg, if_true, if_false, zgd', zl, zbs, zbz, encz, fX10_chain_J54]
      exact ⟨_, rfl, rfl⟩
    | some b =>
      have hb := (hlt a b hq).2
      by_cases qb : b = g
      · simp (disch := omega) only [zlit, zz, if_pos, if_neg, if_true, if_false, zgd', zl, zbs, zbz, encz, qb, fX10_chain_J54]
        exact ⟨_, rfl, rfl⟩
      · simp (disch := omega) only [zlit, zz, if_pos, if_neg, if_true, if_false, zgd', zl, zbs, zbz, encz, hh b hb]
        exact ih n b (st + 1) (by omega) (by omega) hb
theorem u_chain {r : SR} (fuel : Nat) (d_guests : Int32) (d_kinds : Nat → Int32) (d_figures : Nat → Int32) (d_minutes : Nat → Int32) (d_settings : Nat → Int32) (d_hooks : Int32) (d_letters : Nat → Int32) (d_letterCount : Int32) (n_room : Nat) (n_order : Nat → Int32) (n_weights : Nat → Int32) (n_black : Nat → Int32) (n_lifts : Nat → Int32) (n_begins : Nat → Int32) (n_ends : Nat → Int32) (n_has : Nat → Int32) (n_lifted : Nat → Int32) (n_allLifts : Int32) (n_doneAt : Int32) (y_going : Nat → Int32) (y_coming : Nat → Int32) (y_holds : Int32) (y_latest : Int32) (b_heaps : Int32) (b_piles : Nat → Nat → Int32) (b_heights : Nat → Int32) (b_spots : Nat → Int32) (ad_d : Nat → Nat) (p1 : Int32) (M_guests : Int32) (M_kind : Nat → Int32) (M_figure : Nat → Int32) (M_told : Nat → Int32) (M_heaps : Int32) (M_holds : Int32) (M_back : Int32) (M_mistakes : Int32) (M_hooks : Int32) (M_letters : Int32) (M_rule : Nat → Int32) (M_coming : Nat → Int32) (M_comingMany : Int32) (M_going : Nat → Int32) (M_goingMany : Int32) (M_minute : Nat → Int32) (M_pile : Nat → Int32) (M_high : Nat → Int32) (M_where : Nat → Int32) (M_latest : Int32) (M_lifts : Nat → Int32) (M_begun : Nat → Int32) (M_left : Nat → Int32) (M_has : Nat → Int32) (M_lifted : Nat → Int32) (M_taken : Nat → Int32) (M_above : Nat → Int32) (M_allLifts : Int32) (M_busy : Int32) (hf : 100 < fuel) (hr : okR r) (hc : cR r d_guests d_kinds d_figures d_minutes d_settings d_hooks d_letters d_letterCount) (hm : mR r M_guests M_kind M_figure M_told M_heaps M_holds M_back M_mistakes M_hooks M_letters M_rule) : ∃ o p, fX9_chain fuel d_guests d_kinds d_figures d_minutes d_settings d_hooks d_letters d_letterCount n_room n_order n_weights n_black n_lifts n_begins n_ends n_has n_lifted n_allLifts n_doneAt y_going y_coming y_holds y_latest b_heaps b_piles b_heights b_spots ad_d p1 = some o ∧ fX10_chain fuel M_guests M_kind M_figure M_told M_heaps M_holds M_back M_mistakes M_hooks M_letters M_rule M_coming M_comingMany M_going M_goingMany M_minute M_pile M_high M_where M_latest M_lifts M_begun M_left M_has M_lifted M_taken M_above M_allLifts M_busy p1 = some p ∧ o.1 = p.1 := by
  have hN := hr.1
  have hH := HI_night hr
  unfold fX9_chain fX10_chain
  have c1 := hc.1
  have m1 := hm.1
  have e0 : (0 : Int32) = nI 0 := rfl
  rcases gcase (fuel := fuel) hN p1 with ⟨g, hg, rfl, a1, a2⟩ | ⟨a1, a2⟩
  · rw [← c1] at a1
    rw [← m1] at a2
    rw [a1, a2, zbs, zbs, e0, if_neg z10, if_neg z10]
    obtain ⟨y, y1, y2, y3, y4, -, ⟨g1, g2, -⟩, -⟩ := sX3_pass hf hr hc n_order n_weights n_black n_lifts n_begins n_ends n_has n_lifted n_allLifts n_doneAt y_going y_coming y_holds y_latest b_heaps b_piles b_heights b_spots
    obtain ⟨w, w1, w2, w3, w4, w5, w6, -, ⟨k1, k2, -⟩, -⟩ := sX10_night hf hr hm M_coming M_comingMany M_going M_goingMany M_minute M_pile M_high M_where M_latest M_lifts M_begun M_left M_has M_lifted M_taken M_above M_allLifts M_busy
    rw [y1, w1, zbs, zbs, c1]
    unfold fX3_stepsRound
    have e1 : (1 : Int32) = nI 1 := rfl
    rw [e1, sX3_stepsRound_L4 (f := (nightR r).2.1) hN hg hH.1 (fun x hx => (g1 x hx).2.1) (rN r) fuel g 1 (by omega) (by omega) hg, zbs]
    have kg := (k1 g (List.mem_range.mpr hg) (by simp)).2.1
    obtain ⟨p, l1, l2⟩ := sX10_chain_L24 (f := (nightR r).2.1) hN hg hH.1 w.2.1 w.2.2.1 w.2.2.2.1 w.2.2.2.2.1 w.2.2.2.2.2.1 w.2.2.2.2.2.2.1 w.2.2.2.2.2.2.2.1 w.2.2.2.2.2.2.2.2.1 w.2.2.2.2.2.2.2.2.2.1 w.2.2.2.2.2.2.2.2.2.2.1 w.2.2.2.2.2.2.2.2.2.2.2.1 w.2.2.2.2.2.2.2.2.2.2.2.2.1 w.2.2.2.2.2.2.2.2.2.2.2.2.2.1 w.2.2.2.2.2.2.2.2.2.2.2.2.2.2.1 w.2.2.2.2.2.2.2.2.2.2.2.2.2.2.2.1 w.2.2.2.2.2.2.2.2.2.2.2.2.2.2.2.2.1 w.2.2.2.2.2.2.2.2.2.2.2.2.2.2.2.2.2.1 w.2.2.2.2.2.2.2.2.2.2.2.2.2.2.2.2.2.2 (fun x hx => (k1 x (List.mem_range.mpr hx) (by simp)).2.1) 10 fuel g 1 (by omega) (by omega) hg
    simp (disch := omega) only [zlit, zz, if_pos, if_neg, if_true, if_false, zgd', zl, zbs, zbz, encz, kg]
    refine ⟨_, p, rfl, l1, ?_⟩
    rw [l2]
    exact congrArg nI (chS_start hg hN hH.1 hH.2.1)
  · rw [← c1] at a1
    rw [← m1] at a2
    rw [a1, a2, zbs, zbs, e0, if_pos z00, if_pos z00]
    exact ⟨_, _, rfl, rfl, rfl⟩
