/-! The call: rule. -/
theorem sX5_takeLetters_L13 {fuel d n fr : Nat} {sz : Nat → Int32} {el : Nat → Nat → Int32} (hs : sz d = nI n) (hn : n ≤ 100) (fr100 : fr ≤ 100) (c : Nat) (hc6 : c ≤ 6) : ∀ (m k i : Nat) (le : Nat → Int32), i + m = c → m < k → ∃ l2, fX5_takeLetters_L13 fuel sz el d (nI fr) k (nI i) le (nI c) = some (l2, nI c) ∧ ∀ x, l2 x = if i ≤ x ∧ x < c then (if n ≤ fr + x then zAw else el d (fr + x)) else le x := by
  intro m
  induction m with
  | zero =>
    intro w i le h1 h2
    obtain ⟨w, rfl⟩ : ∃ k, w = k + 1 := ⟨w - 1, by omega⟩
    rw [fX5_takeLetters_L13]
    refine ⟨le, ?_, fun x => ?_⟩
    · simp (disch := omega) only [zlit, zz, if_pos, if_neg, if_true, if_false, zgd', zl, zbs, zbz, encz]
    · rw [if_neg (by omega)]
  | succ m ih =>
    intro w i le h1 h2
    obtain ⟨w, rfl⟩ : ∃ k, w = k + 1 := ⟨w - 1, by omega⟩
    rw [fX5_takeLetters_L13]
    have hsg := sX7_signAt (fuel := fuel) (a := fr + i) (el := el) hs hn (by omega)
    obtain ⟨l2, f1, f2⟩ := ih w (i + 1) (upd le i (if n ≤ fr + i then zAw else el d (fr + i))) (by omega) (by omega)
    refine ⟨l2, ?_, fun x => ?_⟩
    · rw [← f1, nI_add, hsg, zbs]
      generalize (if n ≤ fr + i then zAw else el d (fr + i)) = b
      simp (disch := omega) only [zlit, zz, if_pos, if_neg, if_true, if_false, zgd', zl, zbs, zbz, encz]
    · rw [f2 x]
      by_cases q : x = i
      · subst q
        rw [if_neg (show ¬ (x + 1 ≤ x ∧ x < c) by omega), if_pos (show x ≤ x ∧ x < c by omega)]
        simp [upd]
      · by_cases q2 : i + 1 ≤ x ∧ x < c
        · rw [if_pos q2, if_pos (show i ≤ x ∧ x < c by omega)]
        · rw [if_neg q2, if_neg (show ¬ (i ≤ x ∧ x < c) by omega)]
          simp [upd, q]
theorem sX9_rule_L34 {fuel d n : Nat} {sz : Nat → Int32} {el : Nat → Nat → Int32} {le : Nat → Int32} {lc : Int32} (hf : 100 < fuel) (hd : d < 8) (hs : sz d = nI n) (hn : n ≤ 6) : ∀ (m w i : Nat), i + m = n → m < w → fX9_rule_L34 fuel sz el (nI d) w (nI i) le lc = if ((List.range' i m).all fun j => (letS (el d j)).isSome) = true then fX9_rule_J65 fuel sz el (nI d) le lc else some (-13, le, lc) := by
  intro m
  induction m with
  | zero =>
    intro w i h1 h2
    obtain ⟨w, rfl⟩ : ∃ k, w = k + 1 := ⟨w - 1, by omega⟩
    rw [fX9_rule_L34]
    simp (disch := omega) only [zlit, zz, if_pos, if_neg, if_true, if_false, zgd', zl, zbs, zbz, encz, hs]
    rfl
  | succ m ih =>
    intro w i h1 h2
    obtain ⟨w, rfl⟩ : ∃ k, w = k + 1 := ⟨w - 1, by omega⟩
    rw [fX9_rule_L34, List.range'_succ, List.all_cons]
    cases q : (letS (el d i)).isSome with
    | true =>
      simp (disch := omega) only [zlit, zz, if_pos, if_neg, if_true, if_false, zgd', zl, zbs, zbz, encz, hs, sX6_isLetter hf, q, Bool.true_eq_false, Bool.true_and]
      exact ih w (i + 1) (by omega) (by omega)
    | false =>
      simp (disch := omega) only [zlit, zz, if_pos, if_neg, if_true, if_false, zgd', zl, zbs, zbz, encz, hs, sX6_isLetter hf, q, Bool.false_and, Bool.false_eq_true]
/-- no letter: it stays there -/
theorem sX10_rule_stuck {fuel d n a : Nat} {rl it ru : Nat → Int32} {le : Int32} (hf : 100 < fuel) (hd : d < 8) (hn : n ≤ 100) (ha : a < n) (hrl : mLet rl) (hno : letS (it (100 * d + a)) = none) : ∀ (m w k : Nat) (fi : Nat → Int32), k + m = 6 → m < w → ∃ f2, fX10_rule_L67 fuel rl it w (nI k) le ru (nI a) (nI n) (nI d) fi = fX10_rule_J101 fuel le ru (nI a) (nI n) (nI d) f2 := by
  intro m
  induction m with
  | zero =>
    intro w k fi h1 h2
    obtain ⟨w, rfl⟩ : ∃ k, w = k + 1 := ⟨w - 1, by omega⟩
    rw [fX10_rule_L67]
    by_cases q : n ≤ k
    · exact ⟨fi, by simp (disch := omega) only [zlit, zz, if_pos, if_neg, if_true, if_false, zgd', zl, zbs, zbz, encz]⟩
    · exact ⟨fi, by simp (disch := omega) only [zlit, zz, if_pos, if_neg, if_true, if_false, zgd', zl, zbs, zbz, encz]⟩
  | succ m ih =>
    intro w k fi h1 h2
    obtain ⟨w, rfl⟩ : ∃ k, w = k + 1 := ⟨w - 1, by omega⟩
    rw [fX10_rule_L67]
    by_cases q : n ≤ k
    · exact ⟨fi, by simp (disch := omega) only [zlit, zz, if_pos, if_neg, if_true, if_false, zgd', zl, zbs, zbz, encz]⟩
    · have hone := sX10_oneOfRule (fuel := fuel) (it := it) hf hd hn (show a < 2 ^ 31 by omega) hrl
      rw [if_neg (show ¬ n ≤ a by omega), hno] at hone
      obtain ⟨f2, e⟩ := ih w (k + 1) (upd fi k zAw) (by omega) (by omega)
      refine ⟨f2, ?_⟩
      rw [← e]
      simp (disch := omega) only [zlit, zz, if_pos, if_neg, if_true, if_false, zgd', zl, zbs, zbz, encz, hone]
theorem sX10_rule_L67 {fuel d n : Nat} {rl it ru : Nat → Int32} {le : Int32} (hf : 100 < fuel) (hd : d < 8) (hn : n ≤ 100) (hrl : mLet rl) : ∀ (m w k : Nat) (fi : Nat → Int32), k + m = 6 → m < w → k ≤ n → ∃ a f2, fX10_rule_L67 fuel rl it w (nI k) le ru (nI k) (nI n) (nI d) fi = fX10_rule_J101 fuel le ru (nI a) (nI n) (nI d) f2 ∧
    ((a = min n 6 ∧ (∀ j, k ≤ j → j < min n 6 → ∃ x, letS (it (100 * d + j)) = some x ∧ f2 j = nI x) ∧ ∀ j, j < k → f2 j = fi j) ∨ (k ≤ a ∧ a < n ∧ a < 6 ∧ letS (it (100 * d + a)) = none)) := by
  intro m
  induction m with
  | zero =>
    intro w k fi h1 h2 h3
    obtain ⟨w, rfl⟩ : ∃ k, w = k + 1 := ⟨w - 1, by omega⟩
    rw [fX10_rule_L67]
    refine ⟨k, fi, ?_, Or.inl ⟨by omega, fun j h1 h2 => by omega, fun j _ => rfl⟩⟩
    by_cases q : n ≤ k
    · simp (disch := omega) only [zlit, zz, if_pos, if_neg, if_true, if_false, zgd', zl, zbs, zbz, encz]
    · simp (disch := omega) only [zlit, zz, if_pos, if_neg, if_true, if_false, zgd', zl, zbs, zbz, encz]
  | succ m ih =>
    intro w k fi h1 h2 h3
    obtain ⟨w, rfl⟩ : ∃ k, w = k + 1 := ⟨w - 1, by omega⟩
    rw [fX10_rule_L67]
    by_cases q : n ≤ k
    · exact ⟨k, fi, by simp (disch := omega) only [zlit, zz, if_pos, if_neg, if_true, if_false, zgd', zl, zbs, zbz, encz], Or.inl ⟨by omega, fun j h1 h2 => by omega, fun j _ => rfl⟩⟩
    · have hone := sX10_oneOfRule (fuel := fuel) (it := it) (a := k) hf hd hn (by omega) hrl
      rw [if_neg q] at hone
      cases hq : letS (it (100 * d + k)) with
      | none =>
        rw [hq] at hone
        obtain ⟨f2, e⟩ := sX10_rule_stuck (fuel := fuel) (ru := ru) (le := le) hf hd hn (show k < n by omega) hrl hq m w (k + 1) (upd fi k zAw) (by omega) (by omega)
        refine ⟨k, f2, ?_, Or.inr ⟨Nat.le_refl _, by omega, by omega, hq⟩⟩
        rw [← e]
        simp (disch := omega) only [zlit, zz, if_pos, if_neg, if_true, if_false, zgd', zl, zbs, zbz, encz, hone]
      | some x =>
        rw [hq] at hone
        obtain ⟨a, f2, e, hor⟩ := ih w (k + 1) (upd fi k (nI x)) (by omega) (by omega) (by omega)
        refine ⟨a, f2, ?_, ?_⟩
        · rw [← e]
          simp (disch := omega) only [zlit, zz, if_pos, if_neg, if_true, if_false, zgd', zl, zbs, zbz, encz, hone]
        · rcases hor with ⟨o1, o2, o3⟩ | ⟨o1, o2, o3, o4⟩
          · left
            refine ⟨o1, fun j j1 j2 => ?_, fun j hj => ?_⟩
            · by_cases qj : j = k
              · subst qj
                exact ⟨x, hq, by rw [o3 j (by omega)]; simp [upd]⟩
              · exact o2 j (by omega) j2
            · rw [o3 j (by omega)]
              simp [upd, show ¬ j = k by omega]
          · exact Or.inr ⟨by omega, o2, o3, o4⟩
theorem sX10_rule_L125 {n : Nat} {le at' ro : Int32} {fi : Nat → Int32} (hn : n ≤ 6) : ∀ (m w i : Nat) (ru : Nat → Int32), i + m = n → m < w → ∃ r2, fX10_rule_L125 w (nI i) le ru at' (nI n) ro fi = some (nI n, le, r2, at', nI n, ro, fi) ∧ ∀ x, r2 x = if i ≤ x ∧ x < n then fi x else ru x := by
  intro m
  induction m with
  | zero =>
    intro w i ru h1 h2
    obtain ⟨w, rfl⟩ : ∃ k, w = k + 1 := ⟨w - 1, by omega⟩
    rw [fX10_rule_L125]
    refine ⟨ru, ?_, fun x => ?_⟩
    · simp (disch := omega) only [zlit, zz, if_pos, if_neg, if_true, if_false, zgd', zl, zbs, zbz, encz]
    · rw [if_neg (by omega)]
  | succ m ih =>
    intro w i ru h1 h2
    obtain ⟨w, rfl⟩ : ∃ k, w = k + 1 := ⟨w - 1, by omega⟩
    rw [fX10_rule_L125]
    obtain ⟨r2, e, f⟩ := ih w (i + 1) (upd ru i (fi i)) (by omega) (by omega)
    refine ⟨r2, ?_, fun x => ?_⟩
    · rw [← e]
      simp (disch := omega) only [zlit, zz, if_pos, if_neg, if_true, if_false, zgd', zl, zbs, zbz, encz]
    · rw [f x]
      simp only [upd]
      repeat' split
      all_goals first | rfl | omega | (congr 1; omega)
theorem u_rule {r : SR} (fuel : Nat) (s_holds : Nat → Int32) (s_sort : Nat → Int32) (s_size : Nat → Int32) (s_el : Nat → Nat → Int32) (d_letters : Nat → Int32) (d_letterCount : Int32) (p1 : Int32) (M_letters : Int32) (M_rule : Nat → Int32) (M_at : Int32) (M_text : Int32) (M_row : Int32) (M_field : Nat → Int32) (M_ruleLetters : Nat → Int32) (M_held : Nat → Int32) (M_sorts : Nat → Int32) (M_size : Nat → Int32) (M_items : Nat → Int32) (d_guests : Int32) (d_kinds : Nat → Int32) (d_figures : Nat → Int32) (d_minutes : Nat → Int32) (d_settings : Nat → Int32) (d_hooks : Int32) (M_guests : Int32) (M_kind : Nat → Int32) (M_figure : Nat → Int32) (M_told : Nat → Int32) (M_heaps : Int32) (M_holds : Int32) (M_back : Int32) (M_mistakes : Int32) (M_hooks : Int32) (s_kind : Nat → Int32) (s_figure : Nat → Int32) (M_kindOn : Nat → Int32) (M_figureOn : Nat → Int32) (hf : 100 < fuel) (hr : okT r) (hc : cR r d_guests d_kinds d_figures d_minutes d_settings d_hooks d_letters d_letterCount) (hm : mR r M_guests M_kind M_figure M_told M_heaps M_holds M_back M_mistakes M_hooks M_letters M_rule) (hs : cSH s_holds s_kind s_figure s_sort s_size s_el M_held M_kindOn M_figureOn M_sorts M_size M_items) (hrl : mLet M_ruleLetters) : ∃ o p r', fX9_rule fuel s_holds s_sort s_size s_el d_letters d_letterCount p1 = some o ∧ fX10_rule fuel M_letters M_rule M_at M_text M_row M_field M_ruleLetters M_held M_sorts M_size M_items p1 = some p ∧ o.1 = p.1 ∧ okT r' ∧ cR r' d_guests d_kinds d_figures d_minutes d_settings d_hooks o.2.1 o.2.2 ∧ mR r' M_guests M_kind M_figure M_told M_heaps M_holds M_back M_mistakes M_hooks p.2.1 p.2.2.1 := by
  have e0 : (0 : Int32) = nI 0 := rfl
  have e2 : (2 : Int32) = nI 2 := rfl
  have e6 : (6 : Int32) = nI 6 := rfl
  unfold fX9_rule fX10_rule fX9_refusalOfBytes fX10_rule_J28
  rw [e0, e2, e6]
  rcases shcase (fuel := fuel) p1 with ⟨d, hd, rfl, a1, a2⟩ | ⟨a1, a2⟩
  · have hz : zin (nI d) 8 = true := by rw [zin_nI (by omega)]; exact decide_eq_true hd
    have hcl : (nI d).toNatClampNeg = d := nI_clamp (by omega)
    obtain ⟨h, h2, h3, h4, h5, h6⟩ := hs d hd
    rw [a2, sX9_refusalOf hd h3 h2 (by omega) a1, zbs, zbs, if_neg z10, hz, hcl, h4]
    simp only [zgt]
    rcases (show h = 0 ∨ h = 1 ∨ h = 2 by omega) with rfl | rfl | rfl
    · exact ⟨_, _, r, rfl, rfl, rfl, hr, hc, hm⟩
    · exact ⟨_, _, r, rfl, rfl, rfl, hr, hc, hm⟩
    · obtain ⟨s, n, k1, k2, k3, k4, k5, k6, k7⟩ := h6 rfl
      rw [if_neg (show ¬ 2 = 0 by omega), if_pos (show 2 = 2 from rfl), if_pos z00, if_pos (show nI 2 = nI 2 from rfl), k3, k4, k5, k6]
      by_cases qs : s = 0
      · subst qs
        rw [if_pos z00, if_pos z00, zbs, if_pos z00, zl]
        obtain ⟨a, f2, b1, b2⟩ := sX10_rule_L67 (fuel := fuel) (it := M_items) (ru := M_rule) (le := M_letters) hf hd k2 hrl 6 fuel 0 M_field (by omega) (by omega) (Nat.zero_le _)
        rw [b1]
        unfold fX10_rule_J101
        by_cases q6 : n ≤ 6
        · rw [if_pos ((nI_leI (by omega) (by decide)).mpr q6), sX9_rule_L34 (n := n) hf hd k5 q6 n fuel 0 (by omega) (by omega)]
          rcases b2 with ⟨o1, o2, -⟩ | ⟨-, o2, o3, o4⟩
          · have ha : a = n := by rw [o1, Nat.min_eq_left q6]
            rw [Nat.min_eq_left q6] at o2
            subst ha
            have hall : ((List.range' 0 a).all fun j => (letS (s_el d j)).isSome) = true := by
              rw [List.all_eq_true]
              intro j hj
              have hj2 := (List.mem_range'_1.mp hj).2
              obtain ⟨x, x1, -⟩ := o2 j (Nat.zero_le _) (by omega)
              rw [k7 j (by omega), x1]; rfl
            rw [hall, if_pos (show true = true from rfl), if_pos ((nI_leI (by omega) (by omega)).mpr (Nat.le_refl a))]
            unfold fX9_rule_J65 fX5_takeLetters
            rw [hz, zgt, hcl, k5, e6, nI_zmin (by omega) (by decide), Nat.min_eq_left q6, zl, e0]
            obtain ⟨l2, y1, y2⟩ := sX5_takeLetters_L13 (fuel := fuel) (el := s_el) (fr := 0) k5 k2 (by omega) a q6 a fuel 0 d_letters (by omega) (by omega)
            obtain ⟨r2, z1, z2⟩ := sX10_rule_L125 (le := nI a) (at' := nI a) (ro := nI d) (fi := f2) q6 a fuel 0 M_rule (by omega) (by omega)
            rw [y1, z1, zbs]
            -- the new rule
            have hg : ∀ j, j < a → ∃ x, letS (s_el d j) = some x ∧ f2 j = nI x := fun j hj => by
              obtain ⟨x, x1, x2⟩ := o2 j (Nat.zero_le _) hj
              exact ⟨x, by rw [k7 j (by omega)]; exact x1, x2⟩
            refine ⟨_, _, rRule r ((List.range a).map fun j => (letS (s_el d j)).getD 0), rfl, rfl, rfl, ?_, ?_, ?_⟩
            · have hlr : ((List.range a).map fun j => (letS (s_el d j)).getD 0).length ≤ 6 := by simp; exact q6
              refine ⟨ok_rule hr.1 hlr (fun x hx => ?_), hr.2⟩
              obtain ⟨j, j1, j2⟩ := List.mem_map.mp hx
              obtain ⟨y, y3, -⟩ := hg j (List.mem_range.mp j1)
              rw [y3] at j2
              have := (letS_some y3).2
              have e : y = x := j2
              omega
            · obtain ⟨c1, c2, c3, c4, c5, c6, c7, c8, c9⟩ := hc
              refine ⟨c1, c2, c3, c4, c5, c6, c7, fun j x hx => ?_, by show nI a = nI _; simp [rL, rRule]⟩
              have hx' : ((List.range a).map fun j => (letS (s_el d j)).getD 0)[j]? = some x := hx
              have hj : j < a := by have := (List.getElem?_eq_some_iff.mp hx').1; simpa using this
              rw [List.getElem?_map, List.getElem?_range hj] at hx'
              obtain ⟨y, y3, -⟩ := hg j hj
              have e : y = x := by simpa [y3] using hx'
              subst e
              show l2 j = zLet y ∧ y ≤ 5
              rw [y2 j, if_pos ⟨Nat.zero_le _, hj⟩, Nat.zero_add, if_neg (by omega)]
              exact letS_some y3
            · obtain ⟨m1, m2, m3, m4, m5, m6, m7, m8, m9⟩ := hm
              refine ⟨m1, m2, m3, m4, m5, m6, m7, by show nI a = nI _; simp [rL, rRule], fun j x hx => ?_⟩
              have hx' : ((List.range a).map fun j => (letS (s_el d j)).getD 0)[j]? = some x := hx
              have hj : j < a := by have := (List.getElem?_eq_some_iff.mp hx').1; simpa using this
              rw [List.getElem?_map, List.getElem?_range hj] at hx'
              obtain ⟨y, y3, y4⟩ := hg j hj
              have e : y = x := by simpa [y3] using hx'
              subst e
              show r2 j = nI y ∧ y ≤ 5
              rw [z2 j, if_pos ⟨Nat.zero_le _, hj⟩]
              exact ⟨y4, (letS_some y3).2⟩
          · have hall : ((List.range' 0 n).all fun j => (letS (s_el d j)).isSome) = false := by
              rw [List.all_eq_false]
              exact ⟨a, List.mem_range'_1.mpr ⟨Nat.zero_le _, by omega⟩, by rw [k7 a (by omega), o4]; simp⟩
            rw [hall, if_neg (by simp), if_neg (fun q => by have := (nI_leI (by omega) (by omega)).mp q; omega)]
            exact ⟨_, _, r, rfl, rfl, rfl, hr, hc, hm⟩
        · have ha6 : a ≤ 6 := by
            rcases b2 with ⟨o1, -⟩ | ⟨-, -, o3, -⟩
            · rw [o1]; exact Nat.min_le_right _ _
            · omega
          rw [if_neg (fun q => q6 ((nI_leI (by omega) (by decide)).mp q)), if_neg (fun q => by have := (nI_leI (by omega) (by omega)).mp q; omega)]
          exact ⟨_, _, r, rfl, rfl, rfl, hr, hc, hm⟩
      · have hn0 : ¬ nI s = nI 0 := fun q => qs ((nI_eq (by omega) (by decide)).mp q)
        rw [if_neg hn0, if_neg hn0, zbs, if_neg m12, if_neg (show ¬ nI 2 = nI 0 by decide)]
        exact ⟨_, _, r, rfl, rfl, rfl, hr, hc, hm⟩
  · unfold fX9_refusalOf
    rw [a1, a2, zbs, zbs, e0, if_pos z00, if_pos z00, zbs, if_neg (show ¬ (-1 : Int32) = nI 0 by decide), zbs, if_neg (show ¬ (-1 : Int32) = nI 0 by decide)]
    exact ⟨_, _, r, rfl, rfl, rfl, hr, hc, hm⟩
